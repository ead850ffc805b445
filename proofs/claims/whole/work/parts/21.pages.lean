/-! what the class's pages answer -/
theorem ifr (n : Nat) (hn : n < 2 ^ 31) {α : Type} (a : Int32) (x z : α) : (if a < 0 then x else if nI n ≤ a then x else z) = if inb a n = true then z else x := by
  by_cases h0 : a < 0
  · rw [if_pos h0, if_neg]
    intro h
    obtain ⟨p, hp, rfl⟩ := inb_ex h hn
    exact nI_pos (by omega) h0
  · rw [if_neg h0]
    obtain ⟨j, hj, rfl⟩ := nI_of h0
    rw [inb_nI hj]
    by_cases h : n ≤ j
    · rw [if_pos ((nI_leI hn hj).mpr h), if_neg (by simp; omega)]
    · rw [if_neg (fun z => h ((nI_leI hn hj).mp z)), if_pos (by simp; omega)]
def fOpen (fr : Nat → Int32) (a : Int32) : Bool := inb a 12 && decide (¬ fr (ix a) = -1)
def fFenced (fr : Nat → Int32) (g a : Int32) : Bool := fOpen fr a && decide (fr (ix a) = g)
def bitc (a0 : Int32) : Int32 := ((((((((a0 - ((ushI a0 1) &&& 1431655765)) &&& 858993459) + ((ushI (a0 - ((ushI a0 1) &&& 1431655765)) 2) &&& 858993459)) + (ushI (((a0 - ((ushI a0 1) &&& 1431655765)) &&& 858993459) + ((ushI (a0 - ((ushI a0 1) &&& 1431655765)) 2) &&& 858993459)) 4)) &&& 252645135) + (ushI (((((a0 - ((ushI a0 1) &&& 1431655765)) &&& 858993459) + ((ushI (a0 - ((ushI a0 1) &&& 1431655765)) 2) &&& 858993459)) + (ushI (((a0 - ((ushI a0 1) &&& 1431655765)) &&& 858993459) + ((ushI (a0 - ((ushI a0 1) &&& 1431655765)) 2) &&& 858993459)) 4)) &&& 252645135) 8)) + (ushI ((((((a0 - ((ushI a0 1) &&& 1431655765)) &&& 858993459) + ((ushI (a0 - ((ushI a0 1) &&& 1431655765)) 2) &&& 858993459)) + (ushI (((a0 - ((ushI a0 1) &&& 1431655765)) &&& 858993459) + ((ushI (a0 - ((ushI a0 1) &&& 1431655765)) 2) &&& 858993459)) 4)) &&& 252645135) + (ushI (((((a0 - ((ushI a0 1) &&& 1431655765)) &&& 858993459) + ((ushI (a0 - ((ushI a0 1) &&& 1431655765)) 2) &&& 858993459)) + (ushI (((a0 - ((ushI a0 1) &&& 1431655765)) &&& 858993459) + ((ushI (a0 - ((ushI a0 1) &&& 1431655765)) 2) &&& 858993459)) 4)) &&& 252645135) 8)) 16)) &&& 63)
theorem sp_bitCount (d : Nat) (a : Int32) (S : Mem) : cal d 318 [vI a] S = some (some (vI (bitc a)), S) := B_J6_bitCount_0f7a4 d a S
theorem sp_isOpen (d t : Nat) (a : Int32) (S : Mem) : cal d 6 [vR 1 t, vI a] S = some (some (vI (b2i (fOpen (rdI S (t + 1)) a))), S) := by
  rw [B_X1_isOpen]
  show (if a < 0 then _ else if nI 12 ≤ a then _ else _) = _
  rw [ifr 12 (by decide)]
  unfold fOpen
  by_cases h : inb a 12 = true
  · rw [if_pos h, gd_p h, h]
    by_cases h2 : rdI S (t + 1) (ix a) = -1
    · rw [if_pos h2, decide_eq_false (not_not_intro h2), gd_p isZ_0]; rfl
    · rw [if_neg h2, decide_eq_true h2, gd_p isZ_1]; rfl
  · rw [if_neg h, gd_p isZ_0, Bool.eq_false_iff.mpr h]; rfl
theorem sp_isFenced (d t : Nat) (a : Int32) (S : Mem) : cal (d + 1) 7 [vR 1 t, vI a] S = some (some (vI (b2i (fFenced (rdI S (t + 1)) (rdI S t 3) a))), S) := by
  rw [B_X1_isFenced, sp_isOpen, bI_s, ite_b0]
  unfold fFenced
  cases h : fOpen (rdI S (t + 1)) a
  · rw [if_pos rfl, gd_p isZ_0]; rfl
  · rw [if_neg (by decide)]
    have hb : inb a 12 = true := by
      unfold fOpen at h
      rw [Bool.and_eq_true] at h
      exact h.1
    rw [gd_p hb]
    by_cases h2 : rdI S (t + 1) (ix a) = rdI S t 3
    · rw [if_pos h2, gd_p isZ_1, decide_eq_true h2]; rfl
    · rw [if_neg h2, gd_p isZ_0, decide_eq_false h2]; rfl
/-- the slots that are live in a frame -/
def fLiveIn (fr lv : Nat → Int32) (f : Int32) : Int32 := itN (fun p b => if ¬ f = -1 ∧ fr p = f then b ||| lv p else b) 12 0
theorem sp_liveIn (d t : Nat) (f : Int32) (S : Mem) : cal d 15 [vR 1 t, vI f] S = some (some (vI (fLiveIn (rdI S (t + 1)) (rdI S (t + 2)) f)), S) := by
  rw [B_X1_liveIn]
  have key := loop_it (fun p b => ev d 15 4 [vR 1 t, vI f, vI b, vI (nI p)] [] S) 12 (fun p b => if ¬ f = -1 ∧ rdI S (t + 1) p = f then b ||| rdI S (t + 2) p else b) (fun p b hp => by
    try dsimp only
    rw [B_X1_liveIn_4, if_neg (n12 hp), nI_1, inb_t hp (by decide), gd_t, gd_t, ix_nI (by omega)]
    by_cases h1 : f = -1
    · rw [if_pos h1, if_neg (fun z => z.1 h1)]
    · rw [if_neg h1]
      by_cases h2 : rdI S (t + 1) p = f
      · rw [if_pos h2, if_pos ⟨h1, h2⟩]
      · rw [if_neg h2, if_neg (fun z => h2 z.2)]) 0
  refine key.trans ?_
  try dsimp only
  rw [B_X1_liveIn_4, if_pos y12]
  rfl
theorem fLiveIn_m1 (fr lv : Nat → Int32) : fLiveIn fr lv (-1) = 0 := by
  unfold fLiveIn
  rw [itN_congr (g := fun _ b => b) (fun p b _ => if_neg (fun z => z.1 rfl))]
  rfl
def fLive (lv : Nat → Int32) (a : Int32) : Bool := inb a 192 && decide (shrI (lv (ix (a / 16))) (remI a 16) &&& 1 = 1)
theorem div16 {q : Nat} (h : q < 2 ^ 31) : nI q / 16 = nI (q / 16) := pk_div (d := 16) h (by decide) (by decide)
theorem rem16 {q : Nat} (h : q < 2 ^ 31) : remI (nI q) 16 = nI (q % 16) := pk_rem (d := 16) h (by decide) (by decide)
theorem nz16 : nz 16 = true := by decide
theorem inb16 {a : Int32} (h : inb a 192 = true) : inb (a / 16) 12 = true := by
  obtain ⟨q, hq, rfl⟩ := inb_ex h (by decide)
  rw [div16 (by omega)]
  exact inb_t (by omega) (by decide)
theorem sp_isLive (d t : Nat) (a : Int32) (S : Mem) : cal d 8 [vR 1 t, vI a] S = some (some (vI (b2i (fLive (rdI S (t + 2)) a))), S) := by
  rw [B_X1_isLive]
  show (if a < 0 then _ else if nI 192 ≤ a then _ else _) = _
  rw [ifr 192 (by decide)]
  unfold fLive
  by_cases h : inb a 192 = true
  · rw [if_pos h, gd_p nz16, gd_p (inb16 h), gd_p nz16, h]
    by_cases h2 : shrI (rdI S (t + 2) (ix (a / 16))) (remI a 16) &&& 1 = 1
    · rw [if_pos h2, gd_p isZ_1, decide_eq_true h2]; rfl
    · rw [if_neg h2, gd_p isZ_0, decide_eq_false h2]; rfl
  · rw [if_neg h, gd_p isZ_0, Bool.eq_false_iff.mpr h]; rfl
def fReach (fr lv : Nat → Int32) (g a : Int32) : Bool := fLive lv a && !(fFenced fr g (a / 16))
theorem sp_isReachable (d t : Nat) (a : Int32) (S : Mem) : cal (d + 2) 9 [vR 1 t, vI a] S = some (some (vI (b2i (fReach (rdI S (t + 1)) (rdI S (t + 2)) (rdI S t 3) a))), S) := by
  rw [B_X1_isReachable, sp_isLive, bI_s, ite_b0]
  unfold fReach
  cases h : fLive (rdI S (t + 2)) a
  · rw [if_pos rfl, gd_p isZ_0]; rfl
  · rw [if_neg (by decide), gd_p nz16, sp_isFenced, bI_s, ite_b0]
    cases h2 : fFenced (rdI S (t + 1)) (rdI S t 3) (a / 16)
    · rw [if_pos rfl, gd_p isZ_1]; rfl
    · rw [if_neg (by decide), gd_p isZ_0]; rfl
def fCell (fr : Nat → Int32) (a : Int32) : Int32 := if inb a 192 = true ∧ fOpen fr (a / 16) = true then fr (ix (a / 16)) * 16 + remI a 16 else -1
theorem sp_cellOf (d t : Nat) (a : Int32) (S : Mem) : cal (d + 1) 10 [vR 1 t, vI a] S = some (some (vI (fCell (rdI S (t + 1)) a)), S) := by
  rw [B_X1_cellOf]
  show (if a < 0 then _ else if nI 192 ≤ a then _ else _) = _
  rw [ifr 192 (by decide)]
  unfold fCell
  by_cases h : inb a 192 = true
  · rw [if_pos h, gd_p nz16, sp_isOpen, bI_s, ite_b0]
    cases h2 : fOpen (rdI S (t + 1)) (a / 16)
    · rw [if_pos rfl, if_neg (by rintro ⟨-, z⟩; cases z)]
    · rw [if_neg (by decide), gd_p nz16, gd_p (inb16 h), gd_p nz16, if_pos ⟨h, rfl⟩]
  · rw [if_neg h, if_neg (fun z => h z.1)]
/-- places of pages: none, or a frame -/
def FrOK (fr : Nat → Int32) : Prop := ∀ p, p < 12 → fr p = -1 ∨ ∃ f : Nat, f < 12 ∧ fr p = nI f
theorem fOpen_ex {fr : Nat → Int32} (hF : FrOK fr) {a : Int32} (h : fOpen fr a = true) : ∃ p f : Nat, p < 12 ∧ f < 12 ∧ a = nI p ∧ fr p = nI f := by
  unfold fOpen at h
  rw [Bool.and_eq_true] at h
  obtain ⟨p, hp, rfl⟩ := inb_ex h.1 (by decide)
  have h2 := of_decide_eq_true h.2
  rw [ix_nI (by omega)] at h2
  rcases hF p hp with z | ⟨f, hf, z⟩
  · exact absurd z h2
  · exact ⟨p, f, hp, hf, rfl, z⟩
theorem fCell_in {fr : Nat → Int32} (hF : FrOK fr) (a : Int32) : (fCell fr a = -1 ∧ ¬ (inb a 192 = true ∧ fOpen fr (a / 16) = true)) ∨ ∃ q p f : Nat, q < 192 ∧ a = nI q ∧ p = q / 16 ∧ f < 12 ∧ fr p = nI f ∧ fCell fr a = nI (f * 16 + q % 16) ∧ f * 16 + q % 16 < 192 := by
  unfold fCell
  by_cases h : inb a 192 = true ∧ fOpen fr (a / 16) = true
  · rw [if_pos h]
    right
    obtain ⟨q, hq, rfl⟩ := inb_ex h.1 (by decide)
    obtain ⟨p, f, hp, hf, e1, e2⟩ := fOpen_ex hF h.2
    rw [div16 (by omega)] at e1 ⊢
    have e3 : q / 16 = p := (nI_eq (by omega) (by omega)).mp e1
    refine ⟨q, p, f, hq, rfl, e3.symm, hf, e2, ?_, by omega⟩
    rw [ix_nI (by omega), e3, e2, rem16 (by omega)]
    show nI f * nI 16 + nI (q % 16) = _
    rw [pk_mul, nI_add]
  · rw [if_neg h]
    exact Or.inl ⟨rfl, h⟩
theorem m1_neg : ¬ (0 : Int32) ≤ -1 := by decide
theorem m1_lt : (-1 : Int32) < 0 := by decide
def fValAt (fr val : Nat → Int32) (a : Int32) : Int32 := if inb a 192 = true ∧ fOpen fr (a / 16) = true then val (ix (fCell fr a)) else -1
theorem sp_valueAt (d t : Nat) (a : Int32) (S : Mem) (hF : FrOK (rdI S (t + 1))) : cal (d + 2) 11 [vR 1 t, vI a] S = some (some (vI (fValAt (rdI S (t + 1)) (rdI S (t + 4)) a)), S) := by
  rw [B_X1_valueAt, sp_cellOf, bI_s]
  unfold fValAt
  rcases fCell_in hF a with ⟨e, hn⟩ | ⟨q, p, f, hq, rfl, hp, hf, e2, e3, e4⟩
  · rw [e, if_neg m1_neg, if_neg hn]
  · rw [e3, if_pos (nI_pos' (by omega)), gd_p (inb_t e4 (by decide))]
    have hy : inb (nI q) 192 = true ∧ fOpen (rdI S (t + 1)) (nI q / 16) = true := by
      by_cases z : inb (nI q) 192 = true ∧ fOpen (rdI S (t + 1)) (nI q / 16) = true
      · exact z
      · unfold fCell at e3
        rw [if_neg z] at e3
        exact absurd e3 (fun y => nI_pos (n := f * 16 + q % 16) (by omega) (by rw [← y]; decide))
    rw [if_pos hy]
theorem sp_putAt (d t : Nat) (a v : Int32) (S : Mem) (hF : FrOK (rdI S (t + 1))) : cal (d + 2) 12 [vR 1 t, vI a, vI v] S = some (none, if inb a 192 = true ∧ fOpen (rdI S (t + 1)) (a / 16) = true then wrI S (t + 4) (ix (fCell (rdI S (t + 1)) a)) v else S) := by
  rw [B_X1_putAt, sp_cellOf, bI_s]
  rcases fCell_in hF a with ⟨e, hn⟩ | ⟨q, p, f, hq, rfl, hp, hf, e2, e3, e4⟩
  · rw [e, if_pos m1_lt, if_neg hn]
  · have hy : inb (nI q) 192 = true ∧ fOpen (rdI S (t + 1)) (nI q / 16) = true := by
      by_cases z : inb (nI q) 192 = true ∧ fOpen (rdI S (t + 1)) (nI q / 16) = true
      · exact z
      · unfold fCell at e3
        rw [if_neg z] at e3
        exact absurd e3 (fun y => nI_pos (n := f * 16 + q % 16) (by omega) (by rw [← y]; decide))
    rw [if_pos hy, e3, if_neg (nI_pos (by omega)), gd_p (inb_t e4 (by decide))]
def fPagesIn (fr : Nat → Int32) (f : Int32) : Int32 := itN (fun p b => if ¬ f = -1 ∧ fr p = f then b ||| shlI 1 (nI p) else b) 12 0
theorem sp_pagesIn (d t : Nat) (f : Int32) (S : Mem) : cal d 13 [vR 1 t, vI f] S = some (some (vI (fPagesIn (rdI S (t + 1)) f)), S) := by
  rw [B_X1_pagesIn]
  have key := loop_it (fun p b => ev d 13 4 [vR 1 t, vI f, vI b, vI (nI p)] [] S) 12 (fun p b => if ¬ f = -1 ∧ rdI S (t + 1) p = f then b ||| shlI 1 (nI p) else b) (fun p b hp => by
    try dsimp only
    rw [B_X1_pagesIn_4, if_neg (n12 hp), nI_1, i12 hp, gd_t, x12 hp]
    by_cases h1 : f = -1
    · rw [if_pos h1, if_neg (fun z => z.1 h1)]
    · rw [if_neg h1]
      by_cases h2 : rdI S (t + 1) p = f
      · rw [if_pos h2, if_pos ⟨h1, h2⟩]
      · rw [if_neg h2, if_neg (fun z => h2 z.2)]) 0
  refine key.trans ?_
  try dsimp only
  rw [B_X1_pagesIn_4, if_pos y12]; rfl
def fLowIn (fr : Nat → Int32) (f : Int32) : Option Nat := ffind (fun p => decide (fr p = f)) 0 12
theorem sp_lowestPageIn (d t : Nat) (f : Int32) (S : Mem) : cal d 14 [vR 1 t, vI f] S = some (some (vI (oI (fLowIn (rdI S (t + 1)) f))), S) := by
  rw [B_X1_lowestPageIn]
  have key := loop_find (fun p => ev d 14 2 [vR 1 t, vI f, vI (nI p)] [] S) (fun p => decide (rdI S (t + 1) p = f)) (fun p => some (some (vI (nI p)), S)) 12 0 (fun p _ hp => by
    rw [Nat.zero_add] at hp
    try dsimp only
    rw [B_X1_lowestPageIn_2, if_neg (n12 hp), nI_1, i12 hp, gd_t, x12 hp]
    by_cases h2 : rdI S (t + 1) p = f
    · rw [if_pos h2, if_pos (decide_eq_true h2)]
    · rw [if_neg h2, if_neg (by simpa using h2)])
  refine key.trans ?_
  unfold fLowIn
  cases ffind (fun p => decide (rdI S (t + 1) p = f)) 0 12 with
  | some p => rfl
  | none => dsimp only; rw [B_X1_lowestPageIn_2, if_pos y12]; rfl
def fUsed (fr : Nat → Int32) : Int32 := itN (fun p b => if fr p = -1 then b else b ||| shlI 1 (fr p)) 12 0
theorem sp_framesUsed (d t : Nat) (S : Mem) : cal d 16 [vR 1 t] S = some (some (vI (fUsed (rdI S (t + 1)))), S) := by
  rw [B_X1_framesUsed]
  have key := loop_it (fun p b => ev d 16 4 [vR 1 t, vI b, vI (nI p)] [] S) 12 (fun p b => if rdI S (t + 1) p = -1 then b else b ||| shlI 1 (rdI S (t + 1) p)) (fun p b hp => by
    try dsimp only
    rw [B_X1_framesUsed_4, if_neg (n12 hp), nI_1, i12 hp, gd_t, gd_t, x12 hp]
    by_cases h2 : rdI S (t + 1) p = -1
    · rw [if_pos h2, if_pos h2]
    · rw [if_neg h2, if_neg h2]) 0
  refine key.trans ?_
  try dsimp only
  rw [B_X1_framesUsed_4, if_pos y12]; rfl
def fOpens (fr : Nat → Int32) : Int32 := itN (fun p b => if fr p = -1 then b else b ||| shlI 1 (nI p)) 12 0
theorem sp_openPages (d t : Nat) (S : Mem) : cal d 17 [vR 1 t] S = some (some (vI (fOpens (rdI S (t + 1)))), S) := by
  rw [B_X1_openPages]
  have key := loop_it (fun p b => ev d 17 4 [vR 1 t, vI b, vI (nI p)] [] S) 12 (fun p b => if rdI S (t + 1) p = -1 then b else b ||| shlI 1 (nI p)) (fun p b hp => by
    try dsimp only
    rw [B_X1_openPages_4, if_neg (n12 hp), nI_1, i12 hp, gd_t, x12 hp]
    by_cases h2 : rdI S (t + 1) p = -1
    · rw [if_pos h2, if_pos h2]
    · rw [if_neg h2, if_neg h2]) 0
  refine key.trans ?_
  try dsimp only
  rw [B_X1_openPages_4, if_pos y12]; rfl
def fTotal (lv : Nat → Int32) : Int32 := itN (fun p b => b + bitc (lv p)) 12 0
theorem sp_liveTotal (d t : Nat) (S : Mem) : cal (d + 1) 18 [vR 1 t] S = some (some (vI (fTotal (rdI S (t + 2)))), S) := by
  rw [B_X1_liveTotal]
  have key := loop_it (fun p b => ev (d + 1) 18 4 [vR 1 t, vI b, vI (nI p)] [] S) 12 (fun p b => b + bitc (rdI S (t + 2) p)) (fun p b hp => by
    try dsimp only
    rw [B_X1_liveTotal_4, if_neg (n12 hp), i12 hp, gd_t, sp_bitCount, bI_s, nI_1, x12 hp]) 0
  refine key.trans ?_
  try dsimp only
  rw [B_X1_liveTotal_4, if_pos y12]; rfl
def fSparse (fr lv : Nat → Int32) (g s : Int32) : Int32 := itN (fun f b => if 0 < bitc (fLiveIn fr lv (nI f)) ∧ bitc (fLiveIn fr lv (nI f)) ≤ 8 ∧ ¬ nI f = g ∧ ¬ nI f = s then b ||| shlI 1 (nI f) else b) 12 0
theorem sp_sparseFrames (d t : Nat) (S : Mem) : cal (d + 1) 19 [vR 1 t] S = some (some (vI (fSparse (rdI S (t + 1)) (rdI S (t + 2)) (rdI S t 3) (rdI S t 4))), S) := by
  rw [B_X1_sparseFrames]
  obtain ⟨u, key⟩ := loop_itU (fun p u b => ev (d + 1) 19 4 [vR 1 t, vI b, vI (nI p), u] [] S) 12 (fun f b => if 0 < bitc (fLiveIn (rdI S (t + 1)) (rdI S (t + 2)) (nI f)) ∧ bitc (fLiveIn (rdI S (t + 1)) (rdI S (t + 2)) (nI f)) ≤ 8 ∧ ¬ nI f = rdI S t 3 ∧ ¬ nI f = rdI S t 4 then b ||| shlI 1 (nI f) else b) (fun p u b hp => by
    refine ⟨vU, ?_⟩
    try dsimp only
    rw [B_X1_sparseFrames_4, if_neg (n12 hp), sp_liveIn, bI_s, sp_bitCount, bI_s, nI_1]
    by_cases h1 : bitc (fLiveIn (rdI S (t + 1)) (rdI S (t + 2)) (nI p)) ≤ 0
    · rw [if_pos h1, if_neg (fun z => absurd z.1 (Int32.not_lt.mpr h1))]
    · rw [if_neg h1]
      by_cases h2 : 8 < bitc (fLiveIn (rdI S (t + 1)) (rdI S (t + 2)) (nI p))
      · rw [if_pos h2, if_neg (fun z => absurd z.2.1 (Int32.not_le.mpr h2))]
      · rw [if_neg h2]
        by_cases h3 : nI p = rdI S t 3
        · rw [if_pos h3, if_neg (fun z => z.2.2.1 h3)]
        · rw [if_neg h3]
          by_cases h4 : nI p = rdI S t 4
          · rw [if_pos h4, if_neg (fun z => z.2.2.2 h4)]
          · rw [if_neg h4, if_pos ⟨Int32.not_le.mp h1, Int32.not_lt.mp h2, h3, h4⟩]) vU 0
  refine key.trans ?_
  try dsimp only
  rw [B_X1_sparseFrames_4, if_pos y12]; rfl
/-- what is taken in a page's frame; the slot it would give out -/
def fTaken (fr lv : Nat → Int32) (g s : Int32) (p : Nat) : Int32 := if fr p = s then fLiveIn fr lv (fr p) ||| fLiveIn fr lv g else fLiveIn fr lv (fr p)
def fSlot (fr lv vec : Nat → Int32) (g s a : Int32) : Int32 := if fOpen fr a = true ∧ fFenced fr g a = false then
  (match ffind (fun i => decide (shrI (fTaken fr lv g s (ix a)) (vec (ix a * 16 + i)) &&& 1 = 0)) 0 16 with
  | some i => vec (ix a * 16 + i)
  | none => -1) else -1
theorem sp_slotToGive (d t : Nat) (a : Int32) (S : Mem) : cal (d + 2) 22 [vR 1 t, vI a] S = some (some (vI (fSlot (rdI S (t + 1)) (rdI S (t + 2)) (rdI S (t + 3)) (rdI S t 3) (rdI S t 4) a)), S) := by
  rw [B_X1_slotToGive, sp_isOpen, bI_s, ite_b0]
  unfold fSlot
  cases h : fOpen (rdI S (t + 1)) a
  · rw [if_pos rfl, if_neg (by rintro ⟨z, -⟩; cases z)]
  · rw [if_neg (by decide), sp_isFenced, bI_s, ite_b0]
    have hb : inb a 12 = true := by unfold fOpen at h; rw [Bool.and_eq_true] at h; exact h.1
    obtain ⟨p, hp, rfl⟩ := inb_ex hb (by decide)
    cases h2 : fFenced (rdI S (t + 1)) (rdI S t 3) (nI p)
    · rw [if_pos rfl, if_pos ⟨rfl, rfl⟩, i12 hp, gd_t, sp_liveIn, bI_s, gd_t, x12 hp]
      have lp : ∀ tk : Int32, ev (d + 2) 22 55 [vR 1 t, vI (nI p), vI tk, vI 0, vU] [] S = some (some (vI (match ffind (fun i => decide (shrI tk (rdI S (t + 3) (p * 16 + i)) &&& 1 = 0)) 0 16 with
          | some i => rdI S (t + 3) (p * 16 + i)
          | none => -1)), S) := by
        intro tk
        have ea : ∀ i : Nat, i < 16 → nI p * 16 + nI i = nI (p * 16 + i) := fun i hi => by
          show nI p * nI 16 + nI i = _
          rw [pk_mul, nI_add]
        obtain ⟨u, key⟩ := loop_findU (fun i u => ev (d + 2) 22 55 [vR 1 t, vI (nI p), vI tk, vI (nI i), u] [] S) (fun i => decide (shrI tk (rdI S (t + 3) (p * 16 + i)) &&& 1 = 0)) (fun i => some (some (vI (rdI S (t + 3) (p * 16 + i))), S)) 16 0 (fun i u _ hi => by
          rw [Nat.zero_add] at hi
          refine ⟨vI (rdI S (t + 3) (p * 16 + i)), ?_⟩
          try dsimp only
          rw [B_X1_slotToGive_55, if_neg (n16 hi), ea i hi, inb_t (by omega) (by decide), gd_t, ix_nI (by omega), nI_1]
          by_cases hc : shrI tk (rdI S (t + 3) (p * 16 + i)) &&& 1 = 0
          · rw [if_pos hc, if_pos (decide_eq_true hc)]
          · rw [if_neg hc, if_neg (by simpa using hc)]) vU
        refine key.trans ?_
        cases ffind (fun i => decide (shrI tk (rdI S (t + 3) (p * 16 + i)) &&& 1 = 0)) 0 16 with
        | some i => rfl
        | none => dsimp only; rw [B_X1_slotToGive_55, if_pos y16]
      unfold fTaken
      by_cases h3 : rdI S (t + 1) p = rdI S t 4
      · rw [if_pos h3, sp_liveIn, bI_s, lp, if_pos h3]
      · rw [if_neg h3, lp, if_neg h3]
    · rw [if_neg (by decide), if_neg (by rintro ⟨-, z⟩; cases z)]
