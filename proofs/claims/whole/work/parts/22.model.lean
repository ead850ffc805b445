/-! what the reference's pages answer -/
theorem a11 (p : Nat) : (11 : Int32) + nI p = nI (11 + p) := nI_add 11 p
theorem a23 (p : Nat) : (23 : Int32) + nI p = nI (23 + p) := nI_add 23 p
theorem a419 (p : Nat) : (419 : Int32) + nI p = nI (419 + p) := nI_add 419 p
theorem or0 (b : Int32) : b ||| 0 = b := Int32.or_zero
def Rw (n : Nat) (S : Mem) (r : Nat) : Nat → Int32 := fun p => rdI S (r + 1) (n + p)
theorem sp_isIn (d : Nat) (a l h : Int32) (S : Mem) : cal d 158 [vI a, vI l, vI h] S = some (some (vI (b2i (decide (l ≤ a) && decide (a ≤ h)))), S) := by
  rw [B_X8_isIn]
  by_cases h1 : a < l
  · rw [if_pos h1, gd_p isZ_0, decide_eq_false (Int32.not_le.mpr h1)]; rfl
  · rw [if_neg h1, decide_eq_true (Int32.not_lt.mp h1)]
    by_cases h2 : h < a
    · rw [if_pos h2, gd_p isZ_0, decide_eq_false (Int32.not_le.mpr h2)]; rfl
    · rw [if_neg h2, gd_p isZ_1, decide_eq_true (Int32.not_lt.mp h2)]; rfl
theorem isIn_inb (n : Nat) (hn : n + 1 < 2 ^ 31) (a : Int32) : (decide (0 ≤ a) && decide (a ≤ nI n)) = inb a (n + 1) := by
  by_cases h : a < 0
  · rw [decide_eq_false (Int32.not_le.mpr h), Bool.false_and]
    cases hb : inb a (n + 1)
    · rfl
    · obtain ⟨p, hp, rfl⟩ := inb_ex hb hn
      exact absurd h (nI_pos (by omega))
  · obtain ⟨j, hj, rfl⟩ := nI_of h
    rw [inb_nI hj, decide_eq_true (Int32.not_lt.mp h), Bool.true_and]
    apply decide_eq_decide.mpr
    rw [nI_leI hj (by omega)]
    omega
theorem sp_mhas (d : Nat) (a k : Int32) (S : Mem) : cal d 160 [vI a, vI k] S = some (some (vI (b2i (decide (shrI a k &&& 1 = 1)))), S) := by
  rw [B_X8_has]
  by_cases h : shrI a k &&& 1 = 1
  · rw [if_pos h, gd_p isZ_1, decide_eq_true h]; rfl
  · rw [if_neg h, gd_p isZ_0, decide_eq_false h]; rfl
theorem sp_misNumber (d : Nat) (a : Int32) (S : Mem) : cal (d + 1) 162 [vI a] S = some (some (vI (b2i (inb a 12))), S) := by
  rw [B_X8_isNumber, sp_isIn, bI_s, ← isIn_inb 11 (by decide), gd_p (isZ_b _)]; rfl
theorem sp_misOpen (d r : Nat) (a : Int32) (S : Mem) : cal (d + 2) 163 [vR 8 r, vI a] S = some (some (vI (b2i (fOpen (Rw 11 S r) a))), S) := by
  rw [B_X8_isOpen, sp_misNumber, bI_s, ite_b0]
  unfold fOpen
  cases h : inb a 12
  · rw [if_pos rfl, gd_p isZ_0]; rfl
  · rw [if_neg (by decide)]
    obtain ⟨p, hp, rfl⟩ := inb_ex h (by decide)
    rw [a11, inb_t (by omega) (by decide), gd_t, ix_nI (by omega), x12 hp]
    by_cases h2 : rdI S (r + 1) (11 + p) = -1
    · rw [if_pos h2, gd_p isZ_0, decide_eq_false (show ¬ ¬ Rw 11 S r p = -1 from not_not_intro h2)]; rfl
    · rw [if_neg h2, gd_p isZ_1, decide_eq_true (show ¬ Rw 11 S r p = -1 from h2)]; rfl
theorem sp_mareOpen (d r : Nat) (a b : Int32) (S : Mem) : cal (d + 3) 164 [vR 8 r, vI a, vI b] S = some (some (vI (b2i (fOpen (Rw 11 S r) a && fOpen (Rw 11 S r) b))), S) := by
  rw [B_X8_areOpen, sp_misOpen, bI_s, ite_b0]
  cases fOpen (Rw 11 S r) a
  · rw [if_pos rfl, gd_p isZ_0]; rfl
  · rw [if_neg (by decide), sp_misOpen, bI_s, ite_b0]
    cases fOpen (Rw 11 S r) b
    · rw [if_pos rfl, gd_p isZ_0]; rfl
    · rw [if_neg (by decide), gd_p isZ_1]; rfl
def mPagesIn (fr : Nat → Int32) (f : Int32) : Int32 := itN (fun p b => if fr p = f then b ||| shlI 1 (nI p) else b) 12 0
theorem sp_mpagesIn (d r : Nat) (f : Int32) (S : Mem) : cal d 165 [vR 8 r, vI f] S = some (some (vI (mPagesIn (Rw 11 S r) f)), S) := by
  rw [B_X8_pagesIn]
  have key := loop_it (fun p b => ev d 165 4 [vR 8 r, vI f, vI b, vI (nI p)] [] S) 12 (fun p b => if Rw 11 S r p = f then b ||| shlI 1 (nI p) else b) (fun p b hp => by
    try dsimp only
    rw [B_X8_pagesIn_4, if_neg (n12 hp), nI_1, a11, inb_t (by omega) (by decide), gd_t, ix_nI (by omega), or0]
    by_cases h2 : rdI S (r + 1) (11 + p) = f
    · rw [if_pos h2, if_pos (show Rw 11 S r p = f from h2)]
    · rw [if_neg h2, if_neg (show ¬ Rw 11 S r p = f from h2)]) 0
  refine key.trans ?_
  try dsimp only
  rw [B_X8_pagesIn_4, if_pos y12]; rfl
theorem mPagesIn_f (fr : Nat → Int32) {f : Int32} (hf : ¬ f = -1) : mPagesIn fr f = fPagesIn fr f := by
  unfold mPagesIn fPagesIn
  refine itN_congr (fun p a _ => ?_) 0
  by_cases h : fr p = f
  · rw [if_pos h, if_pos ⟨hf, h⟩]
  · rw [if_neg h, if_neg (fun z => h z.2)]
def mLiveIn (fr lv : Nat → Int32) (f : Int32) : Int32 := itN (fun p b => if fr p = f then b ||| lv p else b) 12 0
theorem sp_mliveIn (d r : Nat) (f : Int32) (S : Mem) : cal d 166 [vR 8 r, vI f] S = some (some (vI (mLiveIn (Rw 11 S r) (Rw 23 S r) f)), S) := by
  rw [B_X8_liveIn]
  have key := loop_it (fun p b => ev d 166 4 [vR 8 r, vI f, vI b, vI (nI p)] [] S) 12 (fun p b => if Rw 11 S r p = f then b ||| Rw 23 S r p else b) (fun p b hp => by
    try dsimp only
    rw [B_X8_liveIn_4, if_neg (n12 hp), nI_1, a11, a23, inb_t (by omega) (by decide), gd_t, inb_t (by omega) (by decide), gd_t, ix_nI (by omega), ix_nI (by omega), or0]
    by_cases h2 : rdI S (r + 1) (11 + p) = f
    · rw [if_pos h2, if_pos (show Rw 11 S r p = f from h2)]; rfl
    · rw [if_neg h2, if_neg (show ¬ Rw 11 S r p = f from h2)]) 0
  refine key.trans ?_
  try dsimp only
  rw [B_X8_liveIn_4, if_pos y12]; rfl
theorem mLiveIn_f (fr lv : Nat → Int32) {f : Int32} (hf : ¬ f = -1) : mLiveIn fr lv f = fLiveIn fr lv f := by
  unfold mLiveIn fLiveIn
  refine itN_congr (fun p a _ => ?_) 0
  by_cases h : fr p = f
  · rw [if_pos h, if_pos ⟨hf, h⟩]
  · rw [if_neg h, if_neg (fun z => h z.2)]
def mUsed (fr : Nat → Int32) (f : Int32) : Bool := !(decide (mPagesIn fr f = 0))
theorem sp_misUsed (d r : Nat) (f : Int32) (S : Mem) : cal (d + 1) 167 [vR 8 r, vI f] S = some (some (vI (b2i (mUsed (Rw 11 S r) f))), S) := by
  rw [B_X8_isUsed, sp_mpagesIn, bI_s]
  unfold mUsed
  by_cases h : mPagesIn (Rw 11 S r) f = 0
  · rw [if_pos h, gd_p isZ_0, decide_eq_true h]; rfl
  · rw [if_neg h, gd_p isZ_1, decide_eq_false h]; rfl
theorem sp_musedFrames (d r : Nat) (S : Mem) : cal d 168 [vR 8 r] S = some (some (vI (fUsed (Rw 11 S r))), S) := by
  rw [B_X8_usedFrames]
  have key := loop_it (fun p b => ev d 168 4 [vR 8 r, vI b, vI (nI p)] [] S) 12 (fun p b => if Rw 11 S r p = -1 then b else b ||| shlI 1 (Rw 11 S r p)) (fun p b hp => by
    try dsimp only
    rw [B_X8_usedFrames_4, if_neg (n12 hp), nI_1, a11, inb_t (by omega) (by decide), gd_t, gd_t, ix_nI (by omega), or0]
    by_cases h2 : rdI S (r + 1) (11 + p) = -1
    · rw [if_pos h2, if_pos (show Rw 11 S r p = -1 from h2)]
    · rw [if_neg h2, if_neg (show ¬ Rw 11 S r p = -1 from h2)]; rfl) 0
  refine key.trans ?_
  try dsimp only
  rw [B_X8_usedFrames_4, if_pos y12]; rfl
theorem sp_mopenPages (d r : Nat) (S : Mem) : cal d 169 [vR 8 r] S = some (some (vI (fOpens (Rw 11 S r))), S) := by
  rw [B_X8_openPages]
  have key := loop_it (fun p b => ev d 169 4 [vR 8 r, vI b, vI (nI p)] [] S) 12 (fun p b => if Rw 11 S r p = -1 then b else b ||| shlI 1 (nI p)) (fun p b hp => by
    try dsimp only
    rw [B_X8_openPages_4, if_neg (n12 hp), nI_1, a11, inb_t (by omega) (by decide), gd_t, ix_nI (by omega), or0]
    by_cases h2 : rdI S (r + 1) (11 + p) = -1
    · rw [if_pos h2, if_pos (show Rw 11 S r p = -1 from h2)]
    · rw [if_neg h2, if_neg (show ¬ Rw 11 S r p = -1 from h2)]) 0
  refine key.trans ?_
  try dsimp only
  rw [B_X8_openPages_4, if_pos y12]; rfl
theorem i13 {k : Nat} (h : k < 13669) : inb (nI k) 13669 = true := inb_t h (by decide)
theorem i13_7 : inb 7 13669 = true := i13 (k := 7) (by decide)
theorem i13_8 : inb 8 13669 = true := i13 (k := 8) (by decide)
theorem x13_7 : ix 7 = 7 := ix_nI (p := 7) (by decide)
theorem x13_8 : ix 8 = 8 := ix_nI (p := 8) (by decide)
def mFenced (fr : Nat → Int32) (g : Int32) (p : Nat) : Bool := !(decide (g = -1)) && decide (fr p = g)
theorem sp_misFenced (d r p : Nat) (hp : p < 12) (S : Mem) : cal d 171 [vR 8 r, vI (nI p)] S = some (some (vI (b2i (mFenced (Rw 11 S r) (rdI S (r + 1) 7) p))), S) := by
  rw [B_X8_isFenced, i13_7, gd_t, gd_t, x13_7, a11, inb_t (by omega) (by decide), gd_t, ix_nI (by omega)]
  unfold mFenced
  by_cases h : rdI S (r + 1) 7 = -1
  · rw [if_pos h, gd_p isZ_0, decide_eq_true h]; rfl
  · rw [if_neg h, decide_eq_false h]
    by_cases h2 : rdI S (r + 1) (11 + p) = rdI S (r + 1) 7
    · rw [if_pos h2, gd_p isZ_1, decide_eq_true (show Rw 11 S r p = _ from h2)]; rfl
    · rw [if_neg h2, gd_p isZ_0, decide_eq_false (show ¬ Rw 11 S r p = _ from h2)]; rfl
def mBound (g s f : Int32) : Bool := !(decide (g = -1)) && (decide (f = g) || decide (f = s))
theorem sp_misBound (d r : Nat) (f : Int32) (S : Mem) : cal d 172 [vR 8 r, vI f] S = some (some (vI (b2i (mBound (rdI S (r + 1) 7) (rdI S (r + 1) 8) f))), S) := by
  rw [B_X8_isBound, i13_7, gd_t, gd_t, x13_7, i13_8, gd_t, x13_8]
  unfold mBound
  by_cases h : rdI S (r + 1) 7 = -1
  · rw [if_pos h, gd_p isZ_0, decide_eq_true h]; rfl
  · rw [if_neg h, decide_eq_false h]
    by_cases h2 : f = rdI S (r + 1) 7
    · rw [if_pos h2, gd_p isZ_1, decide_eq_true h2]; rfl
    · rw [if_neg h2, decide_eq_false h2]
      by_cases h3 : f = rdI S (r + 1) 8
      · rw [if_pos h3, gd_p isZ_1, decide_eq_true h3]; rfl
      · rw [if_neg h3, gd_p isZ_0, decide_eq_false h3]; rfl
def mLive (fr lv : Nat → Int32) (a : Int32) : Bool := inb a 192 && (fOpen fr (a / 16) && decide (shrI (lv (ix (a / 16))) (remI a 16) &&& 1 = 1))
theorem sp_misLive (d r : Nat) (a : Int32) (S : Mem) : cal (d + 3) 174 [vR 8 r, vI a] S = some (some (vI (b2i (mLive (Rw 11 S r) (Rw 23 S r) a))), S) := by
  rw [B_X8_isLive, sp_isIn, bI_s, ite_b0]
  have e := isIn_inb 191 (by decide) a
  unfold mLive
  rw [show (decide ((0 : Int32) ≤ a) && decide (a ≤ (191 : Int32))) = inb a 192 from e]
  cases h : inb a 192
  · rw [if_pos rfl, gd_p isZ_0]; rfl
  · rw [if_neg (by decide), gd_p nz16, sp_misOpen, bI_s, ite_b0]
    obtain ⟨q, hq, rfl⟩ := inb_ex h (by decide)
    rw [div16 (by omega), rem16 (by omega)]
    cases h2 : fOpen (Rw 11 S r) (nI (q / 16))
    · rw [if_pos rfl, gd_p isZ_0]; rfl
    · rw [if_neg (by decide), gd_p nz16, a23, inb_t (by omega) (by decide), gd_t, gd_p nz16, ix_nI (by omega), ix_nI (by omega), sp_mhas, bI_s, ite_b0]
      show (if decide (shrI (Rw 23 S r (q / 16)) (nI (q % 16)) &&& 1 = 1) = false then _ else _) = _
      cases decide (shrI (Rw 23 S r (q / 16)) (nI (q % 16)) &&& 1 = 1)
      · rw [if_pos rfl, gd_p isZ_0]; rfl
      · rw [if_neg (by decide), gd_p isZ_1]; rfl
theorem sp_mvalueAt (d r f i : Nat) (hf : f < 12) (hi : i < 16) (S : Mem) : cal d 175 [vR 8 r, vI (nI f), vI (nI i)] S = some (some (vI (Rw 227 S r (f * 16 + i))), S) := by
  rw [B_X8_valueAt]
  rw [show ((227 : Int32) + 16 * nI f) + nI i = nI (227 + (f * 16 + i)) by
    show (nI 227 + nI 16 * nI f) + nI i = _
    rw [pk_mul, nI_add, nI_add]
    congr 1; omega]
  rw [i13 (by omega), gd_t, ix_nI (by omega)]; rfl
