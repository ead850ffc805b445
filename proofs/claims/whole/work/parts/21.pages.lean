/-! what the class's pages answer -/
theorem ifr (n : Nat) (hn : n < 2 ^ 31) {α : Type} (a : Int32) (x z : α) : (if a < 0 then x else if nI n ≤ a then x else z) = if inb a n = true then z else x := by
  by_cases h0 : a < 0
  · rw [if_pos h0, if_neg]
    intro h
    obtain ⟨p, hp, rfl⟩ := inb_ex h hn
    exact nI_pos (by omega) h0
  · rw [if_neg h0]
    obtain ⟨j, hj, rfl⟩ := nI_of h0
    rw [le_lit n hn hj, inb_nI hj]
    by_cases h : n ≤ j
    · rw [if_pos h, if_neg (by simp; omega)]
    · rw [if_neg h, if_pos (by simp; omega)]
def fOpen (fr : Nat → Int32) (a : Int32) : Bool := inb a 12 && decide (¬ fr (ix a) = -1)
def fFenced (fr : Nat → Int32) (g a : Int32) : Bool := fOpen fr a && decide (fr (ix a) = g)
def bitc (a0 : Int32) : Int32 := ((((((((a0 - ((ushI a0 1) &&& 1431655765)) &&& 858993459) + ((ushI (a0 - ((ushI a0 1) &&& 1431655765)) 2) &&& 858993459)) + (ushI (((a0 - ((ushI a0 1) &&& 1431655765)) &&& 858993459) + ((ushI (a0 - ((ushI a0 1) &&& 1431655765)) 2) &&& 858993459)) 4)) &&& 252645135) + (ushI (((((a0 - ((ushI a0 1) &&& 1431655765)) &&& 858993459) + ((ushI (a0 - ((ushI a0 1) &&& 1431655765)) 2) &&& 858993459)) + (ushI (((a0 - ((ushI a0 1) &&& 1431655765)) &&& 858993459) + ((ushI (a0 - ((ushI a0 1) &&& 1431655765)) 2) &&& 858993459)) 4)) &&& 252645135) 8)) + (ushI ((((((a0 - ((ushI a0 1) &&& 1431655765)) &&& 858993459) + ((ushI (a0 - ((ushI a0 1) &&& 1431655765)) 2) &&& 858993459)) + (ushI (((a0 - ((ushI a0 1) &&& 1431655765)) &&& 858993459) + ((ushI (a0 - ((ushI a0 1) &&& 1431655765)) 2) &&& 858993459)) 4)) &&& 252645135) + (ushI (((((a0 - ((ushI a0 1) &&& 1431655765)) &&& 858993459) + ((ushI (a0 - ((ushI a0 1) &&& 1431655765)) 2) &&& 858993459)) + (ushI (((a0 - ((ushI a0 1) &&& 1431655765)) &&& 858993459) + ((ushI (a0 - ((ushI a0 1) &&& 1431655765)) 2) &&& 858993459)) 4)) &&& 252645135) 8)) 16)) &&& 63)
theorem sp_bitCount (d : Nat) (a : Int32) (S : Mem) : cal d 318 [vI a] S = some (some (vI (bitc a)), S) := B_J6_bitCount_0f7a4 d a S
theorem sp_isOpen (d t : Nat) (a : Int32) (S : Mem) : cal d 6 [vR 1 t, vI a] S = some (some (vI (b2i (fOpen (rdI S (t + 1)) a))), S) := by
  rw [B_X1_isOpen]
  show (if a < 0 then _ else if nI 12 ≤ a then _ else _) = _
  rw [ifr 12 (by decide)]
  unfold fOpen
  by_cases h : inb a 12 = true
  · rw [if_pos h, gd_p h, h]
    by_cases h2 : rdI S (t + 1) (ix a) = -1
    · rw [if_pos h2, decide_eq_false (not_not_intro h2), gd_p isZ_0]; rfl
    · rw [if_neg h2, decide_eq_true h2, gd_p isZ_1]; rfl
  · rw [if_neg h, gd_p isZ_0, Bool.eq_false_iff.mpr h]; rfl
theorem sp_isFenced (d t : Nat) (a : Int32) (S : Mem) : cal (d + 1) 7 [vR 1 t, vI a] S = some (some (vI (b2i (fFenced (rdI S (t + 1)) (rdI S t 3) a))), S) := by
  rw [B_X1_isFenced, sp_isOpen, bI_s, b2i_0]
  unfold fFenced
  cases h : fOpen (rdI S (t + 1)) a
  · rw [if_pos rfl, gd_p isZ_0]; rfl
  · rw [if_neg (by decide)]
    have hb : inb a 12 = true := by
      unfold fOpen at h
      rw [Bool.and_eq_true] at h
      exact h.1
    rw [gd_p hb]
    by_cases h2 : rdI S (t + 1) (ix a) = rdI S t 3
    · rw [if_pos h2, gd_p isZ_1, decide_eq_true h2]; rfl
    · rw [if_neg h2, gd_p isZ_0, decide_eq_false h2]; rfl
/-- the slots that are live in a frame -/
def fLiveIn (fr lv : Nat → Int32) (f : Int32) : Int32 := itN (fun p b => if ¬ f = -1 ∧ fr p = f then b ||| lv p else b) 12 0
theorem sp_liveIn (d t : Nat) (f : Int32) (S : Mem) : cal d 15 [vR 1 t, vI f] S = some (some (vI (fLiveIn (rdI S (t + 1)) (rdI S (t + 2)) f)), S) := by
  rw [B_X1_liveIn]
  have key := loop_it (fun p b => ev d 15 4 [vR 1 t, vI f, vI b, vI (nI p)] [] S) 12 (fun p b => if ¬ f = -1 ∧ rdI S (t + 1) p = f then b ||| rdI S (t + 2) p else b) (fun p b hp => by
    dsimp only
    rw [B_X1_liveIn_4, if_neg (show ¬ nI 12 ≤ nI p by rw [le_lit 12 (by decide) (by omega)]; omega), nI_1, inb_t hp (by decide), gd_t, gd_t, ix_nI (by omega)]
    by_cases h1 : f = -1
    · rw [if_pos h1, if_neg (fun z => z.1 h1)]
    · rw [if_neg h1]
      by_cases h2 : rdI S (t + 1) p = f
      · rw [if_pos h2, if_pos ⟨h1, h2⟩]
      · rw [if_neg h2, if_neg (fun z => h2 z.2)]) 0
  refine key.trans ?_
  dsimp only
  rw [B_X1_liveIn_4, if_pos (show nI 12 ≤ nI 12 by decide)]
  rfl
