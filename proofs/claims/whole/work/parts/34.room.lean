/-! room to give: as each side asks it -/
theorem oI_m1' {o : Option Nat} (h : ∀ p, o = some p → p < 2 ^ 31) : (oI o = -1) = (o = none) := by
  cases o with
  | none => simp [oI]
  | some p =>
    simp only [oI, reduceCtorEq]
    exact eq_false (nI_m1 (h p rfl))
theorem sp_mgiver (d r : Nat) (S : Mem) : cal (d + 2) 234 [vR 8 r] S = some (some (vI (oI (mGiver (Rw 11 S r) (Rw 23 S r) (Rw 35 S r) (rdI S (r + 1) 7) (rdI S (r + 1) 8)))), S) := by
  rw [B_X8_giver]
  have key := loop_find (fun p => ev (d + 2) 234 2 [vR 8 r, vI (nI p)] [] S) (fun p => !(decide (mSlot (Rw 11 S r) (Rw 23 S r) (Rw 35 S r) (rdI S (r + 1) 7) (rdI S (r + 1) 8) p = -1))) (fun p => some (some (vI (nI p)), S)) 12 0 (fun p _ hp => by
    rw [Nat.zero_add] at hp
    try dsimp only
    rw [B_X8_giver_2, if_neg (n12 hp), sp_mnextSlot d r p hp, bI_s, nI_1]
    by_cases h : mSlot (Rw 11 S r) (Rw 23 S r) (Rw 35 S r) (rdI S (r + 1) 7) (rdI S (r + 1) 8) p = -1
    · rw [if_pos h, decide_eq_true h, if_neg (by decide)]
    · rw [if_neg h, decide_eq_false h, if_pos (by decide)])
  refine key.trans ?_
  unfold mGiver
  cases ffind (fun p => !(decide (mSlot (Rw 11 S r) (Rw 23 S r) (Rw 35 S r) (rdI S (r + 1) 7) (rdI S (r + 1) 8) p = -1))) 0 12 with
  | some p => rfl
  | none => try dsimp only
            rw [B_X8_giver_2, if_pos y12]; rfl
