/-! the lowest that is so: class and reference -/
theorem fOpen_nI {fr : Nat → Int32} {p : Nat} (hp : p < 12) : fOpen fr (nI p) = decide (¬ fr p = -1) := by
  unfold fOpen
  rw [i12 hp, x12 hp]; rfl
def fNew (fr : Nat → Int32) : Option Nat := ffind (fun p => decide (fr p = -1)) 0 12
theorem sp_lowestNewPage (d t : Nat) (S : Mem) : cal (d + 1) 24 [vR 1 t] S = some (some (vI (oI (fNew (rdI S (t + 1))))), S) := by
  rw [B_X1_lowestNewPage]
  have key := loop_find (fun p => ev (d + 1) 24 2 [vR 1 t, vI (nI p)] [] S) (fun p => decide (rdI S (t + 1) p = -1)) (fun p => some (some (vI (nI p)), S)) 12 0 (fun p _ hp => by
    rw [Nat.zero_add] at hp
    try dsimp only
    rw [B_X1_lowestNewPage_2, if_neg (n12 hp), sp_isOpen, bI_s, ite_b0, fOpen_nI hp, nI_1]
    by_cases h : rdI S (t + 1) p = -1
    · rw [decide_eq_true h, decide_eq_false (not_not_intro h), if_pos rfl, if_pos rfl]
    · rw [decide_eq_false h, decide_eq_true h, if_neg (by decide), if_neg (by decide)])
  refine key.trans ?_
  unfold fNew
  cases ffind (fun p => decide (rdI S (t + 1) p = -1)) 0 12 with
  | some p => rfl
  | none => try dsimp only
            rw [B_X1_lowestNewPage_2, if_pos y12]; rfl
def fFree (fr : Nat → Int32) : Option Nat := ffind (fun p => decide (shrI (fUsed fr) (nI p) &&& 1 = 0)) 0 12
theorem sp_lowestFreeFrame (d t : Nat) (S : Mem) : cal (d + 1) 26 [vR 1 t] S = some (some (vI (oI (fFree (rdI S (t + 1))))), S) := by
  rw [B_X1_lowestFreeFrame, sp_framesUsed, bI_s]
  obtain ⟨u, key⟩ := loop_findU (fun p u => ev (d + 1) 26 7 [u, vI (fUsed (rdI S (t + 1))), vI (nI p)] [] S) (fun p => decide (shrI (fUsed (rdI S (t + 1))) (nI p) &&& 1 = 0)) (fun p => some (some (vI (nI p)), S)) 12 0 (fun p u _ hp => by
    rw [Nat.zero_add] at hp
    refine ⟨vU, ?_⟩
    try dsimp only
    rw [B_X1_lowestFreeFrame_7, if_neg (n12 hp), nI_1]
    by_cases h : shrI (fUsed (rdI S (t + 1))) (nI p) &&& 1 = 0
    · rw [if_pos h, if_pos (decide_eq_true h)]
    · rw [if_neg h, if_neg (by simpa using h)]) (vR 1 t)
  refine key.trans ?_
  unfold fFree
  cases ffind (fun p => decide (shrI (fUsed (rdI S (t + 1))) (nI p) &&& 1 = 0)) 0 12 with
  | some p => rfl
  | none => try dsimp only
            rw [B_X1_lowestFreeFrame_7, if_pos y12]; rfl
def fGiver (fr lv vec : Nat → Int32) (g s : Int32) : Option Nat := ffind (fun p => !(decide (fSlot fr lv vec g s (nI p) = -1))) 0 12
theorem sp_lowestGivingPage (d t : Nat) (S : Mem) : cal (d + 3) 23 [vR 1 t] S = some (some (vI (oI (fGiver (rdI S (t + 1)) (rdI S (t + 2)) (rdI S (t + 3)) (rdI S t 3) (rdI S t 4)))), S) := by
  rw [B_X1_lowestGivingPage]
  have key := loop_find (fun p => ev (d + 3) 23 2 [vR 1 t, vI (nI p)] [] S) (fun p => !(decide (fSlot (rdI S (t + 1)) (rdI S (t + 2)) (rdI S (t + 3)) (rdI S t 3) (rdI S t 4) (nI p) = -1))) (fun p => some (some (vI (nI p)), S)) 12 0 (fun p _ hp => by
    rw [Nat.zero_add] at hp
    try dsimp only
    rw [B_X1_lowestGivingPage_2, if_neg (n12 hp), sp_slotToGive, bI_s, nI_1]
    by_cases h : fSlot (rdI S (t + 1)) (rdI S (t + 2)) (rdI S (t + 3)) (rdI S t 3) (rdI S t 4) (nI p) = -1
    · rw [if_pos h, decide_eq_true h, if_neg (by decide)]
    · rw [if_neg h, decide_eq_false h, if_pos (by decide)])
  refine key.trans ?_
  unfold fGiver
  cases ffind (fun p => !(decide (fSlot (rdI S (t + 1)) (rdI S (t + 2)) (rdI S (t + 3)) (rdI S t 3) (rdI S t 4) (nI p) = -1))) 0 12 with
  | some p => rfl
  | none => try dsimp only
            rw [B_X1_lowestGivingPage_2, if_pos y12]; rfl
theorem ne12 {p : Nat} (hp : p < 12) : ¬ nI p = 12 := fun e => absurd ((nI_eq (a := p) (b := 12) (by omega) (by decide)).mp e) (by omega)
theorem e12 : nI 12 = 12 := rfl
theorem sp_mlowestNew (d r : Nat) (S : Mem) : cal d 232 [vR 8 r] S = some (some (vI (oI (fNew (Rw 11 S r)))), S) := by
  rw [B_X8_lowestNew]
  have key := loop_find (fun p => ev d 232 2 [vR 8 r, vI (nI p)] [] S) (fun p => decide (Rw 11 S r p = -1)) (fun p => some (some (vI (nI p)), S)) 12 0 (fun p _ hp => by
    rw [Nat.zero_add] at hp
    try dsimp only
    rw [B_X8_lowestNew_2, if_neg (n12 hp), a11, inb_t (by omega) (by decide), gd_t, ix_nI (by omega), nI_1, if_neg (ne12 hp)]
    by_cases h : rdI S (r + 1) (11 + p) = -1
    · rw [if_pos h, if_pos (decide_eq_true (show Rw 11 S r p = -1 from h))]
    · rw [if_neg h, if_neg (by have h : ¬ Rw 11 S r p = -1 := h; simpa using h)])
  refine key.trans ?_
  unfold fNew
  cases ffind (fun p => decide (Rw 11 S r p = -1)) 0 12 with
  | some p => rfl
  | none => try dsimp only
            rw [B_X8_lowestNew_2, if_pos y12, if_pos e12]; rfl
def mFree (fr : Nat → Int32) : Option Nat := ffind (fun p => !(mUsed fr (nI p))) 0 12
theorem sp_mlowestUnused (d r : Nat) (S : Mem) : cal (d + 2) 233 [vR 8 r] S = some (some (vI (oI (mFree (Rw 11 S r)))), S) := by
  rw [B_X8_lowestUnused]
  have key := loop_find (fun p => ev (d + 2) 233 2 [vR 8 r, vI (nI p)] [] S) (fun p => !(mUsed (Rw 11 S r) (nI p))) (fun p => some (some (vI (nI p)), S)) 12 0 (fun p _ hp => by
    rw [Nat.zero_add] at hp
    try dsimp only
    rw [B_X8_lowestUnused_2, if_neg (n12 hp), sp_misUsed, bI_s, ite_b0, nI_1, if_neg (ne12 hp)]
    cases mUsed (Rw 11 S r) (nI p)
    · rw [if_pos rfl, if_pos (by decide)]
    · rw [if_neg (by decide), if_neg (by decide)])
  refine key.trans ?_
  unfold mFree
  cases ffind (fun p => !(mUsed (Rw 11 S r) (nI p))) 0 12 with
  | some p => rfl
  | none => try dsimp only
            rw [B_X8_lowestUnused_2, if_pos y12, if_pos e12]; rfl
