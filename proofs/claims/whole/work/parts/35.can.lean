theorem isN_some {c : Nat → Bool} {k n : Nat} : decide (ffind c k n = none) = (ffind c k n).isNone := by
  cases ffind c k n <;> rfl
def fRoom (fr lv vec : Nat → Int32) (g s : Int32) : Bool := (fGiver fr lv vec g s).isSome || (fNew fr).isSome
theorem oI_if {α : Type} {c : Nat → Bool} {n : Nat} (hn : n < 2 ^ 31) (x y : α) : (if oI (ffind c 0 n) = -1 then x else y) = cond (ffind c 0 n).isSome y x := by
  cases h : ffind c 0 n with
  | none => rw [if_pos (show oI none = -1 from rfl)]; rfl
  | some p =>
    obtain ⟨-, h2, -⟩ := ffind_some h
    rw [if_neg (show ¬ oI (some p) = -1 from nI_m1 (by omega))]; rfl
theorem sp_hasRoom (d t : Nat) (S : Mem) : cal (d + 4) 25 [vR 1 t] S = some (some (vI (b2i (fRoom (rdI S (t + 1)) (rdI S (t + 2)) (rdI S (t + 3)) (rdI S t 3) (rdI S t 4)))), S) := by
  rw [B_X1_hasRoom, sp_lowestGivingPage, bI_s]
  unfold fRoom fGiver
  rw [oI_if (by decide)]
  cases (ffind (fun p => !(decide (fSlot (rdI S (t + 1)) (rdI S (t + 2)) (rdI S (t + 3)) (rdI S t 3) (rdI S t 4) (nI p) = -1))) 0 12).isSome
  · rw [sp_lowestNewPage, bI_s]
    unfold fNew
    rw [oI_if (by decide)]
    cases (ffind (fun p => decide (rdI S (t + 1) p = -1)) 0 12).isSome
    · show gd (isZ 0) _ = _
      rw [gd_p isZ_0]; rfl
    · show gd (isZ 1) _ = _
      rw [gd_p isZ_1]; rfl
  · show gd (isZ 1) _ = _
    rw [gd_p isZ_1]; rfl
def mRoom (fr lv vec : Nat → Int32) (g s : Int32) : Bool := (mGiver fr lv vec g s).isSome || ((fNew fr).isSome && (mFree fr).isSome)
theorem sp_mcanGive (d r : Nat) (S : Mem) : cal (d + 3) 235 [vR 8 r] S = some (some (vI (b2i (mRoom (Rw 11 S r) (Rw 23 S r) (Rw 35 S r) (rdI S (r + 1) 7) (rdI S (r + 1) 8)))), S) := by
  rw [B_X8_canGive, sp_mgiver, bI_s]
  unfold mRoom mGiver
  rw [oI_if (by decide)]
  cases (ffind (fun p => !(decide (mSlot (Rw 11 S r) (Rw 23 S r) (Rw 35 S r) (rdI S (r + 1) 7) (rdI S (r + 1) 8) p = -1))) 0 12).isSome
  · rw [sp_mlowestNew, bI_s]
    unfold fNew
    rw [oI_if (by decide)]
    cases (ffind (fun p => decide (Rw 11 S r p = -1)) 0 12).isSome
    · show gd (isZ 0) _ = _
      rw [gd_p isZ_0]; rfl
    · rw [sp_mlowestUnused, bI_s]
      unfold mFree
      rw [oI_if (by decide)]
      cases (ffind (fun p => !(mUsed (Rw 11 S r) (nI p))) 0 12).isSome
      · show gd (isZ 0) _ = _
        rw [gd_p isZ_0]; rfl
      · show gd (isZ 1) _ = _
        rw [gd_p isZ_1]; rfl
  · show gd (isZ 1) _ = _
    rw [gd_p isZ_1]; rfl
