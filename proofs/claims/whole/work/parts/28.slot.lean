/-! the slot that the reference would give out -/
def mSlot (fr lv vec : Nat → Int32) (g s : Int32) (p : Nat) : Int32 := if fr p = -1 then -1 else if mFenced fr g p = false then
  (match ffind (fun i => decide (shrI (if fr p = s then mLiveIn fr lv (fr p) ||| mLiveIn fr lv g else mLiveIn fr lv (fr p)) (vec (p * 16 + i)) &&& 1 = 1) == false) 0 16 with
  | some i => vec (p * 16 + i)
  | none => -1) else -1
theorem sp_mnextSlot (d r p : Nat) (hp : p < 12) (S : Mem) : cal (d + 1) 231 [vR 8 r, vI (nI p)] S = some (some (vI (mSlot (Rw 11 S r) (Rw 23 S r) (Rw 35 S r) (rdI S (r + 1) 7) (rdI S (r + 1) 8) p)), S) := by
  rw [B_X8_nextSlot, a11, inb_t (by omega) (by decide), gd_t, ix_nI (by omega)]
  unfold mSlot
  by_cases h : rdI S (r + 1) (11 + p) = -1
  · rw [if_pos h, if_pos (show Rw 11 S r p = -1 from h)]
  · rw [if_neg h, if_neg (show ¬ Rw 11 S r p = -1 from h), sp_misFenced d r p hp, bI_s, ite_b0]
    by_cases h2 : mFenced (Rw 11 S r) (rdI S (r + 1) 7) p = false
    · rw [if_pos h2, if_pos h2, gd_t, sp_mliveIn, bI_s, gd_t, i13_8, gd_t, x13_8]
      have ea : ∀ i : Nat, i < 16 → ((35 : Int32) + 16 * nI p) + nI i = nI (35 + (p * 16 + i)) := fun i hi => by
        show (nI 35 + nI 16 * nI p) + nI i = _
        rw [pk_mul, nI_add, nI_add]
        congr 1; omega
      have lp : ∀ tk : Int32, ev (d + 1) 231 74 [vR 8 r, vI (nI p), vI tk, vI 0] [] S = some (some (vI (match ffind (fun i => decide (shrI tk (Rw 35 S r (p * 16 + i)) &&& 1 = 1) == false) 0 16 with
          | some i => Rw 35 S r (p * 16 + i)
          | none => -1)), S) := by
        intro tk
        have key := loop_find (fun i => ev (d + 1) 231 74 [vR 8 r, vI (nI p), vI tk, vI (nI i)] [] S) (fun i => decide (shrI tk (Rw 35 S r (p * 16 + i)) &&& 1 = 1) == false) (fun i => some (some (vI (Rw 35 S r (p * 16 + i))), S)) 16 0 (fun i _ hi => by
          rw [Nat.zero_add] at hi
          try dsimp only
          rw [B_X8_nextSlot_74, if_neg (n16 hi), ea i hi, i13 (by omega), gd_t, ix_nI (by omega), sp_mhas, bI_s, ite_b0, nI_1]
          show (if decide (shrI tk (Rw 35 S r (p * 16 + i)) &&& 1 = 1) = false then _ else _) = _
          cases decide (shrI tk (Rw 35 S r (p * 16 + i)) &&& 1 = 1)
          · rw [if_pos rfl, if_pos (by decide)]; rfl
          · rw [if_neg (by decide), if_neg (by decide)])
        refine key.trans ?_
        cases ffind (fun i => decide (shrI tk (Rw 35 S r (p * 16 + i)) &&& 1 = 1) == false) 0 16 with
        | some i => rfl
        | none => try dsimp only
                  rw [B_X8_nextSlot_74, if_pos y16]
      by_cases h3 : rdI S (r + 1) (11 + p) = rdI S (r + 1) 8
      · rw [if_pos h3, i13_7, gd_t, x13_7, sp_mliveIn, bI_s, lp, if_pos (show Rw 11 S r p = _ from h3)]; rfl
      · rw [if_neg h3, or0, lp, if_neg (show ¬ Rw 11 S r p = _ from h3)]; rfl
    · rw [if_neg h2, if_neg h2]
