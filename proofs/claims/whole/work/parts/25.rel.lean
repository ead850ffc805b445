/-! slots live: a number below 65536; the reference's other reads -/
def LvOK (lv : Nat → Int32) : Prop := ∀ p, p < 12 → ∃ k : Nat, k < 65536 ∧ lv p = nI k
theorem itN_ok {step : Nat → Int32 → Int32} {B : Nat} {N : Nat} (h : ∀ p a, p < N → (∃ k : Nat, k < B ∧ a = nI k) → ∃ k : Nat, k < B ∧ step p a = nI k) {a : Int32} (h0 : ∃ k : Nat, k < B ∧ a = nI k) : ∃ k : Nat, k < B ∧ itN step N a = nI k := by
  induction N with
  | zero => exact h0
  | succ n ih => exact h n _ (by omega) (ih (fun p a hp => h p a (by omega)))
theorem or_ok {e : Nat} {a b : Int32} (ha : ∃ k : Nat, k < 2 ^ e ∧ a = nI k) (hb : ∃ k : Nat, k < 2 ^ e ∧ b = nI k) : ∃ k : Nat, k < 2 ^ e ∧ a ||| b = nI k := by
  obtain ⟨j, hj, rfl⟩ := ha
  obtain ⟨k, hk, rfl⟩ := hb
  exact ⟨j ||| k, Nat.or_lt_two_pow hj hk, nI_or j k⟩
theorem fLiveIn_ok {fr lv : Nat → Int32} (hL : LvOK lv) (f : Int32) : ∃ k : Nat, k < 65536 ∧ fLiveIn fr lv f = nI k := by
  refine itN_ok (fun p a hp ha => ?_) ⟨0, by decide, rfl⟩
  by_cases h : ¬ f = -1 ∧ fr p = f
  · rw [if_pos h]; exact or_ok (e := 16) ha (hL p hp)
  · rw [if_neg h]; exact ha
theorem mLiveIn_ok {fr lv : Nat → Int32} (hL : LvOK lv) (f : Int32) : ∃ k : Nat, k < 65536 ∧ mLiveIn fr lv f = nI k := by
  refine itN_ok (fun p a hp ha => ?_) ⟨0, by decide, rfl⟩
  by_cases h : fr p = f
  · rw [if_pos h]; exact or_ok (e := 16) ha (hL p hp)
  · rw [if_neg h]; exact ha
/-- frames that are not used hold nothing live -/
def LvFr (fr lv : Nat → Int32) : Prop := ∀ p, p < 12 → fr p = -1 → lv p = 0
def mTotal (fr lv : Nat → Int32) : Int32 := itN (fun p b => if fr p = -1 then b else b + bitc (lv p)) 12 0
theorem bitc_0 : bitc 0 = 0 := by decide
theorem add0 (b : Int32) : b + 0 = b := Int32.add_zero b
theorem mTotal_f {fr lv : Nat → Int32} (h : LvFr fr lv) : mTotal fr lv = fTotal lv := by
  unfold mTotal fTotal
  refine itN_congr (fun p a hp => ?_) 0
  by_cases h2 : fr p = -1
  · rw [if_pos h2, h p hp h2, bitc_0, add0]
  · rw [if_neg h2]
theorem sp_mallLive (d r : Nat) (S : Mem) (hL : LvOK (Rw 23 S r)) : cal (d + 1) 170 [vR 8 r] S = some (some (vI (mTotal (Rw 11 S r) (Rw 23 S r))), S) := by
  rw [B_X8_allLive]
  have key := loop_it (fun p b => ev (d + 1) 170 4 [vR 8 r, vI b, vI (nI p)] [] S) 12 (fun p b => if Rw 11 S r p = -1 then b else b + bitc (Rw 23 S r p)) (fun p b hp => by
    try dsimp only
    rw [B_X8_allLive_4, if_neg (n12 hp), nI_1, a11, a23, inb_t (by omega) (by decide), gd_t, inb_t (by omega) (by decide), gd_t, ix_nI (by omega), ix_nI (by omega), add0]
    by_cases h2 : rdI S (r + 1) (11 + p) = -1
    · rw [if_pos h2, if_pos (show Rw 11 S r p = -1 from h2)]
    · rw [if_neg h2, if_neg (show ¬ Rw 11 S r p = -1 from h2)]
      obtain ⟨k, hk, e⟩ := hL p hp
      rw [show rdI S (r + 1) (23 + p) = nI k from e, sp_mbitsOf d k hk, bI_s, e, bitc_pop hk]) 0
  refine key.trans ?_
  try dsimp only
  rw [B_X8_allLive_4, if_pos y12]; rfl
def mSparse (fr lv : Nat → Int32) (g s : Int32) : Int32 := itN (fun f b => if mUsed fr (nI f) = true ∧ bitc (mLiveIn fr lv (nI f)) ≤ 8 ∧ mBound g s (nI f) = false then b ||| shlI 1 (nI f) else b) 12 0
theorem sp_msparseFrames (d r : Nat) (S : Mem) (hL : LvOK (Rw 23 S r)) : cal (d + 2) 173 [vR 8 r] S = some (some (vI (mSparse (Rw 11 S r) (Rw 23 S r) (rdI S (r + 1) 7) (rdI S (r + 1) 8))), S) := by
  rw [B_X8_sparseFrames]
  have key := loop_it (fun p b => ev (d + 2) 173 4 [vR 8 r, vI b, vI (nI p)] [] S) 12 (fun f b => if mUsed (Rw 11 S r) (nI f) = true ∧ bitc (mLiveIn (Rw 11 S r) (Rw 23 S r) (nI f)) ≤ 8 ∧ mBound (rdI S (r + 1) 7) (rdI S (r + 1) 8) (nI f) = false then b ||| shlI 1 (nI f) else b) (fun p b hp => by
    try dsimp only
    rw [B_X8_sparseFrames_4, if_neg (n12 hp), sp_misUsed, bI_s, ite_b0, nI_1, or0]
    by_cases h1 : mUsed (Rw 11 S r) (nI p) = false
    · rw [if_pos h1, if_neg (by rw [h1]; rintro ⟨z, -⟩; cases z)]
    · rw [if_neg h1]
      obtain ⟨k, hk, e⟩ := mLiveIn_ok (fr := Rw 11 S r) hL (nI p)
      rw [sp_mliveIn, bI_s, e, sp_mbitsOf (d + 1) k hk, bI_s, bitc_pop hk]
      by_cases h2 : 8 < nI (pop k)
      · rw [if_pos h2, if_neg (fun z => absurd z.2.1 (Int32.not_le.mpr h2))]
      · rw [if_neg h2, sp_misBound, bI_s, ite_b0]
        by_cases h3 : mBound (rdI S (r + 1) 7) (rdI S (r + 1) 8) (nI p) = false
        · rw [if_pos h3, if_pos ⟨by simpa using h1, Int32.not_lt.mp h2, h3⟩]
        · rw [if_neg h3, if_neg (fun z => h3 z.2.2)]) 0
  refine key.trans ?_
  try dsimp only
  rw [B_X8_sparseFrames_4, if_pos y12]; rfl
