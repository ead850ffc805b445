/-! expected: the class's sum over pairs of frames -/
def lfN (Z : Zs) (f : Nat) : Nat := (fLiveIn (zA Z 1) (zA Z 2) (nI f)).toBitVec.toNat
theorem lfN_e {Z : Zs} (I : ZI Z) (f : Nat) : lfN Z f < 65536 ∧ fLiveIn (zA Z 1) (zA Z 2) (nI f) = nI (lfN Z f) := by
  obtain ⟨k, hk, e⟩ := fLiveIn_ok (fr := zA Z 1) (iL (zAI I)) (nI f)
  have : lfN Z f = k := by unfold lfN; rw [e, tn_nI hk]
  rw [this]; exact ⟨hk, e⟩
def usB (Z : Zs) (f : Nat) : Bool := mUsed (zA Z 1) (nI f)
def exT (Z : Zs) (a b : Nat) : Nat := if usB Z a = true then (if usB Z b = true then cwN (pop (lfN Z a)) (pop (lfN Z b)) else 0) else 0
theorem exT_le {Z : Zs} (I : ZI Z) (a b : Nat) : exT Z a b ≤ 720720 := by
  have := pop_le (lfN_e I b).1
  unfold exT
  by_cases h1 : usB Z a = true
  · rw [if_pos h1]
    by_cases h2 : usB Z b = true
    · rw [if_pos h2]; exact cwN_le (by omega)
    · rw [if_neg h2]; exact Nat.zero_le _
  · rw [if_neg h1]; exact Nat.zero_le _
/-- pairs (a, b) for b from a + 1 on, n of them -/
def exI (Z : Zs) (a s : Nat) : Nat → Nat
  | 0 => s
  | n + 1 => exI Z a s n + exT Z a (a + 1 + n)
theorem exI_s (Z : Zs) (a s n : Nat) : exI Z a s (n + 1) = exI Z a s n + exT Z a (a + 1 + n) := rfl
def exO (Z : Zs) : Nat → Nat
  | 0 => 0
  | a + 1 => exI Z a (exO Z a) (11 - a)
theorem exO_s (Z : Zs) (a : Nat) : exO Z (a + 1) = exI Z a (exO Z a) (11 - a) := rfl
theorem exI_le {Z : Zs} (I : ZI Z) (a s : Nat) : ∀ n, exI Z a s n ≤ s + 720720 * n
  | 0 => Nat.le_refl s
  | n + 1 => by
    have := exI_le I a s n
    have := exT_le I a (a + 1 + n)
    rw [exI_s]; omega
theorem exO_le {Z : Zs} (I : ZI Z) : ∀ a, a ≤ 12 → exO Z a ≤ 7927920 * a
  | 0, _ => Nat.le_refl 0
  | a + 1, h => by
    have := exO_le I a (by omega)
    have := exI_le I a (exO Z a) (11 - a)
    rw [exO_s]; omega
theorem exp_i {S : Mem} {x : Nat} {Z : Zs} (h : ClR S x Z) (I : ZI Z) (w : Int32) (d u : Nat) (hu : u < 2 ^ 12) (hb : ∀ k, k < 12 → u.testBit k = usB Z k) {a s : Nat} (ha : a < 12) (hs : s ≤ 7927920 * a) : ∀ n, n ≤ 11 - a → ∀ v : Int64, v.toInt = (s : Int) → ∃ v' : Int64, ev (d + 9) 126 30 [vR 7 x, vI w, vL v, vU, vI (nI u), vI (nI a), vI (nI (a + 1))] [] S = ev (d + 9) 126 30 [vR 7 x, vI w, vL v', vU, vI (nI u), vI (nI a), vI (nI (a + 1 + n))] [] S ∧ v'.toInt = ((exI Z a s n : Nat) : Int) := by
  intro n
  induction n with
  | zero => intro _ v hv; exact ⟨v, rfl, hv⟩
  | succ n ih =>
    intro hn v hv
    obtain ⟨v', e, hv'⟩ := ih (by omega) v hv
    have hle := exI_le I a s n
    have hb12 : a + 1 + n < 12 := by omega
    have t1 := bit_1 (b := u) (k := a) (by omega) (by omega)
    have t2 := bit_1 (b := u) (k := a + 1 + n) (by omega) (by omega)
    rw [hb a ha] at t1
    rw [hb (a + 1 + n) hb12] at t2
    obtain ⟨l1, k1⟩ := lfN_e I a
    obtain ⟨l2, k2⟩ := lfN_e I (a + 1 + n)
    obtain ⟨y, ey, hy⟩ := cw_c l1 l2 (d + 7) S
    have ey' : cal (d + 8) 155 [vI (nI (lfN Z a)), vI (nI (lfN Z (a + 1 + n)))] S = some (some (vL y), S) := ey
    rw [e, B_X7_expected_30, if_neg (n12 hb12), kc_liveIn (cA h), bI_s, k1, kc_liveIn (cA h), bI_s, k2, ey', bL_s, nI_1]
    rw [exI_s]
    unfold exT
    cases g1 : usB Z a
    · rw [g1] at t1
      rw [if_neg (of_decide_eq_false t1), if_neg Bool.false_ne_true]
      exact ⟨v', rfl, hv'⟩
    · rw [g1] at t1
      rw [if_pos (of_decide_eq_true t1), if_pos rfl]
      cases g2 : usB Z (a + 1 + n)
      · rw [g2] at t2
        rw [if_neg (of_decide_eq_false t2), if_neg Bool.false_ne_true]
        exact ⟨v', rfl, hv'⟩
      · rw [g2] at t2
        have hc := cwN_le (p := pop (lfN Z a)) (q := pop (lfN Z (a + 1 + n))) (by have := pop_le l2; omega)
        rw [if_pos (of_decide_eq_true t2), if_pos rfl]
        exact ⟨v' + y, rfl, jn_add hv' hy (by omega)⟩
