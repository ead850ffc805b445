/-! expected: the reference, and one answer for both -/
theorem FrQ_u {s N M : Nat} (h : FrQ s N M) : N = s / Nat.gcd s 720720 ∧ M = 720720 / Nat.gcd s 720720 := by
  obtain ⟨c, hc⟩ := FrQ_den h
  obtain ⟨h1, h2, h3⟩ := h
  have c0 : 0 < c := by
    rcases Nat.eq_zero_or_pos c with z | z
    · rw [z, Nat.mul_zero] at hc; omega
    · exact z
  have es : s = N * c := by
    refine (Nat.eq_of_mul_eq_mul_left h3 ?_).symm
    rw [Nat.mul_comm M s, ← h1, hc, Nat.mul_left_comm]
  have eg : Nat.gcd s 720720 = c := by rw [es, hc, Nat.gcd_mul_right, h2, Nat.one_mul]
  rw [eg]
  refine ⟨?_, ?_⟩
  · rw [es, Nat.mul_div_cancel _ c0]
  · rw [hc, Nat.mul_div_cancel _ c0]
theorem ex_m {S : Mem} {r : Nat} {Z : Zs} (h : MoR S r Z) (I : ZI Z) (w : Int32) (d : Nat) : ∃ v : Int64, OlM r S (cal (d + 9) 291 [vR 8 r, vI w] S) v Z ∧ v.toInt = ((exN Z w : Nat) : Int) := by
  have lp_ : ∀ a, a ≤ 12 → ∃ (q : AV) (v y : Int64) (N M : Nat), ev (d + 9) 291 8 [vR 8 r, vI w, vL 0, vU, vL 1, vU, vI 0, vU, vU, vU, vU, vU, vU, vU] [] S = ev (d + 9) 291 8 [vR 8 r, vI w, vL v, vU, vL y, vU, vI (nI a), q, vU, vU, vU, vU, vU, vU] [] S ∧ v.toInt = (N : Int) ∧ y.toInt = (M : Int) ∧ FrQ (exO Z a) N M := by
    intro a
    induction a with
    | zero => intro _; exact ⟨vU, 0, 1, 0, 1, rfl, rfl, rfl, FrQ_0⟩
    | succ a ih =>
      intro ha
      obtain ⟨q, v, y, N, M, e, hv, hy, hq⟩ := ih (by omega)
      obtain ⟨v', y', N', M', e', hv', hy', hq'⟩ := exm_i h I w d (a := a) (s := exO Z a) (by omega) (exO_le I a (by omega)) hv hy hq (11 - a) (Nat.le_refl _)
      refine ⟨vI (nI 12), v', y', N', M', ?_, hv', hy', hq'⟩
      rw [e, B_X8_expected_8, if_neg (n12 (by omega)), nI_1, e', show a + 1 + (11 - a) = 12 by omega, B_X8_expected_21, if_pos y12, nI_1]
  obtain ⟨q, v, y, N, M, e, hv, hy, hq⟩ := lp_ 12 (Nat.le_refl _)
  obtain ⟨eN, eM⟩ := FrQ_u hq
  rw [B_X8_expected, e, B_X8_expected_8, if_pos y12]
  unfold exN
  by_cases z : w = 0
  · rw [if_pos z, if_pos z]
    exact ⟨v, OlM_0 h, by rw [hv, eN]⟩
  · rw [if_neg z, if_neg z]
    exact ⟨y, OlM_0 h, by rw [hy, eM]⟩
