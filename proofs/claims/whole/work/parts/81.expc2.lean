/-! expected: the class -/
def exN (Z : Zs) (w : Int32) : Nat := if w = 0 then exO Z 12 / Nat.gcd (exO Z 12) 720720 else 720720 / Nat.gcd (exO Z 12) 720720
theorem ex_c {S : Mem} {x : Nat} {Z : Zs} (h : ClR S x Z) (I : ZI Z) (w : Int32) (d : Nat) : ∃ v : Int64, OlC x S (cal (d + 9) 126 [vR 7 x, vI w] S) v Z ∧ v.toInt = ((exN Z w : Nat) : Int) := by
  obtain ⟨u, hu, eu, hb⟩ := fUsed_ex (iF (zAI I))
  have lp_ : ∀ a, a ≤ 12 → ∃ (q : AV) (v : Int64), ev (d + 9) 126 17 [vR 7 x, vI w, vL 0, vU, vI (nI u), vI 0, vU] [] S = ev (d + 9) 126 17 [vR 7 x, vI w, vL v, vU, vI (nI u), vI (nI a), q] [] S ∧ v.toInt = ((exO Z a : Nat) : Int) := by
    intro a
    induction a with
    | zero => intro _; exact ⟨vU, 0, rfl, rfl⟩
    | succ a ih =>
      intro ha
      obtain ⟨q, v, e, hv⟩ := ih (by omega)
      obtain ⟨v', e', hv'⟩ := exp_i h I w d u hu hb (a := a) (s := exO Z a) (by omega) (exO_le I a (by omega)) (11 - a) (Nat.le_refl _) v hv
      refine ⟨vI (nI 12), v', ?_, hv'⟩
      rw [e, B_X7_expected_17, if_neg (n12 (by omega)), nI_1, e', show a + 1 + (11 - a) = 12 by omega, B_X7_expected_30, if_pos y12, nI_1]
  obtain ⟨q, v, e, hv⟩ := lp_ 12 (Nat.le_refl _)
  have hle := exO_le I 12 (Nat.le_refl _)
  have c72 : (720720 : Int64).toInt = ((720720 : Nat) : Int) := by decide
  obtain ⟨-, hg⟩ := gc_end 27 100 720720 v 720720 (exO Z 12) c72 hv (by decide) (by omega) (by decide) (by decide)
  have gpos : 0 < Nat.gcd (exO Z 12) 720720 := Nat.gcd_pos_of_pos_right _ (by decide)
  have nz : ¬ lg_cmp (gcC 100 720720 v) 0 = 0 := fun z => by
    have := (jn_0 hg).mp z
    omega
  rw [B_X7_expected, kc_used (cA h), bI_s, eu, e, B_X7_expected_17, if_pos y12, low_c]
  unfold lowG exN
  rw [if_neg nz, nzc nz, gd_t, gd_t]
  by_cases y : w = 0
  · rw [if_pos y, if_pos y, bL_s]
    exact ⟨_, OlC_0 h, jn_div hv hg⟩
  · rw [if_neg y, if_neg y, bL_s]
    exact ⟨_, OlC_0 h, jn_div c72 hg⟩
