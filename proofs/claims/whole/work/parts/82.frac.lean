/-! a fraction in lowest terms that is s over 720720 -/
def FrQ (s num den : Nat) : Prop := num * 720720 = s * den ∧ Nat.gcd num den = 1 ∧ 0 < den
theorem FrQ_den {s num den : Nat} (h : FrQ s num den) : den ∣ 720720 := by
  obtain ⟨h1, h2, h3⟩ := h
  have c : Nat.Coprime den num := (Nat.gcd_comm den num).trans h2
  exact c.dvd_of_dvd_mul_left ⟨s, by rw [h1, Nat.mul_comm]⟩
theorem FrQ_le {s num den : Nat} (h : FrQ s num den) : den ≤ 720720 ∧ num ≤ s := by
  have hd := Nat.le_of_dvd (by decide) (FrQ_den h)
  obtain ⟨h1, h2, h3⟩ := h
  refine ⟨hd, ?_⟩
  have : s * den ≤ s * 720720 := Nat.mul_le_mul_left s hd
  omega
theorem FrQ_0 : FrQ 0 0 1 := ⟨rfl, by decide, by decide⟩
theorem FrQ_step {s num den W D t : Nat} (h : FrQ s num den) (hD : 0 < D) (ht : t * D = W * 720720) : FrQ (s + t) ((num * D + W * den) / Nat.gcd (den * D) (num * D + W * den)) (den * D / Nat.gcd (den * D) (num * D + W * den)) := by
  obtain ⟨h1, h2, h3⟩ := h
  have hM : 0 < den * D := Nat.mul_pos h3 hD
  have e : (num * D + W * den) * 720720 = (s + t) * (den * D) := by
    have e1 : num * D * 720720 = s * den * D := by rw [Nat.mul_assoc, Nat.mul_comm D, ← Nat.mul_assoc, h1]
    have e2 : W * den * 720720 = t * D * den := by rw [ht, Nat.mul_assoc, Nat.mul_comm den, ← Nat.mul_assoc]
    rw [Nat.add_mul, Nat.add_mul, e1, e2, Nat.mul_assoc s, Nat.mul_assoc t, Nat.mul_comm D den]
  generalize num * D + W * den = N at e
  generalize den * D = M at e hM
  have gp : 0 < Nat.gcd M N := Nat.gcd_pos_of_pos_left _ hM
  obtain ⟨m, em⟩ := Nat.gcd_dvd_left M N
  obtain ⟨n, en⟩ := Nat.gcd_dvd_right M N
  have cop : Nat.gcd (M / Nat.gcd M N) (N / Nat.gcd M N) = 1 := Nat.coprime_div_gcd_div_gcd gp
  have dm : M / Nat.gcd M N = m := Nat.div_eq_of_eq_mul_right gp em
  have dn : N / Nat.gcd M N = n := Nat.div_eq_of_eq_mul_right gp en
  rw [dm, dn] at cop
  rw [dm, dn]
  refine ⟨?_, (Nat.gcd_comm n m).trans cop, ?_⟩
  · refine Nat.eq_of_mul_eq_mul_left gp ?_
    rw [← Nat.mul_assoc, ← en, e, Nat.mul_left_comm, ← em]
  · rcases Nat.eq_zero_or_pos m with z | z
    · rw [z, Nat.mul_zero] at em; omega
    · exact z
