/-! longs that stand for Nats: quotient, rest, the greatest common divisor -/
theorem jn_0 {b : Int64} {m : Nat} (h : b.toInt = (m : Int)) : lg_cmp b 0 = 0 ↔ m = 0 := by
  have z0 : (0 : Int64).toInt = 0 := by decide
  constructor
  · intro e
    have h1 := Int64.le_iff_toInt_le.mp ((lg_cmp_le b 0).mp (by rw [e]; decide))
    rw [z0, h] at h1
    omega
  · intro e
    have : b = 0 := j0.mpr (by rw [h, e]; rfl)
    rw [this]; decide
theorem jn_div {a b : Int64} {n m : Nat} (ha : a.toInt = (n : Int)) (hb : b.toInt = (m : Int)) : (a / b).toInt = ((n / m : Nat) : Int) := by
  have hmin : ¬ a = Int64.minValue := fun e => by
    have : (Int64.minValue).toInt = -9223372036854775808 := by decide
    rw [e, this] at ha
    omega
  rw [Int64.toInt_div_of_ne_left _ _ hmin, ha, hb]
  rfl
theorem jn_mul {a b : Int64} {n m : Nat} (ha : a.toInt = (n : Int)) (hb : b.toInt = (m : Int)) (h : n * m < 2 ^ 62) : (a * b).toInt = ((n * m : Nat) : Int) := by
  have e : (n : Int) * (m : Int) = ((n * m : Nat) : Int) := (Int.natCast_mul n m).symm
  rw [Int64.toInt_mul, ha, hb, e, bm64 (by omega) (by omega)]
theorem jn_add {a b : Int64} {n m : Nat} (ha : a.toInt = (n : Int)) (hb : b.toInt = (m : Int)) (h : n + m < 2 ^ 62) : (a + b).toInt = ((n + m : Nat) : Int) := by
  rw [Int64.toInt_add, ha, hb, bm64 (by omega) (by omega)]
  omega
theorem jn_rem {a b : Int64} {n m : Nat} (ha : a.toInt = (n : Int)) (hb : b.toInt = (m : Int)) (h : n < 2 ^ 62) : (remL a b).toInt = ((n % m : Nat) : Int) := by
  have h1 : n / m * m ≤ n := Nat.div_mul_le_self n m
  have h2 := jn_mul (jn_div ha hb) hb (by omega)
  have h3 : n / m * m + n % m = n := by rw [Nat.mul_comm]; exact Nat.div_add_mod n m
  unfold remL
  rw [Int64.toInt_sub, ha, h2, bm64 (by omega) (by omega)]
  omega
theorem gc_lt {n m : Nat} (h : 0 < m) (hmn : m ≤ n) : n % m * 2 < n + 1 := by
  have h1 : n % m < m := Nat.mod_lt n h
  have h2 := Nat.div_add_mod n m
  have h3 : 1 ≤ n / m := (Nat.one_le_div_iff h).mpr hmn
  have h4 : m * 1 ≤ m * (n / m) := Nat.mul_le_mul_left m h3
  omega
/-- Euclid: with the second number below 2^k it ends within 2k+1 steps, at the greatest common divisor -/
theorem gc_end : ∀ k f (a b : Int64) (n m : Nat), a.toInt = (n : Int) → b.toInt = (m : Int) → n < 2 ^ 62 → m < 2 ^ k → k ≤ 62 → 2 * k + 1 ≤ f → gcE f a b = true ∧ (gcC f a b).toInt = ((Nat.gcd m n : Nat) : Int) := by
  intro k
  induction k with
  | zero =>
    intro f a b n m ha hb hn hm hk hf
    obtain ⟨g, rfl⟩ : ∃ g, f = g + 1 := ⟨f - 1, by omega⟩
    have m0 : m = 0 := by
      have : (2 : Nat) ^ 0 = 1 := by decide
      omega
    rw [gcE_s, gcC_s, if_pos ((jn_0 hb).mpr m0), if_pos ((jn_0 hb).mpr m0), m0, Nat.gcd_zero_left]
    exact ⟨rfl, ha⟩
  | succ k ih =>
    intro f a b n m ha hb hn hm hk hf
    obtain ⟨g, rfl⟩ : ∃ g, f = g + 1 + 1 := ⟨f - 2, by omega⟩
    have p62 : (2 : Nat) ^ (k + 1) ≤ 2 ^ 62 := Nat.pow_le_pow_right (by decide) hk
    by_cases m0 : m = 0
    · rw [gcE_s, gcC_s, if_pos ((jn_0 hb).mpr m0), if_pos ((jn_0 hb).mpr m0), m0, Nat.gcd_zero_left]
      exact ⟨rfl, ha⟩
    · have hr := jn_rem ha hb hn
      have hlt : n % m < m := Nat.mod_lt n (by omega)
      rw [gcE_s, gcC_s, if_neg (fun z => m0 ((jn_0 hb).mp z)), if_neg (fun z => m0 ((jn_0 hb).mp z))]
      by_cases r0 : n % m = 0
      · rw [gcE_s, gcC_s, if_pos ((jn_0 hr).mpr r0), if_pos ((jn_0 hr).mpr r0), Nat.gcd_rec m n, r0, Nat.gcd_zero_left]
        exact ⟨rfl, hb⟩
      · have hr2 := jn_rem hb hr (by omega)
        have h2 : m % (n % m) * 2 < m + 1 := gc_lt (by omega) (by omega)
        have pk : (2 : Nat) ^ (k + 1) = 2 ^ k * 2 := Nat.pow_succ 2 k
        rw [gcE_s, gcC_s, if_neg (fun z => r0 ((jn_0 hr).mp z)), if_neg (fun z => r0 ((jn_0 hr).mp z)), Nat.gcd_rec m n, Nat.gcd_rec (n % m) m]
        exact ih g _ _ _ _ hr hr2 (by omega) (by omega) (by omega) (by omega)
