/-! ways as Nats; the class's common ways -/
def wayN (n k : Nat) : Nat := (wayZ n k).toInt.toNat
theorem way_f {n k : Nat} (hn : n < 17) (hk : k < 17) : (wayZ n k).toInt = (wayN n k : Int) ∧ wayN n k ≤ wayN 16 k ∧ wayN 16 k ≤ 12870 ∧ 0 < wayN 16 k ∧ 720720 / wayN 16 k * wayN 16 k = 720720 := (by decide +kernel : ∀ (n k : Fin 17), (wayZ n.1 k.1).toInt = (wayN n.1 k.1 : Int) ∧ wayN n.1 k.1 ≤ wayN 16 k.1 ∧ wayN 16 k.1 ≤ 12870 ∧ 0 < wayN 16 k.1 ∧ 720720 / wayN 16 k.1 * wayN 16 k.1 = 720720) ⟨n, hn⟩ ⟨k, hk⟩
def cwN (p q : Nat) : Nat := wayN (16 - p) q * (720720 / wayN 16 q)
theorem cwN_le {p q : Nat} (hq : q < 17) : cwN p q ≤ 720720 := by
  obtain ⟨-, h2, h3, h4, h5⟩ := way_f (n := 16 - p) (k := q) (by omega) hq
  have := Nat.mul_le_mul_right (720720 / wayN 16 q) h2
  unfold cwN
  rw [Nat.mul_comm] at h5
  omega
/-- the summand over 720720 is the quotient of the ways -/
theorem cwN_e {p q : Nat} (hq : q < 17) : cwN p q * wayN 16 q = wayN (16 - p) q * 720720 := by
  obtain ⟨-, h2, h3, h4, h5⟩ := way_f (n := 16 - p) (k := q) (by omega) hq
  unfold cwN
  rw [Nat.mul_assoc, h5]
theorem cw_c {k l : Nat} (hk : k < 65536) (hl : l < 65536) (d : Nat) (S : Mem) : ∃ v : Int64, cal (d + 1) 155 [vI (nI k), vI (nI l)] S = some (some (vL v), S) ∧ v.toInt = ((cwN (pop k) (pop l) : Nat) : Int) := by
  have hp := pop_le hk
  have hq := pop_le hl
  obtain ⟨a1, a2, a3, a4, a5⟩ := way_f (n := 16 - pop k) (k := pop l) (by omega) (by omega)
  obtain ⟨b1, -, -, -, -⟩ := way_f (n := 16) (k := pop l) (by omega) (by omega)
  have w16 : cal d 154 [vI 16, vI (nI (pop l))] S = some (some (vL (wayZ 16 (pop l))), S) := way_c (n := 16) (by decide) (by omega) _ S
  have nz : ¬ lg_cmp (wayZ 16 (pop l)) 0 = 0 := fun z => by
    have := (jn_0 b1).mp z
    omega
  have c72 : (720720 : Int64).toInt = ((720720 : Nat) : Int) := by decide
  have h3 := jn_div c72 b1
  have hle : cwN (pop k) (pop l) ≤ 720720 := cwN_le (by omega)
  have h4 := jn_mul a1 h3 (Nat.lt_of_le_of_lt hle (by decide))
  rw [B_X7_commonWays, sp_bitCount, bI_s, sp_bitCount, bI_s, bitc_pop hk, bitc_pop hl, w16, bL_s, if_neg nz, s16 (by omega), way_c (by omega) (by omega), bL_s, nzc nz, gd_t]
  exact ⟨_, rfl, h4⟩
