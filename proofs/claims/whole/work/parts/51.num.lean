/-! worths as numbers -/
def cl6 (x : Int) : Int := if x < -1000000 then -1000000 else if 1000000 < x then 1000000 else x
def bd6 (x : Int) : Prop := -1000000 ≤ x ∧ x ≤ 1000000
theorem cl6_bd (x : Int) : bd6 (cl6 x) := by
  unfold cl6 bd6
  by_cases h : x < -1000000
  · rw [if_pos h]; omega
  · rw [if_neg h]
    by_cases h2 : 1000000 < x
    · rw [if_pos h2]; omega
    · rw [if_neg h2]; omega
theorem cl6_s {x : Int} (h : bd6 x) : cl6 x = x := by
  unfold bd6 at h
  unfold cl6
  rw [if_neg (by omega), if_neg (by omega)]
theorem p32 : ((2 ^ 32 : Nat) : Int) = 4294967296 := rfl
theorem p64 : ((2 ^ 64 : Nat) : Int) = 18446744073709551616 := rfl
theorem bm32 {x : Int} (h : -2147483648 ≤ x) (h2 : x < 2147483648) : x.bmod (2 ^ 32) = x := Int.bmod_eq_of_le_mul_two (by rw [p32]; omega) (by rw [p32]; omega)
theorem bm64 {x : Int} (h : -9223372036854775808 ≤ x) (h2 : x < 9223372036854775808) : x.bmod (2 ^ 64) = x := Int.bmod_eq_of_le_mul_two (by rw [p64]; omega) (by rw [p64]; omega)
theorem c6p : (1000000 : Int64).toInt = 1000000 := by decide
theorem c6m : (-1000000 : Int64).toInt = -1000000 := by decide
theorem lim_L (a : Int64) : (maxLo (-1000000) (minLo 1000000 a)).toInt = cl6 a.toInt := by
  unfold maxLo minLo cl6
  by_cases h1 : a < 1000000
  · have h1' := Int64.lt_iff_toInt_lt.mp h1
    rw [c6p] at h1'
    rw [if_pos h1]
    by_cases h2 : a < -1000000
    · have h2' := Int64.lt_iff_toInt_lt.mp h2
      rw [c6m] at h2'
      rw [if_pos h2, if_pos h2']; exact c6m
    · have h2' : ¬ a.toInt < -1000000 := fun z => h2 (Int64.lt_iff_toInt_lt.mpr (by rw [c6m]; exact z))
      rw [if_neg h2, if_neg h2', if_neg (by omega)]
  · have h1' : ¬ a.toInt < 1000000 := fun z => h1 (Int64.lt_iff_toInt_lt.mpr (by rw [c6p]; exact z))
    rw [if_neg h1, if_neg (show ¬ (1000000 : Int64) < -1000000 by decide), if_neg (show ¬ a.toInt < -1000000 by omega), c6p]
    by_cases h3 : 1000000 < a.toInt
    · rw [if_pos h3]
    · rw [if_neg h3]; omega
theorem lim_t (a : Int64) : (Int64.toInt32 (maxLo (-1000000) (minLo 1000000 a))).toInt = cl6 a.toInt := by
  have hb := cl6_bd a.toInt
  unfold bd6 at hb
  rw [Int64.toInt_toInt32, lim_L, bm32 (by omega) (by omega)]
theorem clip_t (d : Nat) (a : Int64) (S : Mem) : ∃ b : Int64, cal d 217 [vL a] S = some (some (vL b), S) ∧ b.toInt = cl6 a.toInt := by
  rw [B_X8_clip]
  unfold cl6
  by_cases h1 : lg_cmp a 1000000 ≤ 0
  · have h1' := Int64.le_iff_toInt_le.mp ((lg_cmp_le _ _).mp h1)
    rw [c6p] at h1'
    rw [if_pos h1]
    by_cases h2 : 0 ≤ lg_cmp a (-1000000)
    · have h2' := Int64.le_iff_toInt_le.mp ((lg_cmp_ge _ _).mp h2)
      rw [c6m] at h2'
      rw [if_pos h2]
      exact ⟨a, rfl, by rw [if_neg (by omega), if_neg (by omega)]⟩
    · have h2' : ¬ -1000000 ≤ a.toInt := fun z => h2 ((lg_cmp_ge _ _).mpr (Int64.le_iff_toInt_le.mpr (by rw [c6m]; exact z)))
      rw [if_neg h2]
      exact ⟨-1000000, rfl, by rw [if_pos (by omega), c6m]⟩
  · have h1' : ¬ a.toInt ≤ 1000000 := fun z => h1 ((lg_cmp_le _ _).mpr (Int64.le_iff_toInt_le.mpr (by rw [c6p]; exact z)))
    rw [if_neg h1]
    exact ⟨1000000, rfl, by rw [if_neg (by omega), if_pos (by omega), c6p]⟩
/-! signs between two -/
def bop (o : Nat) (x y : Int) : Int := if o = 31 then cl6 (x + y) else if o = 32 then cl6 (x - y) else if o = 33 then cl6 (x * y) else if y = 0 then 0 else cl6 (x.tdiv y)
theorem bop_bd (o : Nat) (x y : Int) : bd6 (bop o x y) := by
  unfold bop
  by_cases h : o = 31
  · rw [if_pos h]; exact cl6_bd _
  · rw [if_neg h]
    by_cases h : o = 32
    · rw [if_pos h]; exact cl6_bd _
    · rw [if_neg h]
      by_cases h : o = 33
      · rw [if_pos h]; exact cl6_bd _
      · rw [if_neg h]
        by_cases h : y = 0
        · rw [if_pos h]; exact ⟨by decide, by decide⟩
        · rw [if_neg h]; exact cl6_bd _
theorem t64 {a : Int32} {x : Int} (h : a.toInt = x) : a.toInt64.toInt = x := by rw [Int32.toInt_toInt64, h]
theorem mul_bd {x y : Int} (hx : bd6 x) (hy : bd6 y) : -1000000000000 ≤ x * y ∧ x * y ≤ 1000000000000 := by
  unfold bd6 at hx hy
  have h1 : x.natAbs ≤ 1000000 := by omega
  have h2 : y.natAbs ≤ 1000000 := by omega
  have h3 : (x * y).natAbs ≤ 1000000 * 1000000 := by rw [Int.natAbs_mul]; exact Nat.mul_le_mul h1 h2
  omega
theorem div_bd {x y : Int} (hx : bd6 x) : bd6 (x.tdiv y) := by
  unfold bd6 at hx ⊢
  have h1 : (x.tdiv y).natAbs ≤ x.natAbs := by rw [Int.natAbs_tdiv]; exact Nat.div_le_self _ _
  omega
theorem ne_min {a : Int32} {x : Int} (h : a.toInt = x) (hx : bd6 x) : ¬ a = Int32.minValue := fun z => by
  rw [z] at h
  have : Int32.minValue.toInt = -2147483648 := by decide
  unfold bd6 at hx
  omega
theorem i0 {a : Int32} : a = 0 ↔ a.toInt = 0 := ⟨fun h => by rw [h]; rfl, fun h => Int32.toInt_inj.mp h⟩
theorem cj_bop (d : Nat) {o : Nat} (ho : o = 31 ∨ o = 32 ∨ o = 33 ∨ o = 34) {a b : Int32} {x y : Int} (ha : a.toInt = x) (hb : b.toInt = y) (hx : bd6 x) (hy : bd6 y) (S : Mem) : ∃ z : Int64, cal d 96 [vI (nI o), vI a, vI b] S = some (some (vL z), S) ∧ cl6 z.toInt = bop o x y := by
  have hm := mul_bd hx hy
  have hx' := hx
  have hy' := hy
  unfold bd6 at hx' hy'
  rcases ho with rfl | rfl | rfl | rfl
  · refine ⟨a.toInt64 + b.toInt64, by rw [B_X5_joined, if_neg (show ¬ nI 31 = 16 by decide), if_neg (show ¬ nI 31 = 17 by decide), if_neg (show ¬ nI 31 = 25 by decide), if_neg (show ¬ nI 31 = 26 by decide), if_neg (show ¬ nI 31 = 27 by decide), if_neg (show ¬ nI 31 = 28 by decide), if_neg (show ¬ nI 31 = 29 by decide), if_neg (show ¬ nI 31 = 30 by decide), if_pos (show nI 31 = 31 from rfl)], ?_⟩
    rw [Int64.toInt_add, t64 ha, t64 hb, bm64 (by omega) (by omega)]; unfold bop; rw [if_pos rfl]
  · refine ⟨a.toInt64 - b.toInt64, by rw [B_X5_joined, if_neg (show ¬ nI 32 = 16 by decide), if_neg (show ¬ nI 32 = 17 by decide), if_neg (show ¬ nI 32 = 25 by decide), if_neg (show ¬ nI 32 = 26 by decide), if_neg (show ¬ nI 32 = 27 by decide), if_neg (show ¬ nI 32 = 28 by decide), if_neg (show ¬ nI 32 = 29 by decide), if_neg (show ¬ nI 32 = 30 by decide), if_neg (show ¬ nI 32 = 31 by decide), if_pos (show nI 32 = 32 from rfl)], ?_⟩
    rw [Int64.toInt_sub, t64 ha, t64 hb, bm64 (by omega) (by omega)]; unfold bop; rw [if_neg (by decide), if_pos rfl]
  · refine ⟨a.toInt64 * b.toInt64, by rw [B_X5_joined, if_neg (show ¬ nI 33 = 16 by decide), if_neg (show ¬ nI 33 = 17 by decide), if_neg (show ¬ nI 33 = 25 by decide), if_neg (show ¬ nI 33 = 26 by decide), if_neg (show ¬ nI 33 = 27 by decide), if_neg (show ¬ nI 33 = 28 by decide), if_neg (show ¬ nI 33 = 29 by decide), if_neg (show ¬ nI 33 = 30 by decide), if_neg (show ¬ nI 33 = 31 by decide), if_neg (show ¬ nI 33 = 32 by decide), if_pos (show nI 33 = 33 from rfl)], ?_⟩
    rw [Int64.toInt_mul, t64 ha, t64 hb, bm64 (by omega) (by omega)]; unfold bop; rw [if_neg (by decide), if_neg (by decide), if_pos rfl]
  · rw [B_X5_joined, if_neg (show ¬ nI 34 = 16 by decide), if_neg (show ¬ nI 34 = 17 by decide), if_neg (show ¬ nI 34 = 25 by decide), if_neg (show ¬ nI 34 = 26 by decide), if_neg (show ¬ nI 34 = 27 by decide), if_neg (show ¬ nI 34 = 28 by decide), if_neg (show ¬ nI 34 = 29 by decide), if_neg (show ¬ nI 34 = 30 by decide), if_neg (show ¬ nI 34 = 31 by decide), if_neg (show ¬ nI 34 = 32 by decide), if_neg (show ¬ nI 34 = 33 by decide), if_pos (show nI 34 = 34 from rfl)]
    by_cases hb0 : b = 0
    · rw [if_pos hb0]
      refine ⟨0, rfl, ?_⟩
      have : y = 0 := by rw [← hb]; exact i0.mp hb0
      rw [this]; unfold bop; rw [if_neg (by decide), if_neg (by decide), if_neg (by decide), if_pos rfl]; decide
    · have hy0 : ¬ y = 0 := fun z => hb0 (i0.mpr (hb.trans z))
      have hn : nz b = true := by unfold nz; exact decide_eq_true hb0
      rw [if_neg hb0, gd_p hn]
      refine ⟨_, rfl, ?_⟩
      rw [Int32.toInt_toInt64, Int32.toInt_div_of_ne_left _ _ (ne_min ha hx), ha, hb]
      unfold bop
      rw [if_neg (by decide), if_neg (by decide), if_neg (by decide), if_neg hy0]
def cop (o : Nat) (x y : Int) : Bool := if o = 25 then decide (x < y) else if o = 26 then decide (x ≤ y) else if o = 27 then decide (y < x) else if o = 28 then decide (y ≤ x) else if o = 29 then decide (x = y) else decide (¬ x = y)
def b01 (b : Bool) : Int := cond b 1 0
theorem b01_bd (b : Bool) : bd6 (b01 b) := by cases b <;> exact ⟨by decide, by decide⟩
theorem if01 {p : Prop} [Decidable p] {b : Bool} (S : Mem) (h : p ↔ b = true) : ∃ z : Int64, (if p then some (some (vL 1), S) else some (some (vL 0), S)) = some (some (vL z), S) ∧ cl6 z.toInt = b01 b := by
  by_cases hp : p
  · rw [if_pos hp, h.mp hp]; exact ⟨1, rfl, by decide⟩
  · have : b = false := by
      cases hb : b
      · rfl
      · exact absurd (h.mpr hb) hp
    rw [if_neg hp, this]; exact ⟨0, rfl, by decide⟩
theorem if10 {p : Prop} [Decidable p] {b : Bool} (S : Mem) (h : p ↔ b = false) : ∃ z : Int64, (if p then some (some (vL 0), S) else some (some (vL 1), S)) = some (some (vL z), S) ∧ cl6 z.toInt = b01 b := by
  by_cases hp : p
  · rw [if_pos hp, h.mp hp]; exact ⟨0, rfl, by decide⟩
  · have : b = true := by
      cases hb : b
      · exact absurd (h.mpr hb) hp
      · rfl
    rw [if_neg hp, this]; exact ⟨1, rfl, by decide⟩
theorem cj_cop (d : Nat) {o : Nat} (ho : o = 25 ∨ o = 26 ∨ o = 27 ∨ o = 28 ∨ o = 29 ∨ o = 30) {a b : Int32} {x y : Int} (ha : a.toInt = x) (hb : b.toInt = y) (S : Mem) : ∃ z : Int64, cal d 96 [vI (nI o), vI a, vI b] S = some (some (vL z), S) ∧ cl6 z.toInt = b01 (cop o x y) := by
  have hle : ∀ u v : Int32, u ≤ v ↔ u.toInt ≤ v.toInt := fun u v => Int32.le_iff_toInt_le
  have hlt : ∀ u v : Int32, u < v ↔ u.toInt < v.toInt := fun u v => Int32.lt_iff_toInt_lt
  have heq : a = b ↔ x = y := by rw [← ha, ← hb]; exact Int32.toInt_inj.symm
  rcases ho with rfl | rfl | rfl | rfl | rfl | rfl
  · have e : cal d 96 [vI (nI 25), vI a, vI b] S = if b ≤ a then some (some (vL 0), S) else some (some (vL 1), S) := by rw [B_X5_joined, if_neg (show ¬ nI 25 = 16 by decide), if_neg (show ¬ nI 25 = 17 by decide), if_pos (show nI 25 = 25 from rfl)]
    rw [e]; refine if10 S ?_
    rw [hle, ha, hb]; show _ ↔ decide (x < y) = false
    rw [decide_eq_false_iff_not]; omega
  · have e : cal d 96 [vI (nI 26), vI a, vI b] S = if b < a then some (some (vL 0), S) else some (some (vL 1), S) := by rw [B_X5_joined, if_neg (show ¬ nI 26 = 16 by decide), if_neg (show ¬ nI 26 = 17 by decide), if_neg (show ¬ nI 26 = 25 by decide), if_pos (show nI 26 = 26 from rfl)]
    rw [e]; refine if10 S ?_
    rw [hlt, ha, hb]; show _ ↔ decide (x ≤ y) = false
    rw [decide_eq_false_iff_not]; omega
  · have e : cal d 96 [vI (nI 27), vI a, vI b] S = if a ≤ b then some (some (vL 0), S) else some (some (vL 1), S) := by rw [B_X5_joined, if_neg (show ¬ nI 27 = 16 by decide), if_neg (show ¬ nI 27 = 17 by decide), if_neg (show ¬ nI 27 = 25 by decide), if_neg (show ¬ nI 27 = 26 by decide), if_pos (show nI 27 = 27 from rfl)]
    rw [e]; refine if10 S ?_
    rw [hle, ha, hb]; show _ ↔ decide (y < x) = false
    rw [decide_eq_false_iff_not]; omega
  · have e : cal d 96 [vI (nI 28), vI a, vI b] S = if a < b then some (some (vL 0), S) else some (some (vL 1), S) := by rw [B_X5_joined, if_neg (show ¬ nI 28 = 16 by decide), if_neg (show ¬ nI 28 = 17 by decide), if_neg (show ¬ nI 28 = 25 by decide), if_neg (show ¬ nI 28 = 26 by decide), if_neg (show ¬ nI 28 = 27 by decide), if_pos (show nI 28 = 28 from rfl)]
    rw [e]; refine if10 S ?_
    rw [hlt, ha, hb]; show _ ↔ decide (y ≤ x) = false
    rw [decide_eq_false_iff_not]; omega
  · have e : cal d 96 [vI (nI 29), vI a, vI b] S = if a = b then some (some (vL 1), S) else some (some (vL 0), S) := by rw [B_X5_joined, if_neg (show ¬ nI 29 = 16 by decide), if_neg (show ¬ nI 29 = 17 by decide), if_neg (show ¬ nI 29 = 25 by decide), if_neg (show ¬ nI 29 = 26 by decide), if_neg (show ¬ nI 29 = 27 by decide), if_neg (show ¬ nI 29 = 28 by decide), if_pos (show nI 29 = 29 from rfl)]
    rw [e]; refine if01 S ?_
    rw [heq]; show _ ↔ decide (x = y) = true
    rw [decide_eq_true_iff]
  · have e : cal d 96 [vI (nI 30), vI a, vI b] S = if a = b then some (some (vL 0), S) else some (some (vL 1), S) := by rw [B_X5_joined, if_neg (show ¬ nI 30 = 16 by decide), if_neg (show ¬ nI 30 = 17 by decide), if_neg (show ¬ nI 30 = 25 by decide), if_neg (show ¬ nI 30 = 26 by decide), if_neg (show ¬ nI 30 = 27 by decide), if_neg (show ¬ nI 30 = 28 by decide), if_neg (show ¬ nI 30 = 29 by decide), if_pos (show nI 30 = 30 from rfl)]
    rw [e]; refine if10 S ?_
    rw [heq]; show _ ↔ decide (¬ x = y) = false
    rw [decide_eq_false_iff_not, Classical.not_not]
def bbo (o : Nat) (x y : Bool) : Bool := if o = 16 then x || y else x && y
theorem b01_t {a : Int32} {b : Bool} (h : a.toInt = b01 b) : a = b2i b := by
  cases b
  · exact Int32.toInt_inj.mp (h.trans (by decide))
  · exact Int32.toInt_inj.mp (h.trans (by decide))
theorem cj_bbo (d : Nat) {o : Nat} (ho : o = 16 ∨ o = 17) {a b : Int32} {x y : Bool} (ha : a.toInt = b01 x) (hb : b.toInt = b01 y) (S : Mem) : ∃ z : Int64, cal d 96 [vI (nI o), vI a, vI b] S = some (some (vL z), S) ∧ cl6 z.toInt = b01 (bbo o x y) := by
  rw [b01_t ha, b01_t hb]
  rcases ho with rfl | rfl
  · refine ⟨(b2i x ||| b2i y).toInt64, by rw [B_X5_joined, if_pos (show nI 16 = 16 from rfl)], ?_⟩
    cases x <;> cases y <;> decide
  · refine ⟨(b2i x &&& b2i y).toInt64, by rw [B_X5_joined, if_neg (show ¬ nI 17 = 16 by decide), if_pos (show nI 17 = 17 from rfl)], ?_⟩
    cases x <;> cases y <;> decide
