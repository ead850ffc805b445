/-! ways to choose, class and reference -/
def chC (n : Nat) : Nat → Int64
  | 0 => 1
  | j + 1 => (chC n j * Int32.toInt64 (nI n - nI j)) / Int32.toInt64 (nI j + 1)
theorem chC_s (n j : Nat) : chC n (j + 1) = (chC n j * Int32.toInt64 (nI n - nI j)) / Int32.toInt64 (nI j + 1) := rfl
def wayZ (n k : Nat) : Int64 := if k ≤ n then chC n k else 0
theorem chC_p {n j : Nat} (hn : n ≤ 16) (hj : j ≤ n) : ¬ lg_cmp (chC n j) 0 ≤ 0 := (by decide +kernel : ∀ (n : Fin 17) (j : Fin 17), j.1 ≤ n.1 → ¬ lg_cmp (chC n.1 j.1) 0 ≤ 0) ⟨n, by omega⟩ ⟨j, by omega⟩ hj
theorem nz1 {j : Nat} (hj : j < 17) : nzL (Int32.toInt64 (nI j + 1)) = true := (by decide +kernel : ∀ j : Fin 17, nzL (Int32.toInt64 (nI j.1 + 1)) = true) ⟨j, hj⟩
theorem sub1 {n j : Nat} (hn : n ≤ 16) (hj : j ≤ 16) : nI n - (nI j + 1) + 1 = nI n - nI j := (by decide +kernel : ∀ (n : Fin 17) (j : Fin 17), nI n.1 - (nI j.1 + 1) + 1 = nI n.1 - nI j.1) ⟨n, by omega⟩ ⟨j, by omega⟩
theorem way_c {n k : Nat} (hn : n ≤ 16) (hk : k ≤ 16) (d : Nat) (S : Mem) : cal d 154 [vI (nI n), vI (nI k)] S = some (some (vL (wayZ n k)), S) := by
  rw [B_X7_waysToChoose]
  unfold wayZ
  by_cases z : k ≤ n
  · have lp_ : ∀ j, j ≤ k → ev d 154 12 [vI (nI n), vI (nI k), vL 1, vU, vI 0] [] S = ev d 154 12 [vI (nI n), vI (nI k), vL (chC n j), vU, vI (nI j)] [] S := by
      intro j
      induction j with
      | zero => intro _; rfl
      | succ j ih =>
        intro hj
        rw [ih (by omega), B_X7_waysToChoose_12, if_neg (show ¬ nI k ≤ nI j from fun y => by have := (nI_leI (by omega) (by omega)).mp y; omega), nz1 (by omega), gd_t, chC_s, nI_1]
    rw [if_pos ((nI_leI (by omega) (by omega)).mpr z), if_pos z, lp_ k (Nat.le_refl k), B_X7_waysToChoose_12, if_pos (Int32.le_refl _)]
  · rw [if_neg (show ¬ nI k ≤ nI n from fun y => by have := (nI_leI (by omega) (by omega)).mp y; omega), if_neg z]
theorem way_m {n k : Nat} (hn : n ≤ 16) (hk : k ≤ 16) (d : Nat) (S : Mem) : cal d 289 [vI (nI n), vI (nI k)] S = some (some (vL (wayZ n k)), S) := by
  rw [B_X8_ways]
  unfold wayZ
  by_cases z : k ≤ n
  · have lp_ : ∀ j, j ≤ k → ev d 289 14 [vI (nI n), vI (nI k), vL 1, vU, vI 1] [] S = ev d 289 14 [vI (nI n), vI (nI k), vL (chC n j), vU, vI (nI (j + 1))] [] S := by
      intro j
      induction j with
      | zero => intro _; rfl
      | succ j ih =>
        intro hj
        rw [ih (by omega), B_X8_ways_14, if_neg (show ¬ nI k < nI (j + 1) from nI_nlt (by omega) (by omega)), if_neg (chC_p hn (by omega)), ← nI_1 j, sub1 hn (by omega), nz1 (by omega), gd_t, chC_s, nI_1, nI_1]
    rw [if_pos ((nI_leI (by omega) (by omega)).mpr z), if_pos z, lp_ k (Nat.le_refl k), B_X8_ways_14, if_pos (show nI k < nI (k + 1) from nI_lt (by omega) (by omega))]
  · rw [if_neg (show ¬ nI k ≤ nI n from fun y => by have := (nI_leI (by omega) (by omega)).mp y; omega), if_neg z, B_X8_ways_14, if_neg (show ¬ nI k < (1 : Int32) from nI_nlt (a := k) (b := 1) (by omega) (by omega)), if_pos (by decide)]
