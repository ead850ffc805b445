theorem ush1 {n : Nat} (h : n < 2 ^ 32) : ushI (nI n) 1 = nI (n / 2) := pk_ushrN h 1 1 (by decide)
theorem ush2 {n : Nat} (h : n < 2 ^ 32) : ushI (nI n) 2 = nI (n / 4) := pk_ushrN h 2 2 (by decide)
theorem ush4 {n : Nat} (h : n < 2 ^ 32) : ushI (nI n) 4 = nI (n / 16) := pk_ushrN h 4 4 (by decide)
theorem ush8 {n : Nat} (h : n < 2 ^ 32) : ushI (nI n) 8 = nI (n / 256) := pk_ushrN h 8 8 (by decide)
theorem ush16 {n : Nat} (h : n < 2 ^ 32) : ushI (nI n) 16 = nI (n / 65536) := pk_ushrN h 16 16 (by decide)
theorem bitc_nI {k : Nat} (h : k < 65536) : bitc (nI k) = nI (bitcN k) := by
  have e1 : nI k - (ushI (nI k) 1 &&& 1431655765) = nI (k - Nat.land (k / 2) 1431655765) := by
    rw [ush1 (by omega)]
    show nI k - (nI (k / 2) &&& nI 1431655765) = _
    rw [nI_and]
    exact pk_sub (Nat.le_trans Nat.and_le_left (by omega))
  unfold bitc bitcN
  rw [e1]
  have ha : k - Nat.land (k / 2) 1431655765 < 65536 := by omega
  dsimp only
  generalize k - Nat.land (k / 2) 1431655765 = a at ha ⊢
  have e2 : (nI a &&& 858993459) + (ushI (nI a) 2 &&& 858993459) = nI (Nat.land a 858993459 + Nat.land (a / 4) 858993459) := by
    rw [ush2 (by omega)]
    show (nI a &&& nI 858993459) + (nI (a / 4) &&& nI 858993459) = _
    rw [nI_and, nI_and, nI_add]; rfl
  rw [e2]
  have hb : Nat.land a 858993459 + Nat.land (a / 4) 858993459 < 131072 := by
    have h1 : Nat.land a 858993459 ≤ a := Nat.and_le_left
    have h2 : Nat.land (a / 4) 858993459 ≤ a / 4 := Nat.and_le_left
    omega
  generalize Nat.land a 858993459 + Nat.land (a / 4) 858993459 = b at hb ⊢
  have e3 : (nI b + ushI (nI b) 4) &&& 252645135 = nI (Nat.land (b + b / 16) 252645135) := by
    rw [ush4 (by omega), nI_add]
    exact nI_and _ _
  rw [e3]
  have hc : Nat.land (b + b / 16) 252645135 < 262144 := by
    have h1 : Nat.land (b + b / 16) 252645135 ≤ b + b / 16 := Nat.and_le_left
    omega
  generalize Nat.land (b + b / 16) 252645135 = c at hc ⊢
  rw [ush8 (by omega), nI_add, ush16 (by omega), nI_add]
  exact nI_and _ _
theorem bitc_pop {k : Nat} (h : k < 65536) : bitc (nI k) = nI (pop k) := by rw [bitc_nI h, bitcN_pop h]
theorem land_lt {k : Nat} (h : 0 < k) : Nat.land k (k - 1) < k := Nat.lt_of_le_of_lt (Nat.and_le_right (n := k) (m := k - 1)) (by omega)
theorem popF_0 (n : Nat) : popF n 0 = 0 := by cases n <;> rfl
theorem sp_mbits_loop (d : Nat) (S : Mem) : ∀ (n k c : Nat) (u : AV), c + n < 2 ^ 31 → k < 65536 → popF (n + 1) k ≤ n → ev d 161 4 [u, vI (nI c), vI (nI k)] [] S = some (some (vI (nI (c + popF (n + 1) k))), S) := by
  intro n
  induction n with
  | zero =>
    intro k c u hc hk hp
    rw [B_X8_bitsOf_4]
    by_cases h0 : k = 0
    · subst h0; rw [if_pos nI_0]; rfl
    · exfalso
      unfold popF at hp
      cases hb : Nat.beq k 0
      · rw [hb] at hp
        exact absurd hp (by show ¬ _ + 1 ≤ 0; omega)
      · exact h0 (Nat.eq_of_beq_eq_true hb)
  | succ n ih =>
    intro k c u hc hk hp
    rw [B_X8_bitsOf_4]
    by_cases h0 : k = 0
    · subst h0; rw [if_pos nI_0]; rfl
    · have hb : Nat.beq k 0 = false := by
        cases hb : Nat.beq k 0
        · rfl
        · exact absurd (Nat.eq_of_beq_eq_true hb) h0
      have eq : popF (n + 1 + 1) k = popF (n + 1) (Nat.land k (k - 1)) + 1 := by
        show cond (Nat.beq k 0) 0 _ = _
        rw [hb]; rfl
      rw [eq] at hp ⊢
      have h1 : Nat.land k (k - 1) < k := land_lt (by omega)
      rw [if_neg (nI_ne0 (by omega) (by omega)), show nI k - 1 = nI (k - 1) from pk_sub (b := 1) (by omega), show nI k &&& nI (k - 1) = nI (Nat.land k (k - 1)) from nI_and _ _, nI_1, ih (Nat.land k (k - 1)) (c + 1) vU (by omega) (by omega) (by omega)]
      rw [show c + 1 + popF (n + 1) (Nat.land k (k - 1)) = c + (popF (n + 1) (Nat.land k (k - 1)) + 1) by omega]
theorem sp_mbitsOf (d k : Nat) (hk : k < 65536) (S : Mem) : cal d 161 [vI (nI k)] S = some (some (vI (nI (pop k))), S) := by
  rw [B_X8_bitsOf]
  refine (sp_mbits_loop d S 16 k 0 _ (by decide) hk (pop_le hk)).trans ?_
  rw [Nat.zero_add]; rfl
theorem sp_bits (d k : Nat) (hk : k < 65536) (S : Mem) : cal d 318 [vI (nI k)] S = some (some (vI (nI (pop k))), S) := by
  rw [sp_bitCount, bitc_pop hk]
