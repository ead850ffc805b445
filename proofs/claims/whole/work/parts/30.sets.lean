/-! sets of small numbers as bits -/
def bsN (c : Nat → Bool) : Nat → Nat
  | 0 => 0
  | n + 1 => if c n = true then bsN c n ||| 2 ^ n else bsN c n
theorem bsN_t (c : Nat → Bool) (i : Nat) : ∀ N, (bsN c N).testBit i = (decide (i < N) && c i)
  | 0 => by unfold bsN; rw [Nat.zero_testBit, decide_eq_false (by omega), Bool.false_and]
  | n + 1 => by
    unfold bsN
    by_cases hc : c n = true
    · rw [if_pos hc, Nat.testBit_or, bsN_t c i n, Nat.testBit_two_pow]
      by_cases h : n = i
      · subst h
        rw [decide_eq_true rfl, Bool.or_true, decide_eq_true (by omega), hc]; rfl
      · rw [decide_eq_false h, Bool.or_false]
        congr 1
        exact decide_eq_decide.mpr (by omega)
    · rw [if_neg hc, bsN_t c i n]
      by_cases h : n = i
      · subst h
        rw [Bool.eq_false_iff.mpr hc, Bool.and_false, Bool.and_false]
      · congr 1
        exact decide_eq_decide.mpr (by omega)
theorem bsN_lt (c : Nat → Bool) : ∀ N, bsN c N < 2 ^ N
  | 0 => Nat.zero_lt_one
  | n + 1 => by
    unfold bsN
    have h := bsN_lt c n
    have h2 : 2 ^ n < 2 ^ (n + 1) := Nat.pow_lt_pow_right (by decide) (by omega)
    by_cases hc : c n = true
    · rw [if_pos hc]; exact Nat.or_lt_two_pow (by omega) h2
    · rw [if_neg hc]; omega
theorem shl1 {p : Nat} (h : p < 16) : shlI 1 (nI p) = nI (2 ^ p) := (by decide +kernel : ∀ p : Fin 16, shlI 1 (nI p.1) = nI (2 ^ p.1)) ⟨p, h⟩
theorem it_bs (c : Nat → Bool) : ∀ {N : Nat}, N ≤ 16 → itN (fun p b => if c p = true then b ||| shlI 1 (nI p) else b) N 0 = nI (bsN c N)
  | 0, _ => rfl
  | n + 1, h => by
    show (if c n = true then itN _ n 0 ||| shlI 1 (nI n) else itN _ n 0) = _
    rw [it_bs c (N := n) (by omega)]
    show _ = nI (if c n = true then bsN c n ||| 2 ^ n else bsN c n)
    by_cases hc : c n = true
    · rw [if_pos hc, if_pos hc, shl1 (by omega), nI_or]
    · rw [if_neg hc, if_neg hc]
theorem shr_k {k : Nat} (h : k < 16) : ((nI k &&& 31).toBitVec.smod 32).toNat = k := (by decide +kernel : ∀ p : Fin 16, ((nI p.1 &&& 31).toBitVec.smod 32).toNat = p.1) ⟨k, h⟩
theorem shr_nI {b k : Nat} (hb : b < 2 ^ 31) (hk : k < 16) : shrI (nI b) (nI k) &&& 1 = nI (b / 2 ^ k % 2) := by
  have e : shrI (nI b) (nI k) = nI (b / 2 ^ k) := pk_shrN hb _ k (shr_k hk)
  rw [e]
  exact pk_andN (m := 1) (Nat.lt_of_le_of_lt (Nat.div_le_self _ _) (by omega)) 1 (by decide)
theorem bit_1 {b k : Nat} (hb : b < 2 ^ 31) (hk : k < 16) : decide (shrI (nI b) (nI k) &&& 1 = 1) = b.testBit k := by
  rw [shr_nI hb hk, Nat.testBit_eq_decide_div_mod_eq]
  refine decide_eq_decide.mpr ?_
  exact nI_eq (a := b / 2 ^ k % 2) (b := 1) (by omega) (by decide)
theorem bit_0 {b k : Nat} (hb : b < 2 ^ 31) (hk : k < 16) : decide (shrI (nI b) (nI k) &&& 1 = 0) = !(b.testBit k) := by
  rw [← bit_1 hb hk, and1_same]
  cases decide (shrI (nI b) (nI k) &&& 1 = 1) <;> rfl
theorem mPagesIn_bs (fr : Nat → Int32) (f : Int32) : mPagesIn fr f = nI (bsN (fun p => decide (fr p = f)) 12) := by
  rw [← it_bs _ (by decide)]
  unfold mPagesIn
  refine itN_congr (fun p a _ => ?_) 0
  by_cases h : fr p = f
  · rw [if_pos h, if_pos (decide_eq_true h)]
  · rw [if_neg h, if_neg (by simpa using h)]
theorem bsN_0 {c : Nat → Bool} {N : Nat} : bsN c N = 0 ↔ ∀ i, i < N → c i = false := by
  constructor
  · intro h i hi
    have := bsN_t c i N
    rw [h, Nat.zero_testBit, decide_eq_true hi, Bool.true_and] at this
    exact this.symm
  · intro h
    refine Nat.eq_of_testBit_eq (fun i => ?_)
    rw [bsN_t, Nat.zero_testBit]
    by_cases hi : i < N
    · rw [h i hi, Bool.and_false]
    · rw [decide_eq_false hi, Bool.false_and]
theorem mUsed_iff (fr : Nat → Int32) (f : Int32) : mUsed fr f = false ↔ ∀ p, p < 12 → ¬ fr p = f := by
  unfold mUsed
  rw [mPagesIn_bs]
  have hl := bsN_lt (fun p => decide (fr p = f)) 12
  rw [Bool.not_eq_false', decide_eq_true_iff]
  refine (nI_eq (b := 0) (by omega) (by decide)).trans (bsN_0.trans ?_)
  exact ⟨fun h p hp => of_decide_eq_false (h p hp), fun h p hp => decide_eq_false (h p hp)⟩
