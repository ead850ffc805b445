/-! the lowest bit; bits of sets that do not clash -/
def cntR : Nat → Nat → Nat
  | 0, _ => 0
  | n + 1, k => k % 2 + cntR n (k / 2)
def ck2 (w : Nat) : Bool := cond (Nat.beq w 0) true (and (and (Nat.beq (Nat.land w (4294967296 - w)) (2 ^ Nat.log2 (Nat.land w (4294967296 - w)))) (Nat.ble (Nat.log2 (Nat.land w (4294967296 - w))) 15)) (and (Nat.beq (Nat.land w (Nat.land w (4294967296 - w) - 1)) 0) (Nat.ble 1 (Nat.land w (4294967296 - w)))))
def ck2R : Nat → Nat → Bool
  | 0, _ => true
  | n + 1, b => and (ck2 (b + n)) (ck2R n b)
def ck2Q : Nat → Bool
  | 0 => true
  | n + 1 => and (ck2R 256 (n * 256)) (ck2Q n)
theorem ck2Q_t : ck2Q 256 = true := by decide +kernel
theorem ck2R_at : ∀ n b, ck2R n b = true → ∀ i, i < n → ck2 (b + i) = true
  | 0, _, _, i, h => by omega
  | n + 1, b, h, i, hi => by
    unfold ck2R at h
    rw [Bool.and_eq_true] at h
    rcases Nat.lt_or_ge i n with z | z
    · exact ck2R_at n b h.2 i z
    · rw [show i = n by omega]; exact h.1
theorem ck2Q_at : ∀ n, ck2Q n = true → ∀ q, q < n → ck2R 256 (q * 256) = true
  | 0, _, i, h => by omega
  | n + 1, h, i, hi => by
    unfold ck2Q at h
    rw [Bool.and_eq_true] at h
    rcases Nat.lt_or_ge i n with z | z
    · exact ck2Q_at n h.2 i z
    · rw [show i = n by omega]; exact h.1
theorem ck2_at {k : Nat} (h : k < 65536) : ck2 k = true := by
  have e := ck2R_at 256 _ (ck2Q_at 256 ck2Q_t (k / 256) (by omega)) (k % 256) (Nat.mod_lt _ (by decide))
  rwa [show k / 256 * 256 + k % 256 = k by omega] at e
theorem cntR_le : ∀ n k, cntR n k ≤ n
  | 0, _ => Nat.le_refl _
  | n + 1, k => by
    have := cntR_le n (k / 2)
    unfold cntR
    omega
theorem cnt_low : ∀ m k, 0 < k → k < 2 ^ m → cntR m (k &&& (k - 1)) + 1 = cntR m k
  | 0, k, h0, h => by omega
  | m + 1, k, h0, h => by
    have h1 : (k &&& (k - 1)) / 2 = k / 2 &&& (k - 1) / 2 := Nat.and_div_two
    have h2 : (k &&& (k - 1)) % 2 = 0 := by
      have : ¬ (k &&& (k - 1)) % 2 = 1 := fun z => by
        have := Nat.and_mod_two_eq_one.mp z
        omega
      omega
    unfold cntR
    rw [h1, h2]
    by_cases ho : k % 2 = 1
    · rw [show (k - 1) / 2 = k / 2 by omega, Nat.and_self, ho]; omega
    · have ih := cnt_low m (k / 2) (by omega) (by rw [Nat.pow_succ] at h; omega)
      rw [show (k - 1) / 2 = k / 2 - 1 by omega, show k % 2 = 0 by omega]
      omega
theorem popF_cnt : ∀ n k, k < 65536 → cntR 16 k ≤ n → popF n k = cntR 16 k
  | 0, k, _, h => by
    have : cntR 16 k = 0 := by omega
    rw [this]; rfl
  | n + 1, k, hk, h => by
    by_cases h0 : k = 0
    · rw [h0]; rfl
    · have hb : Nat.beq k 0 = false := by
        cases hb : Nat.beq k 0
        · rfl
        · exact absurd (Nat.eq_of_beq_eq_true hb) h0
      have hl := cnt_low 16 k (by omega) hk
      have hlt : k &&& (k - 1) < 65536 := Nat.lt_of_le_of_lt Nat.and_le_left hk
      have ih := popF_cnt n (k &&& (k - 1)) hlt (by omega)
      show cond (Nat.beq k 0) 0 (popF n (k &&& (k - 1)) + 1) = _
      rw [hb]
      show popF n (k &&& (k - 1)) + 1 = _
      rw [ih]; exact hl
theorem pop_cnt {k : Nat} (h : k < 65536) : pop k = cntR 16 k := popF_cnt 17 k h (Nat.le_trans (cntR_le 16 k) (by decide))
theorem cntR_disj : ∀ n a b, a &&& b = 0 → cntR n a + cntR n b ≤ n
  | 0, _, _, _ => Nat.le_refl _
  | n + 1, a, b, h => by
    have h2 : a / 2 &&& b / 2 = 0 := by rw [← Nat.and_div_two, h]
    have ih := cntR_disj n (a / 2) (b / 2) h2
    have h3 : ¬ (a % 2 = 1 ∧ b % 2 = 1) := fun z => by
      have := Nat.and_mod_two_eq_one.mpr z
      rw [h] at this
      exact absurd this (by decide)
    unfold cntR
    omega
theorem pop_disj {a b : Nat} (ha : a < 65536) (hb : b < 65536) (h : a &&& b = 0) : pop a + pop b ≤ 16 := by
  rw [pop_cnt ha, pop_cnt hb]
  exact cntR_disj 16 a b h
theorem nI_neg {w : Nat} (h0 : 0 < w) (h : w < 65536) : -(nI w) = nI (4294967296 - w) := by
  apply Int32.toBitVec_inj.mp
  rw [Int32.toBitVec_neg]
  apply BitVec.eq_of_toNat_eq
  rw [BitVec.toNat_neg, pk_tn (by omega), pk_tn (by omega)]
  omega
/-- the lowest bit of what waits -/
theorem low_ex {w : Nat} (h0 : 0 < w) (h : w < 65536) : ∃ s, s < 16 ∧ nI w &&& -(nI w) = nI (2 ^ s) ∧ (∀ j, j < s → w.testBit j = false) ∧ w.testBit s = true := by
  have e := ck2_at h
  unfold ck2 at e
  have hb : Nat.beq w 0 = false := by
    cases hb : Nat.beq w 0
    · rfl
    · exact absurd (Nat.eq_of_beq_eq_true hb) (by omega)
  have e2 := e
  rw [hb] at e2
  dsimp only [cond] at e2
  rw [Bool.and_eq_true, Bool.and_eq_true, Bool.and_eq_true] at e2
  obtain ⟨⟨e3, e4⟩, e5, -⟩ := e2
  have e3 := Nat.eq_of_beq_eq_true e3
  have e4 := Nat.le_of_ble_eq_true e4
  have e5 := Nat.eq_of_beq_eq_true e5
  generalize hs : Nat.log2 (Nat.land w (4294967296 - w)) = s at e3 e4
  rw [e3] at e5
  refine ⟨s, by omega, ?_, fun j hj => ?_, ?_⟩
  · rw [nI_neg h0 h, nI_and]
    exact congrArg nI e3
  · have := congrArg (fun x => x.testBit j) (show w &&& (2 ^ s - 1) = 0 from e5)
    try dsimp only at this
    rw [Nat.testBit_and, Nat.testBit_two_pow_sub_one, decide_eq_true hj, Bool.and_true, Nat.zero_testBit] at this
    exact this
  · have := congrArg (fun x => x.testBit s) (show w &&& (4294967296 - w) = 2 ^ s from e3)
    try dsimp only at this
    rw [Nat.testBit_and, Nat.testBit_two_pow_self, Bool.and_eq_true] at this
    exact this.1
theorem low_0 : (nI 0 &&& -(nI 0)) = 0 := by decide
/-- Int32 sets bit by bit -/
theorem i32_ext {x y : Int32} (h : ∀ i, i < 32 → x.toBitVec.getLsbD i = y.toBitVec.getLsbD i) : x = y := Int32.toBitVec_inj.mp (BitVec.eq_of_getLsbD_eq h)
theorem andn_or (x m o : Int32) : x &&& ((m ||| o) ^^^ -1) = (x &&& (m ^^^ -1)) &&& (o ^^^ -1) := by
  refine i32_ext (fun i hi => ?_)
  have h1 : (-1 : Int32).toBitVec.getLsbD i = true := (by decide +kernel : ∀ i : Fin 32, (-1 : Int32).toBitVec.getLsbD i.1 = true) ⟨i, hi⟩
  rw [Int32.toBitVec_and, Int32.toBitVec_and, Int32.toBitVec_and, Int32.toBitVec_xor, Int32.toBitVec_xor, Int32.toBitVec_xor, Int32.toBitVec_or]
  rw [BitVec.getLsbD_and, BitVec.getLsbD_and, BitVec.getLsbD_and, BitVec.getLsbD_xor, BitVec.getLsbD_xor, BitVec.getLsbD_xor, BitVec.getLsbD_or, h1]
  cases x.toBitVec.getLsbD i <;> cases m.toBitVec.getLsbD i <;> cases o.toBitVec.getLsbD i <;> rfl
theorem andn_0 (x : Int32) : x &&& (0 ^^^ -1) = x := by
  refine i32_ext (fun i hi => ?_)
  have h1 : ((0 : Int32) ^^^ -1).toBitVec.getLsbD i = true := (by decide +kernel : ∀ i : Fin 32, ((0 : Int32) ^^^ -1).toBitVec.getLsbD i.1 = true) ⟨i, hi⟩
  rw [Int32.toBitVec_and, BitVec.getLsbD_and, h1, Bool.and_true]
theorem nI_xor (a b : Nat) : nI a ^^^ nI b = nI (a ^^^ b) := by
  apply Int32.toBitVec_inj.mp
  rw [Int32.toBitVec_xor]
  show BitVec.ofNat 32 a ^^^ BitVec.ofNat 32 b = BitVec.ofNat 32 (a ^^^ b)
  exact BitVec.ofNat_xor.symm
/-- a bit taken out: none left just where it was all -/
theorem andn_pow {w s : Nat} (h : w < 65536) (hs : s < 16) (hb : w.testBit s = true) : ∃ k, k < 65536 ∧ nI w &&& (nI (2 ^ s) ^^^ -1) = nI k ∧ (k = 0 ↔ w = 2 ^ s) := by
  have e1 : (-1 : Int32) = nI 4294967295 := by decide
  have hw : ∀ i, (w &&& (2 ^ s ^^^ 4294967295)).testBit i = (w.testBit i && !(decide (s = i))) := fun i => by
    rw [Nat.testBit_and, Nat.testBit_xor, Nat.testBit_two_pow]
    rcases Nat.lt_or_ge i 32 with hi | hi
    · rw [(by decide +kernel : ∀ i : Fin 32, Nat.testBit 4294967295 i.1 = true) ⟨i, hi⟩, Bool.xor_true]
    · have h16 : 2 ^ 16 ≤ 2 ^ i := Nat.pow_le_pow_right (by decide) (by omega)
      rw [Nat.testBit_lt_two_pow (Nat.lt_of_lt_of_le h h16), Bool.false_and, Bool.false_and]
  refine ⟨w &&& (2 ^ s ^^^ 4294967295), Nat.lt_of_le_of_lt Nat.and_le_left h, by rw [e1, nI_xor, nI_and], fun z => Nat.eq_of_testBit_eq (fun i => ?_), fun z => Nat.eq_of_testBit_eq (fun i => ?_)⟩
  · have := hw i
    rw [z, Nat.zero_testBit] at this
    rw [Nat.testBit_two_pow]
    by_cases e : s = i
    · rw [decide_eq_true e, ← e]; exact hb
    · rw [decide_eq_false e] at this ⊢
      rw [Bool.not_false, Bool.and_true] at this
      exact this.symm
  · rw [hw, z, Nat.testBit_two_pow, Nat.zero_testBit]
    cases decide (s = i) <;> rfl
