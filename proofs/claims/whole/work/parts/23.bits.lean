/-! how many bits: both ways of counting, below 65536 -/
theorem nI_and (a b : Nat) : nI a &&& nI b = nI (a &&& b) := by
  apply Int32.toBitVec_inj.mp
  rw [Int32.toBitVec_and]
  show BitVec.ofNat 32 a &&& BitVec.ofNat 32 b = BitVec.ofNat 32 (a &&& b)
  exact BitVec.ofNat_and.symm
theorem nI_or (a b : Nat) : nI a ||| nI b = nI (a ||| b) := by
  apply Int32.toBitVec_inj.mp
  rw [Int32.toBitVec_or]
  show BitVec.ofNat 32 a ||| BitVec.ofNat 32 b = BitVec.ofNat 32 (a ||| b)
  exact BitVec.ofNat_or.symm
def popF : Nat → Nat → Nat
  | 0, _ => 0
  | n + 1, k => cond (Nat.beq k 0) 0 (popF n (Nat.land k (k - 1)) + 1)
def pop (k : Nat) : Nat := popF 17 k
def bitcN (k : Nat) : Nat :=
  let a := k - Nat.land (k / 2) 1431655765
  let b := Nat.land a 858993459 + Nat.land (a / 4) 858993459
  let c := Nat.land (b + b / 16) 252645135
  let e := c + c / 256
  Nat.land (e + e / 65536) 63
def chk (k : Nat) : Bool := and (Nat.beq (bitcN k) (popF 17 k)) (Nat.ble (popF 17 k) 16)
def chkR : Nat → Nat → Bool
  | 0, _ => true
  | n + 1, b => and (chk (b + n)) (chkR n b)
def chkQ : Nat → Bool
  | 0 => true
  | n + 1 => and (chkR 256 (n * 256)) (chkQ n)
theorem chkQ_t : chkQ 256 = true := by decide +kernel
theorem chkR_at : ∀ n b, chkR n b = true → ∀ i, i < n → chk (b + i) = true
  | 0, _, _, i, h => by omega
  | n + 1, b, h, i, hi => by
    unfold chkR at h
    rw [Bool.and_eq_true] at h
    rcases Nat.lt_or_ge i n with z | z
    · exact chkR_at n b h.2 i z
    · rw [show i = n by omega]; exact h.1
theorem chkQ_at : ∀ n, chkQ n = true → ∀ q, q < n → chkR 256 (q * 256) = true
  | 0, _, i, h => by omega
  | n + 1, h, i, hi => by
    unfold chkQ at h
    rw [Bool.and_eq_true] at h
    rcases Nat.lt_or_ge i n with z | z
    · exact chkQ_at n h.2 i z
    · rw [show i = n by omega]; exact h.1
theorem chk_at {k : Nat} (h : k < 65536) : chk k = true := by
  have e := chkR_at 256 _ (chkQ_at 256 chkQ_t (k / 256) (by omega)) (k % 256) (Nat.mod_lt _ (by decide))
  rwa [show k / 256 * 256 + k % 256 = k by omega] at e
theorem bitcN_pop {k : Nat} (h : k < 65536) : bitcN k = pop k := by
  have e := chk_at h
  unfold chk at e
  rw [Bool.and_eq_true] at e
  exact Nat.eq_of_beq_eq_true e.1
theorem pop_le {k : Nat} (h : k < 65536) : pop k ≤ 16 := by
  have e := chk_at h
  unfold chk at e
  rw [Bool.and_eq_true] at e
  exact Nat.le_of_ble_eq_true e.2
