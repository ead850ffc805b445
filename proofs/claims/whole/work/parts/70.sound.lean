/-! the longest run, and whether a state is sound -/
def rnL (k : Nat) : Nat → Nat
  | 0 => 0
  | s + 1 => if k.testBit s = true then rnL k s + 1 else 0
theorem rnL_s (k s : Nat) : rnL k (s + 1) = if k.testBit s = true then rnL k s + 1 else 0 := rfl
def mxR (k : Nat) : Nat → Nat
  | 0 => 0
  | s + 1 => if mxR k s < rnL k (s + 1) then rnL k (s + 1) else mxR k s
theorem mxR_s (k s : Nat) : mxR k (s + 1) = if mxR k s < rnL k (s + 1) then rnL k (s + 1) else mxR k s := rfl
def rdL (k : Nat) : Nat → Nat
  | 0 => k
  | j + 1 => rdL k j &&& (rdL k j * 2)
theorem rdL_s (k j : Nat) : rdL k (j + 1) = rdL k j &&& (rdL k j * 2) := rfl
theorem rnL_le (k : Nat) : ∀ s, rnL k s ≤ s
  | 0 => Nat.le_refl 0
  | s + 1 => by
    have := rnL_le k s
    rw [rnL_s]
    cases k.testBit s
    · rw [if_neg Bool.false_ne_true]; omega
    · rw [if_pos rfl]; omega
theorem mxR_le (k : Nat) : ∀ s, mxR k s ≤ s
  | 0 => Nat.le_refl 0
  | s + 1 => by
    have := mxR_le k s
    have := rnL_le k (s + 1)
    rw [mxR_s]
    by_cases z : mxR k s < rnL k (s + 1)
    · rw [if_pos z]; omega
    · rw [if_neg z]; omega
theorem mxR_ge (k : Nat) : ∀ n s, s ≤ n → rnL k s ≤ mxR k n
  | 0, s, h => by
    have : s = 0 := by omega
    subst this; exact Nat.le_refl 0
  | n + 1, s, h => by
    rw [mxR_s]
    by_cases e : s = n + 1
    · subst e
      by_cases z : mxR k n < rnL k (n + 1)
      · rw [if_pos z]; exact Nat.le_refl _
      · rw [if_neg z]; omega
    · have := mxR_ge k n s (by omega)
      by_cases z : mxR k n < rnL k (n + 1)
      · rw [if_pos z]; omega
      · rw [if_neg z]; omega
theorem mxR_at (k : Nat) : ∀ n, ∃ s, s ≤ n ∧ mxR k n = rnL k s
  | 0 => ⟨0, Nat.le_refl 0, rfl⟩
  | n + 1 => by
    rw [mxR_s]
    by_cases z : mxR k n < rnL k (n + 1)
    · rw [if_pos z]; exact ⟨n + 1, Nat.le_refl _, rfl⟩
    · rw [if_neg z]
      obtain ⟨s, hs, e⟩ := mxR_at k n
      exact ⟨s, by omega, e⟩
theorem t2 (k s : Nat) : (k * 2).testBit s = (decide (1 ≤ s) && k.testBit (s - 1)) := by
  have := Nat.testBit_mul_two_pow k s 1
  rw [Nat.pow_one] at this
  exact this
theorem rdL_t (k : Nat) : ∀ j s, (rdL k j).testBit s = decide (j < rnL k (s + 1))
  | 0, s => by
    show k.testBit s = _
    rw [rnL_s]
    cases k.testBit s
    · rw [if_neg Bool.false_ne_true]; rfl
    · rw [if_pos rfl, decide_eq_true (by omega)]
  | j + 1, s => by
    rw [rdL_s, Nat.testBit_and, t2, rdL_t k j s, rdL_t k j (s - 1), rnL_s]
    cases k.testBit s
    · rw [if_neg Bool.false_ne_true]; rfl
    · rw [if_pos rfl]
      cases s with
      | zero =>
        show (decide (j < rnL k 0 + 1) && (false && _)) = decide (j + 1 < rnL k 0 + 1)
        rw [Bool.false_and, Bool.and_false, decide_eq_false]
        show ¬ j + 1 < 0 + 1
        omega
      | succ s =>
        rw [decide_eq_true (show 1 ≤ s + 1 by omega), Bool.true_and, show s + 1 - 1 + 1 = s + 1 by omega]
        by_cases z : j < rnL k (s + 1)
        · rw [decide_eq_true z, decide_eq_true (by omega), decide_eq_true (by omega)]; rfl
        · rw [decide_eq_false z, Bool.and_false, decide_eq_false (by omega)]
theorem rdL_lt {k : Nat} (hk : k < 65536) : ∀ j, rdL k j < 65536
  | 0 => hk
  | j + 1 => Nat.lt_of_le_of_lt Nat.and_le_left (rdL_lt hk j)
theorem rnL_16 {k : Nat} (hk : k < 65536) {s : Nat} (h : 16 ≤ s) : rnL k (s + 1) = 0 := by
  have : k.testBit s = false := Nat.testBit_lt_two_pow (Nat.lt_of_lt_of_le hk (Nat.pow_le_pow_right (by decide : 0 < 2) (show 16 ≤ s from h)))
  rw [rnL_s, this, if_neg Bool.false_ne_true]
theorem rdL_0 {k : Nat} (hk : k < 65536) : rdL k (mxR k 16) = 0 := by
  refine Nat.eq_of_testBit_eq (fun s => ?_)
  rw [rdL_t, Nat.zero_testBit]
  refine decide_eq_false ?_
  by_cases h : 16 ≤ s
  · rw [rnL_16 hk h]; omega
  · have := mxR_ge k 16 (s + 1) (by omega)
    omega
theorem rdL_n {k j : Nat} (h : j < mxR k 16) : ¬ rdL k j = 0 := fun e => by
  obtain ⟨s, hs, e2⟩ := mxR_at k 16
  cases s with
  | zero => rw [e2] at h; exact absurd h (Nat.not_lt_zero j)
  | succ s =>
    have := rdL_t k j s
    rw [e, Nat.zero_testBit, decide_eq_true (by omega)] at this
    cases this
theorem shlA {k : Nat} (hk : k < 65536) : shlI (nI k) 1 = nI (k * 2) := by
  have e : shlI (nI k) 1 = nI k * 2 := by
    have := (by decide : ((1 : Int32) &&& 31) = 1)
    unfold shlI
    rw [this]
    apply Int32.toBitVec_inj.mp
    rw [Int32.toBitVec_shiftLeft, Int32.toBitVec_mul, show ((1 : Int32).toBitVec.smod 32) = 1#32 by decide]
    apply BitVec.eq_of_toNat_eq
    rw [BitVec.toNat_mul, BitVec.shiftLeft_eq', BitVec.toNat_shiftLeft, Nat.shiftLeft_eq]
    rfl
  rw [e]
  exact pk_mul k 2
def loZ (Z : Zs) (a : Int32) : Int32 := if fOpen (zA Z 1) a = true then nI (mxR (zA Z 2 (ix a)).toBitVec.toNat 16) else -1
theorem tn_nI {k : Nat} (h : k < 65536) : (nI k).toBitVec.toNat = k := by
  show (BitVec.ofNat 32 k).toNat = k
  rw [BitVec.toNat_ofNat]
  omega
theorem lo_c {S : Mem} {x : Nat} {Z : Zs} (h : ClR S x Z) (I : ZI Z) (a : Int32) (d : Nat) : OkC x S (cal (d + 9) 133 [vR 7 x, vI a] S) (loZ Z a) Z := by
  rw [B_X7_longest, kc_open (cA h), bI_s, ite_b0]
  unfold loZ
  cases ha : fOpen (zA Z 1) a
  · rw [if_pos rfl, if_neg Bool.false_ne_true]; exact OkC_0 h
  · obtain ⟨p, f, hp, hf, rfl, ef⟩ := fOpen_ex (iF (zAI I)) ha
    obtain ⟨k, hk, ek⟩ := iL (zAI I) p hp
    have lp_ : ∀ n, n ≤ 16 → ev (d + 9) 133 23 [vR 7 x, vI (nI p), vI 0, vI 0, vI 0] [] S = ev (d + 9) 133 23 [vR 7 x, vI (nI p), vI (nI (mxR k n)), vI (nI (rnL k n)), vI (nI n)] [] S := by
      intro n
      induction n with
      | zero => intro _; rfl
      | succ n ih =>
        intro hn
        have h1 := rnL_le k n
        have h2 := rnL_le k (n + 1)
        have h3 := mxR_le k n
        have hm : maxI (nI (mxR k n)) (nI (rnL k (n + 1))) = nI (mxR k (n + 1)) := by
          rw [mxR_s]
          unfold maxI
          by_cases z : mxR k n < rnL k (n + 1)
          · rw [if_pos (nI_lt z (by omega)), if_pos z]
          · rw [if_neg (nI_nlt (by omega) (by omega)), if_neg z]
        have hb := bit_1 (b := k) (k := n) (by omega) (by omega)
        rw [ih (by omega), B_X7_longest_23, if_neg (n16 (by omega)), i12 hp, gd_t, x12 hp, c2 (cA h) p hp, ek, nI_1, nI_1]
        cases hc : k.testBit n
        · have e0 : rnL k (n + 1) = 0 := by rw [rnL_s, hc, if_neg Bool.false_ne_true]
          rw [hc] at hb
          rw [if_neg (of_decide_eq_false hb)]
          rw [e0] at hm
          rw [e0, ← hm]; rfl
        · have e0 : rnL k (n + 1) = rnL k n + 1 := by rw [rnL_s, hc, if_pos rfl]
          rw [hc] at hb
          rw [if_pos (of_decide_eq_true hb), ← e0, hm]
    rw [if_neg (by decide), lp_ 16 (Nat.le_refl _), B_X7_longest_23, if_pos y16, if_pos rfl, x12 hp, ek, tn_nI hk]
    exact OkC_0 h
theorem lo_m {S : Mem} {r : Nat} {Z : Zs} (h : MoR S r Z) (I : ZI Z) (a : Int32) (d : Nat) : OkM r S (cal (d + 9) 303 [vR 8 r, vI a] S) (loZ Z a) Z := by
  rw [B_X8_longest, km_open (mA h), bI_s, ite_b0]
  unfold loZ
  cases ha : fOpen (zA Z 1) a
  · rw [if_pos rfl, if_neg Bool.false_ne_true]; exact OkM_0 h
  · obtain ⟨p, f, hp, hf, rfl, ef⟩ := fOpen_ex (iF (zAI I)) ha
    obtain ⟨k, hk, ek⟩ := iL (zAI I) p hp
    have r2 : rdI S (r + 1) (23 + p) = zA Z 2 p := m2 (mA h) p hp
    have lp_ : ∀ n, n ≤ mxR k 16 → ∃ u0 u1, ev (d + 9) 303 22 [vR 8 r, vI (nI p), vI 0, vI (nI k)] [] S = ev (d + 9) 303 22 [u0, u1, vI (nI n), vI (nI (rdL k n))] [] S := by
      intro n
      induction n with
      | zero => intro _; exact ⟨vR 8 r, vI (nI p), rfl⟩
      | succ n ih =>
        intro hn
        obtain ⟨u0, u1, e⟩ := ih (by omega)
        have hz : ¬ nI (rdL k n) = 0 := fun y => rdL_n (show n < mxR k 16 by omega) ((nI_eq (b := 0) (by have := rdL_lt hk n; omega) (by decide)).mp y)
        refine ⟨vU, vU, ?_⟩
        rw [e, B_X8_longest_22, if_neg hz, shlA (rdL_lt hk n), nI_and, nI_1, rdL_s]
    obtain ⟨u0, u1, e⟩ := lp_ _ (Nat.le_refl _)
    rw [if_neg (by decide), a23, i13 (by omega), gd_t, ix_nI (by omega), r2, ek, e, B_X8_longest_22, rdL_0 hk, if_pos (show nI 0 = 0 from rfl), if_pos rfl, x12 hp, ek, tn_nI hk]
    exact OkM_0 h
/-! sound -/
def snV (f : Nat → Nat) : Nat → Nat
  | 0 => 0
  | n + 1 => snV f n ||| 2 ^ f n
theorem snV_s (f : Nat → Nat) (n : Nat) : snV f (n + 1) = snV f n ||| 2 ^ f n := rfl
theorem snV_t (f : Nat → Nat) (v : Nat) : ∀ n, (snV f n).testBit v = true ↔ ∃ i, i < n ∧ f i = v
  | 0 => by
    constructor
    · intro h
      rw [show snV f 0 = 0 from rfl, Nat.zero_testBit] at h; cases h
    · rintro ⟨i, h, _⟩
      exact absurd h (Nat.not_lt_zero i)
  | n + 1 => by
    rw [snV_s, Nat.testBit_or, Nat.testBit_two_pow, Bool.or_eq_true, snV_t f v n, decide_eq_true_eq]
    constructor
    · rintro (⟨i, hi, e⟩ | e)
      · exact ⟨i, by omega, e⟩
      · exact ⟨n, by omega, e⟩
    · rintro ⟨i, hi, e⟩
      by_cases z : i = n
      · exact Or.inr (by rw [← z]; exact e)
      · exact Or.inl ⟨i, by omega, e⟩
theorem snV_16 {f : Nat → Nat} (h1 : ∀ i, i < 16 → f i < 16) (h2 : ∀ v, v < 16 → ∃ i, i < 16 ∧ f i = v) : snV f 16 = 65535 := by
  refine Nat.eq_of_testBit_eq (fun v => ?_)
  rw [show (65535 : Nat) = 2 ^ 16 - 1 by decide, Nat.testBit_two_pow_sub_one]
  by_cases z : v < 16
  · rw [decide_eq_true z]; exact (snV_t f v 16).mpr (h2 v z)
  · rw [decide_eq_false z]
    cases e : (snV f 16).testBit v
    · rfl
    · obtain ⟨i, hi, e⟩ := (snV_t f v 16).mp e
      have := h1 i hi
      omega
def vcN (A : AS) (p i : Nat) : Nat := (A 3 (p * 16 + i)).toBitVec.toNat
theorem vcN_e {A : AS} (hV : VcOK A) {p : Nat} (hp : p < 12) (ho : ¬ A 1 p = -1) {i : Nat} (hi : i < 16) : vcN A p i < 16 ∧ A 3 (p * 16 + i) = nI (vcN A p i) := by
  obtain ⟨v, hv, e⟩ := (hV p hp ho).1 i hi
  have : vcN A p i = v := by unfold vcN; rw [e, tn_nI (by omega)]
  rw [this]; exact ⟨hv, e⟩
theorem snA {A : AS} (hV : VcOK A) {p : Nat} (hp : p < 12) (ho : ¬ A 1 p = -1) : snV (vcN A p) 16 = 65535 :=
  snV_16 (fun i hi => (vcN_e hV hp ho hi).1) (fun v hv => by
    obtain ⟨i, hi, e⟩ := (hV p hp ho).2 v hv
    exact ⟨i, hi, by unfold vcN; rw [e, tn_nI (by omega)]⟩)
def baP (A : AS) (a b : Nat) : Bool := decide (A 1 a = A 1 b) && !decide (A 2 a &&& A 2 b = 0)
def baA (A : AS) (a : Nat) : Bool := decide (¬ A 1 a = -1) && (ffind (baP A a) (a + 1) (11 - a)).isSome
def soZ (Z : Zs) : Int32 := b2i (ffind (baA (zA Z)) 0 12).isNone
theorem vw_c {S : Mem} {t : Nat} {A : AS} (h : CP S t A) (I : Inv A) {p : Nat} (hp : p < 12) (ho : ¬ A 1 p = -1) (d : Nat) : cal d 45 [vR 1 t, vI (nI p)] S = some (some (vI 1), S) := by
  have lp_ : ∀ n, n ≤ 16 → ev d 45 4 [vR 1 t, vI (nI p), vI 0, vI 0] [] S = ev d 45 4 [vR 1 t, vI (nI p), vI (nI (snV (vcN A p) n)), vI (nI n)] [] S := by
    intro n
    induction n with
    | zero => intro _; rfl
    | succ n ih =>
      intro hn
      obtain ⟨hv, e⟩ := vcN_e (iV I) hp ho (show n < 16 by omega)
      have ea : nI p * 16 + nI n = nI (p * 16 + n) := by
        show nI p * nI 16 + nI n = _
        rw [pk_mul, nI_add]
      rw [ih (by omega), B_X1_isVectorWhole_4, if_neg (n16 (by omega)), ea, inb_t (by omega) (by decide), gd_t, ix_nI (by omega), c3 h _ (by omega), e, shl1 hv, nI_or, nI_1, snV_s]
  rw [B_X1_isVectorWhole, lp_ 16 (Nat.le_refl _), B_X1_isVectorWhole_4, if_pos y16, snA (iV I) hp ho, if_pos (show nI 65535 = 65535 from rfl), gd_p isZ_1]
theorem so_c {S : Mem} {x : Nat} {Z : Zs} (h : ClR S x Z) (I : ZI Z) (d : Nat) : OkC x S (cal (d + 9) 139 [vR 7 x] S) (soZ Z) Z := by
  have hA := cA h
  have inn : ∀ a, a < 12 → ¬ zA Z 1 a = -1 → ev (d + 8) 46 39 [vR 1 (x + 27 + 1), vI (nI a), vI (nI (a + 1))] [] S = if (ffind (baP (zA Z) a) (a + 1) (11 - a)).isSome = true then some (some (vI 0), S) else ev (d + 8) 46 2 [vR 1 (x + 27 + 1), vI (nI (a + 1)), vI 12] [] S := fun a ha ho => by
    have key := loop_find (fun b => ev (d + 8) 46 39 [vR 1 (x + 27 + 1), vI (nI a), vI (nI b)] [] S) (baP (zA Z) a) (fun _ => some (some (vI 0), S)) (11 - a) (a + 1) (fun b h1 h2 => by
      have hb : b < 12 := by omega
      try dsimp only
      rw [B_X1_isSound_39, if_neg (n12 hb), kc_open hA, bI_s, fOpen_nI ha, decide_eq_true ho, if_neg (by decide), i12 ha, gd_t, i12 hb, gd_t, x12 ha, x12 hb, c1 hA a ha, c1 hA b hb, gd_t, gd_t, c2 hA a ha, c2 hA b hb, nI_1]
      unfold baP
      by_cases z : zA Z 1 a = zA Z 1 b
      · rw [if_pos z, decide_eq_true z]
        by_cases y : zA Z 2 a &&& zA Z 2 b = 0
        · rw [if_pos y, decide_eq_true y, if_neg (by decide)]
        · rw [if_neg y, decide_eq_false y, gd_p isZ_0, if_pos (show (true && !false) = true from rfl)]
      · rw [if_neg z, decide_eq_false z, Bool.false_and, if_neg Bool.false_ne_true])
    refine key.trans ?_
    cases ffind (baP (zA Z) a) (a + 1) (11 - a) with
    | some q => rfl
    | none =>
      try dsimp only
      rw [show a + 1 + (11 - a) = 12 by omega, B_X1_isSound_39, if_pos y12, nI_1]; rfl
  have skp : ∀ a, a < 12 → zA Z 1 a = -1 → ∀ n b, b + n = 12 → ev (d + 8) 46 39 [vR 1 (x + 27 + 1), vI (nI a), vI (nI b)] [] S = ev (d + 8) 46 2 [vR 1 (x + 27 + 1), vI (nI (a + 1)), vI 12] [] S := fun a ha ho n => by
    induction n with
    | zero =>
      intro b hb
      have : b = 12 := by omega
      subst this
      rw [B_X1_isSound_39, if_pos y12, nI_1]; rfl
    | succ n ih =>
      intro b hb
      rw [B_X1_isSound_39, if_neg (n12 (by omega)), kc_open hA, bI_s, fOpen_nI ha, decide_eq_false (not_not_intro ho), if_pos (show b2i false = 0 from rfl), nI_1]
      exact ih (b + 1) (by omega)
  obtain ⟨u, key⟩ := loop_findU (fun a (u : AV) => ev (d + 8) 46 2 [vR 1 (x + 27 + 1), vI (nI a), u] [] S) (baA (zA Z)) (fun _ => some (some (vI 0), S)) 12 0 (fun a u h1 h2 => by
    rw [Nat.zero_add] at h2
    refine ⟨vI 12, ?_⟩
    try dsimp only
    rw [B_X1_isSound_2, if_neg (n12 h2), kc_open hA, bI_s, fOpen_nI h2, nI_1]
    unfold baA
    by_cases z : zA Z 1 a = -1
    · rw [decide_eq_false (not_not_intro z), if_pos (show b2i false = 0 from rfl), Bool.false_and, if_neg Bool.false_ne_true]
      exact skp a h2 z (11 - a) (a + 1) (by omega)
    · rw [decide_eq_true z, if_neg (by decide), i12 h2, gd_t, x12 h2, c2 hA a h2, if_neg (iO (zAI I) a h2 z), vw_c hA (zAI I) h2 z, bI_s, if_neg (by decide), Bool.true_and]
      exact inn a h2 z) vU
  have key2 : ev (d + 8) 46 2 [vR 1 (x + 27 + 1), vI 0, vU] [] S = some (some (vI (soZ Z)), S) := by
    refine key.trans ?_
    unfold soZ
    cases ffind (baA (zA Z)) 0 12 with
    | some q => rfl
    | none =>
      try dsimp only
      rw [B_X1_isSound_2, if_pos (show (12 : Int32) ≤ nI (0 + 12) from y12), gd_p isZ_1]; rfl
  have hz : isZ (soZ Z) = true := isZ_b _
  rw [B_X7_sound, B_X1_isSound, key2, bI_s, gd_p hz]
  exact OkC_0 h
theorem so_m {S : Mem} {r : Nat} {Z : Zs} (h : MoR S r Z) (I : ZI Z) (d : Nat) : OkM r S (cal (d + 9) 310 [vR 8 r] S) (soZ Z) Z := by
  have hA := mA h
  have r1 : ∀ p, p < 12 → rdI S (r + 1) (11 + p) = zA Z 1 p := fun p hp => m1 hA p hp
  have r2 : ∀ p, p < 12 → rdI S (r + 1) (23 + p) = zA Z 2 p := fun p hp => m2 hA p hp
  have pg : ∀ a, a < 12 → cal (d + 8) 309 [vR 8 r, vI (nI a)] S = some (some (vI (b2i (!baA (zA Z) a))), S) := fun a ha => by
    rw [B_X8_isPageSound, km_open hA, bI_s, fOpen_nI ha]
    unfold baA
    by_cases z : zA Z 1 a = -1
    · rw [decide_eq_false (not_not_intro z), if_pos (show b2i false = 0 from rfl), Bool.false_and, gd_p isZ_1]; rfl
    · have lp_ : ∀ n, n ≤ 16 → ev (d + 8) 309 14 [vR 8 r, vI (nI a), vI 0, vI 0] [] S = ev (d + 8) 309 14 [vR 8 r, vI (nI a), vI (nI (snV (vcN (zA Z) a) n)), vI (nI n)] [] S := by
        intro n
        induction n with
        | zero => intro _; rfl
        | succ n ih =>
          intro hn
          obtain ⟨hv, e⟩ := vcN_e (iV (zAI I)) ha z (show n < 16 by omega)
          have ea : 35 + 16 * nI a + nI n = nI (35 + (a * 16 + n)) := by
            show nI 35 + nI 16 * nI a + nI n = _
            rw [pk_mul, nI_add, nI_add]
            congr 1; omega
          have r3 : rdI S (r + 1) (35 + (a * 16 + n)) = zA Z 3 (a * 16 + n) := m3 hA a n ha z (by omega)
          rw [ih (by omega), B_X8_isPageSound_14, if_neg (n16 (by omega)), ea, i13 (by omega), gd_t, ix_nI (by omega), r3, e, shl1 hv, nI_or, nI_1, snV_s]
      rw [decide_eq_true z, if_neg (by decide), lp_ 16 (Nat.le_refl _), B_X8_isPageSound_14, if_pos y16, snA (iV (zAI I)) ha z, if_pos (show nI 65535 = 65535 from rfl), a23, i13 (by omega), gd_t, ix_nI (by omega), r2 a ha, if_neg (iO (zAI I) a ha z), Bool.true_and, nI_1]
      obtain ⟨u, key⟩ := loop_findU (fun b (u : AV) => ev (d + 8) 309 70 [vR 8 r, vI (nI a), u, vI (nI b)] [] S) (baP (zA Z) a) (fun _ => some (some (vI 0), S)) (11 - a) (a + 1) (fun b u h1 h2 => by
        have hb : b < 12 := by omega
        refine ⟨vU, ?_⟩
        try dsimp only
        rw [B_X8_isPageSound_70, if_neg (n12 hb), a11, a11, a23, a23, i13 (by omega), gd_t, i13 (by omega), gd_t, ix_nI (by omega), ix_nI (by omega), r1 b hb, r1 a ha, i13 (by omega), gd_t, i13 (by omega), gd_t, ix_nI (by omega), ix_nI (by omega), r2 b hb, r2 a ha, nI_1]
        unfold baP
        by_cases z : zA Z 1 a = zA Z 1 b
        · rw [if_pos z.symm, decide_eq_true z]
          by_cases y : zA Z 2 a &&& zA Z 2 b = 0
          · rw [if_pos y, decide_eq_true y, if_neg (by decide)]
          · rw [if_neg y, decide_eq_false y, gd_p isZ_0, if_pos (show (true && !false) = true from rfl)]
        · rw [if_neg (fun y => z y.symm), decide_eq_false z, Bool.false_and, if_neg Bool.false_ne_true]) (vI (nI 65535))
      refine key.trans ?_
      cases ffind (baP (zA Z) a) (a + 1) (11 - a) with
      | some q => rfl
      | none =>
        try dsimp only
        rw [show a + 1 + (11 - a) = 12 by omega, B_X8_isPageSound_70, if_pos y12, gd_p isZ_1]; rfl
  have key := loop_find (fun a => ev (d + 9) 310 2 [vR 8 r, vI (nI a)] [] S) (baA (zA Z)) (fun _ => some (some (vI 0), S)) 12 0 (fun a h1 h2 => by
    rw [Nat.zero_add] at h2
    try dsimp only
    rw [B_X8_sound_2, if_neg (n12 h2), pg a h2, bI_s, ite_b0, nI_1]
    cases baA (zA Z) a
    · rw [if_neg (by decide), if_neg Bool.false_ne_true]
    · rw [if_pos (show (!true) = false from rfl), if_pos rfl, gd_p isZ_0])
  have key2 : ev (d + 9) 310 2 [vR 8 r, vI 0] [] S = some (some (vI (soZ Z)), S) := by
    refine key.trans ?_
    unfold soZ
    cases ffind (baA (zA Z)) 0 12 with
    | some q => rfl
    | none =>
      try dsimp only
      rw [B_X8_sound_2, if_pos (show (12 : Int32) ≤ nI (0 + 12) from y12), gd_p isZ_1]; rfl
  rw [B_X8_sound, key2]
  exact OkM_0 h
