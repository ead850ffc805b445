/-! the class's table of most pairs -/
def prZ (Z : Zs) (i j : Nat) : Prop := lfN Z i &&& lfN Z j = 0
theorem prZ_s (Z : Zs) (i j : Nat) (h : prZ Z i j) : prZ Z j i := by
  unfold prZ at h ⊢
  rw [Nat.and_comm]; exact h
theorem pr_i {Z : Zs} (I : ZI Z) (i j : Nat) : nI (lfN Z i) &&& nI (lfN Z j) = 0 ↔ prZ Z i j := by
  have h := (lfN_e I i).1
  have hl : lfN Z i &&& lfN Z j ≤ lfN Z i := Nat.and_le_left
  rw [nI_and]
  exact nI_eq (b := 0) (by omega) (by decide)
theorem top_bit {s k : Nat} (h1 : 2 ^ k ≤ s) (h2 : s < 2 ^ (k + 1)) : s.testBit k = true := by
  have p : 2 ^ (k + 1) = 2 ^ k * 2 := Nat.pow_succ 2 k
  have e : s / 2 ^ k = 1 := Nat.div_eq_of_lt_le (by omega) (by omega)
  rw [Nat.testBit_eq_decide_div_mod_eq, e]; rfl
theorem rm_top {s k : Nat} (hs : s < 65536) (h2 : s < 2 ^ (k + 1)) : rmb s k < 2 ^ k := by
  refine Nat.lt_pow_two_of_testBit _ (fun i hi => ?_)
  rw [rmb_t hs]
  by_cases e : k = i
  · rw [decide_eq_true e]; exact Bool.and_false _
  · have : 2 ^ (k + 1) ≤ 2 ^ i := Nat.pow_le_pow_right (by decide) (by omega)
    rw [Nat.testBit_lt_two_pow (by omega)]; rfl
theorem p12 {k : Nat} (h : k ≤ 12) : 2 ^ k ≤ 4096 := Nat.pow_le_pow_right (n := 2) (by decide) h
/-- the table up to N: each number is the most pairs, at most b -/
def TB (Z : Zs) (t n : Nat) (fs : Nat → Nat) (N b : Nat) (S : Mem) : Prop := ∀ s, s < N → ∃ v, rdI S (t + 3) s = nI v ∧ IsM (prZ Z) (kP fs n s) v ∧ v ≤ b
theorem maxI_n {a b : Nat} (ha : a < 2 ^ 31) (hb : b < 2 ^ 31) : maxI (nI a) (nI b) = nI (max a b) := by
  unfold maxI
  by_cases h : a < b
  · rw [if_pos ((nI_ltI ha hb).mpr h), Nat.max_eq_right (by omega)]
  · rw [if_neg (fun z => h ((nI_ltI ha hb).mp z)), Nat.max_eq_left (by omega)]
theorem mll_c {S : Mem} {t n : Nat} {fs : Nat → Nat} {Z : Zs} (I : ZI Z) (h : TF Z t 12 n fs S) {last s v0 : Nat} (hl : last < n) (hs : s < 2 ^ (last + 1)) (hT : TB Z t n fs (2 ^ last) last S) (h0 : v0 ≤ last) (d : Nat) : ∀ i, i ≤ last → ∃ b q, ev (d + 1) 49 19 [vR 2 t, vI (nI s), vI (nI last), vI (nI (rmb s last)), vI (nI v0), vI 0] [] S = ev (d + 1) 49 19 [vR 2 t, q, vI (nI last), vI (nI (rmb s last)), vI (nI b), vI (nI i)] [] S ∧ b ≤ last + 1 ∧ v0 ≤ b ∧ (∀ j, j < i → (rmb s last).testBit j = true → prZ Z (fs last) (fs j) → 1 + mxN (prZ Z) (sm (sm (kP fs n s) (fs last)) (fs j)) ≤ b) ∧ (b = v0 ∨ ∃ j, j < i ∧ (rmb s last).testBit j = true ∧ prZ Z (fs last) (fs j) ∧ b = 1 + mxN (prZ Z) (sm (sm (kP fs n s) (fs last)) (fs j))) := by
  obtain ⟨h1, h2, h3, h4, h5⟩ := h
  have inj := TF_inj (⟨h1, h2, h3, h4, h5⟩ : TF Z t 12 n fs S)
  have hp := p12 (k := last + 1) (by omega)
  have hs6 : s < 65536 := by omega
  have hr := rm_top hs6 hs
  have hr6 : rmb s last < 65536 := by have := rmb_le s last; omega
  intro i
  induction i with
  | zero => intro _; exact ⟨v0, vI (nI s), rfl, by omega, Nat.le_refl _, fun j hj => absurd hj (Nat.not_lt_zero _), Or.inl rfl⟩
  | succ i ih =>
    intro hi
    obtain ⟨b, q, e, b1, b2, b3, b4⟩ := ih (by omega)
    have il : i < n := by omega
    have t1 := bit_1 (b := rmb s last) (k := i) (by omega) (by omega)
    have kb : ∀ {P : Prop}, (¬ ((rmb s last).testBit i = true ∧ prZ Z (fs last) (fs i))) → P = P → b ≤ last + 1 ∧ v0 ≤ b ∧ (∀ j, j < i + 1 → (rmb s last).testBit j = true → prZ Z (fs last) (fs j) → 1 + mxN (prZ Z) (sm (sm (kP fs n s) (fs last)) (fs j)) ≤ b) ∧ (b = v0 ∨ ∃ j, j < i + 1 ∧ (rmb s last).testBit j = true ∧ prZ Z (fs last) (fs j) ∧ b = 1 + mxN (prZ Z) (sm (sm (kP fs n s) (fs last)) (fs j))) := fun hn _ => by
      refine ⟨b1, b2, fun j hj hb hp => ?_, ?_⟩
      · by_cases z : j = i
        · subst z; exact absurd ⟨hb, hp⟩ hn
        · exact b3 j (by omega) hb hp
      · rcases b4 with z | ⟨j, hj, z⟩
        · exact Or.inl z
        · exact Or.inr ⟨j, by omega, z⟩
    rw [e, B_X2_mostWithLast_19, if_neg (show ¬ nI last ≤ nI i from nI_ge (by omega) (by omega)), nI_1]
    cases g : (rmb s last).testBit i
    · rw [g] at t1
      rw [if_neg (of_decide_eq_false t1)]
      exact ⟨b, vU, rfl, kb (P := True) (fun z => by rw [g] at z; cases z.1) rfl⟩
    · rw [g] at t1
      rw [if_pos (of_decide_eq_true t1), inb_t (by omega) (by decide), gd_t, inb_t (by omega) (by decide), gd_t, ix_nI (by omega), ix_nI (by omega), (h3 i il).2.1, (h3 last hl).2.1, rmb_e (by omega)]
      by_cases hpr : prZ Z (fs i) (fs last)
      · have hlt : rmb (rmb s last) i < 2 ^ last := Nat.lt_of_le_of_lt (rmb_le _ _) hr
        obtain ⟨w, ew, hw, wl⟩ := hT _ hlt
        have eP : kP fs n (rmb (rmb s last) i) = sm (sm (kP fs n s) (fs last)) (fs i) := by rw [kP_rm hr6 il inj, kP_rm hs6 hl inj]
        rw [eP] at hw
        have em := mxN_e hw
        have m1 : (1 : Int32) + nI w = nI (1 + w) := nI_add 1 w
        rw [if_pos ((pr_i I _ _).mpr hpr), inb_t (by omega) (by decide), gd_t, ix_nI (by omega), ew, m1, maxI_n (by omega) (by omega)]
        refine ⟨max b (1 + w), vU, rfl, by omega, by omega, fun j hj hb hp => ?_, ?_⟩
        · by_cases z : j = i
          · subst z; rw [em]; omega
          · have := b3 j (by omega) hb hp; omega
        · rcases Nat.le_total (1 + w) b with z | z
          · rw [Nat.max_eq_left z]
            rcases b4 with y | ⟨j, hj, y⟩
            · exact Or.inl y
            · exact Or.inr ⟨j, by omega, y⟩
          · rw [Nat.max_eq_right z]
            exact Or.inr ⟨i, by omega, g, prZ_s Z _ _ hpr, by rw [em]⟩
      · rw [if_neg (mt (pr_i I _ _).mp hpr)]
        exact ⟨b, vU, rfl, kb (P := True) (fun z => hpr (prZ_s Z _ _ z.2)) rfl⟩
theorem ml_c {S : Mem} {t n : Nat} {fs : Nat → Nat} {Z : Zs} (I : ZI Z) (h : TF Z t 12 n fs S) {last s : Nat} (hl : last < n) (hs1 : 2 ^ last ≤ s) (hs : s < 2 ^ (last + 1)) (hT : TB Z t n fs (2 ^ last) last S) (d : Nat) : ∃ v, cal (d + 1) 49 [vR 2 t, vI (nI s), vI (nI last)] S = some (some (vI (nI v)), S) ∧ IsM (prZ Z) (kP fs n s) v ∧ v ≤ last + 1 := by
  have inj := TF_inj h
  have h1 := h.1
  have hp := p12 (k := last + 1) (by omega)
  have hs6 : s < 65536 := by omega
  have hr := rm_top hs6 hs
  have hr6 : rmb s last < 65536 := by have := rmb_le s last; omega
  have tb := top_bit hs1 hs
  obtain ⟨v0, e0, hv0, l0⟩ := hT _ hr
  have eP : kP fs n (rmb s last) = sm (kP fs n s) (fs last) := kP_rm hs6 hl inj
  rw [eP] at hv0
  obtain ⟨b, q, e, b1, b2, b3, b4⟩ := mll_c I h hl hs hT l0 d last (Nat.le_refl _)
  refine ⟨b, ?_, ?_, b1⟩
  · rw [B_X2_mostWithLast, rmb_e (by omega), inb_t (by omega) (by decide), gd_t, ix_nI (by omega), e0, e, B_X2_mostWithLast_19, if_pos (Int32.le_refl _)]
  · have kb : ∀ j, (rmb s last).testBit j = (s.testBit j && !(decide (last = j))) := fun j => rmb_t hs6 last j
    have hi0 : kP fs n s (fs last) := ⟨last, hl, tb, rfl⟩
    have to : ∀ f, kP fs n s f → ¬ f = fs last → ∃ j, j < last ∧ (rmb s last).testBit j = true ∧ fs j = f := fun f hf hn => by
      obtain ⟨k, hk, hb, e⟩ := hf
      have kn : ¬ last = k := fun z => hn (by rw [← e, z])
      have kl : k < last + 1 := by
        rcases Nat.lt_or_ge k (last + 1) with z | z
        · exact z
        · have : 2 ^ (last + 1) ≤ 2 ^ k := Nat.pow_le_pow_right (by decide) z
          rw [Nat.testBit_lt_two_pow (by omega)] at hb; cases hb
      exact ⟨k, by omega, by rw [kb, hb, decide_eq_false kn]; rfl, e⟩
    refine IsM_step (prZ_s Z) (T := fun f => mxN (prZ Z) (sm (sm (kP fs n s) (fs last)) f)) hi0 hv0 (fun f hf hn hp => ?_) b2 (fun f hf hn hp => ?_) ?_
    · obtain ⟨j, hj, hb, e⟩ := to f hf hn
      obtain ⟨w, ew, hw, wl⟩ := hT (rmb (rmb s last) j) (Nat.lt_of_le_of_lt (rmb_le _ _) hr)
      rw [kP_rm hr6 (by omega) inj, eP, e] at hw
      try dsimp only
      rw [mxN_e hw]; exact hw
    · obtain ⟨j, hj, hb, e⟩ := to f hf hn
      have := b3 j hj hb (by rw [e]; exact hp)
      rw [e] at this; exact this
    · rcases b4 with z | ⟨j, hj, hb, hp, z⟩
      · exact Or.inl z
      · have hb2 := hb
        rw [kb, Bool.and_eq_true] at hb2
        exact Or.inr ⟨fs j, ⟨j, by omega, hb2.1, rfl⟩, fun y => by have := inj j last (by omega) hl y; omega, hp, z⟩
