/-! the class's table filled; most pairs, the class -/
theorem TF_k {Z : Zs} {t a n : Nat} {fs : Nat → Nat} {S S' : Mem} (h : TF Z t a n fs S) (e : ∀ c, t ≤ c → c < t + 3 → rdI S' c = rdI S c) : TF Z t a n fs S' := by
  obtain ⟨h1, h2, h3, h4, h5⟩ := h
  refine ⟨h1, by rw [e t (by omega) (by omega)]; exact h2, fun k hk => ?_, h4, h5⟩
  rw [e (t + 1) (by omega) (by omega), e (t + 2) (by omega) (by omega)]; exact h3 k hk
theorem TB_w {Z : Zs} {t n : Nat} {fs : Nat → Nat} {N b v : Nat} {S : Mem} (h : TB Z t n fs N b S) (hv : IsM (prZ Z) (kP fs n N) v) (hb : v ≤ b) : TB Z t n fs (N + 1) b (wrI S (t + 3) N (nI v)) := fun s hs => by
  by_cases e : s = N
  · subst e; exact ⟨v, by rw [rdI_wrI, if_pos ⟨rfl, rfl⟩], hv, hb⟩
  · obtain ⟨w, e1, e2, e3⟩ := h s (by omega)
    exact ⟨w, by rw [rdI_wrI, if_neg (fun z => e z.2)]; exact e1, e2, e3⟩
theorem TB_o {Z : Zs} {t n : Nat} {fs : Nat → Nat} {N b M : Nat} {S : Mem} (h : TB Z t n fs N b S) (hM : N ≤ M) (v : Int32) : TB Z t n fs N b (wrI S (t + 3) M v) := fun s hs => by
  obtain ⟨w, e1, e2, e3⟩ := h s hs
  exact ⟨w, by rw [rdI_wrI, if_neg (fun z => by omega)]; exact e1, e2, e3⟩
theorem TB_m {Z : Zs} {t n : Nat} {fs : Nat → Nat} {N b b' : Nat} {S : Mem} (h : TB Z t n fs N b S) (hb : b ≤ b') : TB Z t n fs N b' S := fun s hs => by
  obtain ⟨w, e1, e2, e3⟩ := h s hs
  exact ⟨w, e1, e2, by omega⟩
theorem co_i {S : Mem} {t n : Nat} {fs : Nat → Nat} {Z : Zs} (I : ZI Z) (h : TF Z t 12 n fs S) {last : Nat} (hl : last < n) (hT : TB Z t n fs (2 ^ last) last S) (d : Nat) : ∀ m, m ≤ 2 ^ last → ∃ S', ev (d + 2) 47 26 [vR 2 t, vU, vI (nI last), vI (nI (2 ^ last))] [] S = ev (d + 2) 47 26 [vR 2 t, vU, vI (nI last), vI (nI (2 ^ last + m))] [] S' ∧ TF Z t 12 n fs S' ∧ TB Z t n fs (2 ^ last) last S' ∧ TB Z t n fs (2 ^ last + m) (last + 1) S' ∧ FrP t 4 S S' := by
  have h12 := h.1
  have hp := p12 (k := last + 1) (by omega)
  have hp2 : 2 ^ (last + 1) = 2 ^ last * 2 := Nat.pow_succ 2 last
  intro m
  induction m with
  | zero => intro _; exact ⟨S, rfl, h, hT, TB_m hT (by omega), FrP_r⟩
  | succ m ih =>
    intro hm
    obtain ⟨S1, e, f1, b1, b2, g⟩ := ih (by omega)
    obtain ⟨v, ev_, hv, hv2⟩ := ml_c I f1 hl (s := 2 ^ last + m) (by omega) (by omega) b1 d
    have c1 : shlI 1 (nI last + 1) = nI (2 ^ (last + 1)) := by rw [nI_1, shl1 (by omega)]
    rw [e, B_X2_countOf_26, c1, if_neg (nI_ge (by omega) (by omega)), ev_, bI_s, inb_t (by omega) (by decide), gd_t, ix_nI (by omega), nI_1]
    exact ⟨_, rfl, TF_k f1 (fun c c1 c2 => funext fun b => by rw [rdI_wrI, if_neg (by omega)]), TB_o b1 (by omega) _, TB_w b2 hv hv2, FrP_t g (FrP_w (by omega) (by omega))⟩
theorem co_o {S : Mem} {t n : Nat} {fs : Nat → Nat} {Z : Zs} (I : ZI Z) (h : TF Z t 12 n fs S) (hT : TB Z t n fs 1 0 S) (q0 : AV) (d : Nat) : ∀ l, l ≤ n → ∃ q1 q S', ev (d + 2) 47 14 [vR 2 t, q0, vI 0, vU] [] S = ev (d + 2) 47 14 [vR 2 t, q1, vI (nI l), q] [] S' ∧ TF Z t 12 n fs S' ∧ TB Z t n fs (2 ^ l) l S' ∧ FrP t 4 S S' := by
  have h12 := h.1
  intro l
  induction l with
  | zero => intro _; exact ⟨q0, vU, S, rfl, h, hT, FrP_r⟩
  | succ l ih =>
    intro hl
    obtain ⟨q1, q, S1, e, f1, b1, g⟩ := ih (by omega)
    have hp := p12 (k := l + 1) (by omega)
    have hp2 : 2 ^ (l + 1) = 2 ^ l * 2 := Nat.pow_succ 2 l
    obtain ⟨S2, e2, f2, -, b2, g2⟩ := co_i I f1 (last := l) (by omega) b1 d (2 ^ l) (Nat.le_refl _)
    have c1 : shlI 1 (nI l + 1) = nI (2 ^ (l + 1)) := by rw [nI_1, shl1 (by omega)]
    rw [e, B_X2_countOf_14, f1.2.1, if_neg (nI_ge (by omega) (by omega)), shl1 (by omega), e2, B_X2_countOf_26, c1, if_pos (nI_le (by omega) (by omega)), nI_1]
    exact ⟨vU, _, S2, rfl, f2, by rw [hp2, Nat.mul_two]; exact b2, FrP_t g g2⟩
theorem count_c {S : Mem} {t p : Nat} {Z : Zs} (hA : CP S p (zA Z)) (hp : p + 7 ≤ t) (I : ZI Z) (d : Nat) : ∃ S' n fs, cal (d + 2) 47 [vR 2 t, vR 1 p] S = some (none, S') ∧ TF Z t 12 n fs S' ∧ TB Z t n fs (2 ^ n) n S' ∧ FrP t 4 S S' := by
  obtain ⟨S1, n, fs, e, h, f⟩ := tf_c hA hp I d
  have w : TB Z t n fs 1 0 (wrI S1 (t + 3) 0 0) := fun s hs => by
    have : s = 0 := by omega
    subst this
    refine ⟨0, by rw [rdI_wrI, if_pos ⟨rfl, rfl⟩]; rfl, IsM_0 (fun f hf => ?_), Nat.le_refl _⟩
    obtain ⟨k, -, hk, -⟩ := hf
    rw [Nat.zero_testBit] at hk; cases hk
  have h1 : TF Z t 12 n fs (wrI S1 (t + 3) 0 0) := TF_k h (fun c c1 c2 => funext fun b => by rw [rdI_wrI, if_neg (by omega)])
  obtain ⟨q1, q, S2, e2, h2, b2, f2⟩ := co_o I h1 w (vR 1 p) d n (Nat.le_refl _)
  have hn := h.1
  refine ⟨S2, n, fs, ?_, h2, b2, FrP_t (FrP_t ⟨fun c hc => f.1 c (by omega), f.2⟩ (FrP_w (by omega) (by omega))) f2⟩
  rw [B_X2_countOf, e, bV_s, gd_p (show inb 0 4096 = true by decide), show ix 0 = 0 from rfl, e2, B_X2_countOf_14, h2.2.1, if_pos (nI_le (Nat.le_refl _) (by omega))]
def usN (Z : Zs) : Nat := (fUsed (zA Z 1)).toBitVec.toNat
theorem usN_e {Z : Zs} (I : ZI Z) : usN Z < 4096 ∧ fUsed (zA Z 1) = nI (usN Z) ∧ ∀ k, k < 12 → (usN Z).testBit k = usB Z k := by
  obtain ⟨u, hu, eu, hb⟩ := fUsed_ex (iF (zAI I))
  have h3 : 2 ^ 12 = 4096 := by decide
  have : usN Z = u := by unfold usN; rw [eu, tn_nI (by omega)]
  rw [this]; exact ⟨by omega, eu, hb⟩
theorem us_lt {Z : Zs} (I : ZI Z) {f : Nat} (h : (usN Z).testBit f = true) : f < 12 := by
  rcases Nat.lt_or_ge f 12 with z | z
  · exact z
  · have h1 : 2 ^ 12 ≤ 2 ^ f := Nat.pow_le_pow_right (by decide) z
    have h3 : 2 ^ 12 = 4096 := by decide
    rw [Nat.testBit_lt_two_pow (by have := (usN_e I).1; omega)] at h; cases h
theorem kP_all {Z : Zs} (I : ZI Z) {t n : Nat} {fs : Nat → Nat} {S : Mem} (h : TF Z t 12 n fs S) : kP fs n (2 ^ n - 1) = bP (usN Z) := by
  obtain ⟨h1, h2, h3, h4, h5⟩ := h
  have hu := usN_e I
  funext f
  refine propext ⟨fun ⟨k, hk, hb, e⟩ => ?_, fun hf => ?_⟩
  · obtain ⟨-, -, a3, a4⟩ := h3 k hk
    rw [e] at a3 a4
    show (usN Z).testBit f = true
    rw [hu.2.2 f a3]; exact a4
  · have hf : (usN Z).testBit f = true := hf
    have hl := us_lt I hf
    obtain ⟨k, hk, e⟩ := h5 f hl (by rw [← hu.2.2 f hl]; exact hf)
    exact ⟨k, hk, by rw [Nat.testBit_two_pow_sub_one, decide_eq_true hk], e⟩
theorem ClR_P {S S' : Mem} {x t m : Nat} {Z : Zs} (h : ClR S x Z) (f : FrP t m S S') (h1 : x + 469 ≤ t) (h2 : t + m ≤ x + 484) : ClR S' x Z ∧ FrX x S S' := by
  have fx : FrX x S S' := ⟨fun c hc => f.1 c (fun z => hc (Or.inr (Or.inr (Or.inr (Or.inr ⟨by omega, by omega⟩))))), f.2⟩
  refine ⟨?_, fx⟩
  have h' := ClR_up h fx (CP_e (cA h) (fun c c1 c2 => f.1 c (by omega))) (StC_k (cS' h) (fun c c1 c2 => f.1 c (by omega)))
  exact h'
noncomputable def mostN (Z : Zs) : Nat := mxN (prZ Z) (bP (usN Z))
theorem mp_c {S : Mem} {t n : Nat} {fs : Nat → Nat} {Z : Zs} (I : ZI Z) (h : TF Z t 12 n fs S) (hT : TB Z t n fs (2 ^ n) n S) (d : Nat) : cal d 50 [vR 2 t] S = some (some (vI (nI (mostN Z))), S) := by
  have h1 := h.1
  have hp := p12 (k := n) (by omega)
  have hp0 : 0 < 2 ^ n := Nat.two_pow_pos n
  obtain ⟨v, e, hv, hb⟩ := hT (2 ^ n - 1) (by omega)
  rw [kP_all I h] at hv
  have e1 : shlI 1 (rdI S t 0) - 1 = nI (2 ^ n - 1) := by rw [h.2.1, shl1 (by omega), s1_sub hp0]
  rw [B_X2_mostPairs, e1, inb_t (by omega) (by decide), gd_t, ix_nI (by omega), e]
  unfold mostN
  rw [mxN_e hv]
theorem mst_c {S : Mem} {x : Nat} {Z : Zs} (h : ClR S x Z) (I : ZI Z) (d : Nat) : OkC x S (cal (d + 9) 127 [vR 7 x] S) (nI (mostN Z)) Z := by
  obtain ⟨S1, n, fs, e, h1, b1, f1⟩ := count_c (cA h) (t := x + 476) (by omega) I (d + 6)
  obtain ⟨c, fx⟩ := ClR_P h f1 (by omega) (by omega)
  rw [B_X7_most, e, bV_s, mp_c I h1 b1, bI_s]
  exact ⟨S1, rfl, c, fx⟩
