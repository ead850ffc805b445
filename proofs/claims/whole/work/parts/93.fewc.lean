/-! the class's order of frames, and its fewest -/
noncomputable def fewN (Z : Zs) : Nat := @dite _ (∃ v, IsV (prZ Z) (bP (usN Z)) v) (Classical.propDecidable _) (fun h => Classical.choose h) (fun _ => 0)
theorem fewN_e {Z : Zs} {v : Nat} (h : IsV (prZ Z) (bP (usN Z)) v) : fewN Z = v := by
  have hx : ∃ v, IsV (prZ Z) (bP (usN Z)) v := ⟨v, h⟩
  unfold fewN
  rw [dif_pos hx]
  exact IsV_u (Classical.choose_spec hx) h
theorem lf_us {Z : Zs} (I : ZI Z) {f : Nat} (hf : f < 12) : lfN Z f = 0 ↔ usB Z f = false := by
  obtain ⟨k, hk, e, h⟩ := mLive_ex (iL (zAI I)) (iO (zAI I)) hf
  obtain ⟨l1, l2⟩ := lfN_e I f
  rw [mLiveIn_f _ _ (nI_m1 (by omega)), l2] at e
  have : lfN Z f = k := (nI_eq (by omega) (by omega)).mp e
  rw [this]; exact h
def clN (Z : Zs) (l : Nat) : Nat := ctB (fun f => !(decide (lfN Z f &&& l = 0))) 12
theorem clN_le (Z : Zs) (l : Nat) : clN Z l ≤ 12 := ctB_le _ 12
theorem clh_c {S : Mem} {t : Nat} {Z : Zs} (I : ZI Z) (hL : ∀ f, f < 12 → rdI S (t + 1) f = nI (lfN Z f)) (l : Nat) (d : Nat) : cal d 2 [vR 0 t, vI (nI l)] S = some (some (vI (nI (clN Z l))), S) := by
  have lp_ : ∀ a, a ≤ 12 → ev d 2 4 [vR 0 t, vI (nI l), vI 0, vI 0] [] S = ev d 2 4 [vR 0 t, vI (nI l), vI (nI (ctB (fun f => !(decide (lfN Z f &&& l = 0))) a)), vI (nI a)] [] S := by
    intro a
    induction a with
    | zero => intro _; rfl
    | succ a ih =>
      intro ha
      rw [ih (by omega), B_X0_clashesOf_4, if_neg (n12 (by omega)), i12 (by omega), gd_t, x12 (by omega), hL a (by omega), nI_1, nI_1, ctB_s]
      by_cases z : lfN Z a &&& l = 0
      · rw [if_pos ((and_z (lfN_e I a).1).mpr z), decide_eq_true z]; rfl
      · rw [if_neg (mt (and_z (lfN_e I a).1).mp z), decide_eq_false z]; rfl
  rw [B_X0_clashesOf, lp_ 12 (Nat.le_refl _), B_X0_clashesOf_4, if_pos y12]; rfl
def PcB (Z : Zs) (c a f : Nat) : Bool := (decide (f < 12) && usB Z f) && (decide (c < clN Z (lfN Z f)) || (decide (clN Z (lfN Z f) = c) && decide (f < a)))
def Po (Z : Zs) (t n : Nat) (fs : Nat → Nat) (P : Nat → Bool) (S : Mem) : Prop := n = ctB P 12 ∧ rdI S t 0 = nI n ∧ (∀ j, j < n → rdI S (t + 2) j = nI (lfN Z (fs j)) ∧ P (fs j) = true) ∧ (∀ j l, j < n → l < n → fs j = fs l → j = l) ∧ ∀ f, P f = true → ∃ j, j < n ∧ fs j = f
theorem tk_c {S : Mem} {t : Nat} {Z : Zs} (I : ZI Z) (hL : ∀ f, f < 12 → rdI S (t + 1) f = nI (lfN Z f)) {c n : Nat} {fs : Nat → Nat} (hc : 1 ≤ c) (hc2 : c ≤ 12) (h : Po Z t n fs (PcB Z c 0) S) (d : Nat) : ∃ S' n' fs', cal (d + 1) 1 [vR 0 t, vI (nI c)] S = some (none, S') ∧ Po Z t n' fs' (PcB Z c 12) S' ∧ (∀ q, ¬ q = t → ¬ q = t + 2 → rdI S' q = rdI S q) ∧ S'.2 = S.2 := by
  have lp_ : ∀ a, a ≤ 12 → ∃ S' n' fs', ev (d + 1) 1 2 [vR 0 t, vI (nI c), vI 0] [] S = ev (d + 1) 1 2 [vR 0 t, vI (nI c), vI (nI a)] [] S' ∧ Po Z t n' fs' (PcB Z c a) S' ∧ (∀ q, ¬ q = t → ¬ q = t + 2 → rdI S' q = rdI S q) ∧ S'.2 = S.2 := by
    intro a
    induction a with
    | zero => intro _; exact ⟨S, n, fs, rfl, h, fun _ _ _ => rfl, rfl⟩
    | succ a ih =>
      intro ha
      obtain ⟨S1, n1, fs1, e, ⟨p1, p2, p3, p4, p5⟩, f1, g1⟩ := ih (by omega)
      have hL1 : ∀ f, f < 12 → rdI S1 (t + 1) f = nI (lfN Z f) := fun f hf => by rw [f1 (t + 1) (by omega) (by omega)]; exact hL f hf
      have eo : ∀ f, ¬ f = a → PcB Z c (a + 1) f = PcB Z c a f := fun f hf => by
        unfold PcB
        rw [show decide (f < a + 1) = decide (f < a) by
          by_cases z : f < a
          · rw [decide_eq_true z, decide_eq_true (by omega)]
          · rw [decide_eq_false z, decide_eq_false (by omega)]]
      have eq_ : nI (clN Z (lfN Z a)) = nI c ↔ clN Z (lfN Z a) = c := by
        have := clN_le Z (lfN Z a)
        exact nI_eq (by omega) (by omega)
      rw [e, B_X0_takeWith_2, if_neg (n12 (by omega)), i12 (by omega), gd_t, x12 (by omega), hL1 a (by omega), clh_c I hL1, bI_s, nI_1]
      by_cases z : clN Z (lfN Z a) = c
      · have ua : usB Z a = true := by
          cases g : usB Z a
          · have l0 := (lf_us I (f := a) (by omega)).mpr g
            rw [l0] at z
            have : clN Z 0 = 0 := by
              have e0 : ctB (fun f => !(decide (lfN Z f &&& 0 = 0))) 12 = ctB (fun _ => false) 12 := ctB_c 12 (fun i _ => by rw [Nat.and_zero]; rfl)
              unfold clN; rw [e0]; rfl
            omega
          · rfl
        have pa : PcB Z c a a = false := by
          unfold PcB
          rw [decide_eq_false (show ¬ c < clN Z (lfN Z a) by omega), decide_eq_false (show ¬ a < a by omega), Bool.and_false, Bool.or_false, Bool.and_false]
        have pa1 : PcB Z c (a + 1) a = true := by
          unfold PcB
          rw [ua, decide_eq_true (show a < 12 by omega), decide_eq_true z, decide_eq_true (show a < a + 1 by omega)]; simp
        have hn := ctB_lt pa (n := 12) (by omega)
        have hw := ctB_w pa pa1 12 (by omega) (fun i _ hi => (eo i hi).symm)
        have w0 : rdI (wrI S1 (t + 2) n1 (nI (lfN Z a))) t 0 = nI n1 := by rw [rdI_wrI, if_neg (by omega)]; exact p2
        rw [if_pos (eq_.mpr z), p2, if_neg (n12 (by omega)), gd_t, inb_t (by omega) (by decide), gd_t, ix_nI (by omega), hL1 a (by omega), w0, nI_1]
        refine ⟨_, n1 + 1, fun j => if j = n1 then a else fs1 j, rfl, ⟨by omega, by rw [rdI_wrI, if_pos ⟨rfl, rfl⟩], fun j hj => ?_, fun j l hj hl he => ?_, fun f hf => ?_⟩, fun q q1 q2 => funext fun b => ?_, g1⟩
        · try dsimp only
          by_cases y : j = n1
          · rw [if_pos y, rdI_wrI, if_neg (by omega), rdI_wrI, if_pos ⟨rfl, y⟩]; exact ⟨rfl, pa1⟩
          · obtain ⟨r1, r2⟩ := p3 j (by omega)
            rw [if_neg y, rdI_wrI, if_neg (by omega), rdI_wrI, if_neg (by omega)]
            refine ⟨r1, ?_⟩
            by_cases x : fs1 j = a
            · rw [x]; exact pa1
            · rw [eo _ x]; exact r2
        · try dsimp only at he
          have nf : ∀ k, k < n1 → ¬ fs1 k = a := fun k hk ek => by
            have := (p3 k hk).2
            rw [ek, pa] at this; cases this
          by_cases y : j = n1
          · by_cases x : l = n1
            · omega
            · rw [if_pos y, if_neg x] at he
              exact absurd he.symm (nf l (by omega))
          · by_cases x : l = n1
            · rw [if_neg y, if_pos x] at he
              exact absurd he (nf j (by omega))
            · rw [if_neg y, if_neg x] at he
              exact p4 j l (by omega) (by omega) he
        · by_cases x : f = a
          · exact ⟨n1, by omega, by try dsimp only
                                    rw [if_pos rfl, x]⟩
          · rw [eo f x] at hf
            obtain ⟨j, hj, ej⟩ := p5 f hf
            exact ⟨j, by omega, by try dsimp only
                                   rw [if_neg (by omega)]; exact ej⟩
        · rw [rdI_wrI, if_neg (by omega), rdI_wrI, if_neg (by omega), f1 q q1 q2]
      · rw [if_neg (mt eq_.mp z)]
        have ef : PcB Z c (a + 1) = PcB Z c a := funext fun f => by
          by_cases x : f = a
          · unfold PcB; rw [x, decide_eq_false z, Bool.false_and, Bool.false_and]
          · exact eo f x
        rw [ef]
        exact ⟨S1, n1, fs1, rfl, ⟨p1, p2, p3, p4, p5⟩, f1, g1⟩
  obtain ⟨S', n', fs', e, p, f, g⟩ := lp_ 12 (Nat.le_refl _)
  exact ⟨S', n', fs', by rw [B_X0_takeWith, e, B_X0_takeWith_2, if_pos y12], p, f, g⟩
theorem Pc_n (Z : Zs) {c : Nat} (hc : 1 ≤ c) : PcB Z c 12 = PcB Z (c - 1) 0 := funext fun f => by
  unfold PcB
  by_cases hf : f < 12
  · rw [decide_eq_true hf, decide_eq_false (show ¬ f < 0 by omega), Bool.and_false, Bool.or_false, Bool.and_true]
    by_cases z : c < clN Z (lfN Z f)
    · rw [decide_eq_true z, decide_eq_true (show c - 1 < clN Z (lfN Z f) by omega), Bool.true_or]
    · by_cases y : clN Z (lfN Z f) = c
      · rw [decide_eq_true y, decide_eq_true (show c - 1 < clN Z (lfN Z f) by omega), Bool.or_true]
      · rw [decide_eq_false y, decide_eq_false z, decide_eq_false (show ¬ c - 1 < clN Z (lfN Z f) by omega), Bool.or_false]
  · rw [decide_eq_false hf, Bool.false_and, Bool.false_and, Bool.false_and]
theorem ord_c {S : Mem} {t : Nat} {Z : Zs} (I : ZI Z) (hL : ∀ f, f < 12 → rdI S (t + 1) f = nI (lfN Z f)) (h0 : rdI S t 0 = 0) (d : Nat) (q0 : AV) : ∀ k, k ≤ 12 → ∃ q S' n fs, ev (d + 2) 0 33 [vR 0 t, q0, vI (nI 12)] [] S = ev (d + 2) 0 33 [vR 0 t, q, vI (nI (12 - k))] [] S' ∧ Po Z t n fs (PcB Z (12 - k) 0) S' ∧ (∀ q, ¬ q = t → ¬ q = t + 2 → rdI S' q = rdI S q) ∧ S'.2 = S.2 := by
  intro k
  induction k with
  | zero =>
    intro _
    have pf : ∀ f, PcB Z 12 0 f = false := fun f => by
      have := clN_le Z (lfN Z f)
      unfold PcB
      rw [decide_eq_false (show ¬ 12 < clN Z (lfN Z f) by omega), decide_eq_false (show ¬ f < 0 by omega), Bool.and_false, Bool.or_false, Bool.and_false]
    have c0 : ctB (PcB Z 12 0) 12 = 0 := by
      rw [ctB_c (Q := fun _ => false) 12 (fun i _ => pf i)]; rfl
    exact ⟨q0, S, 0, fun _ => 0, rfl, ⟨c0.symm, h0, fun j hj => absurd hj (Nat.not_lt_zero _), fun j l hj => absurd hj (Nat.not_lt_zero _), fun f hf => by rw [pf] at hf; cases hf⟩, fun _ _ _ => rfl, rfl⟩
  | succ k ih =>
    intro hk
    obtain ⟨q, S1, n, fs, e, p, f, g⟩ := ih (by omega)
    obtain ⟨S2, n2, fs2, e2, p2, f2, g2⟩ := tk_c I (fun a ha => by rw [f (t + 1) (by omega) (by omega)]; exact hL a ha) (c := 12 - k) (by omega) (by omega) p d
    rw [e, B_X0_fewestFor_33, if_neg (show ¬ nI (12 - k) < 1 from nI_nlt (b := 1) (by omega) (by omega)), e2, bV_s, m1_add (by omega), show 12 - k - 1 = 12 - (k + 1) by omega]
    rw [Pc_n Z (by omega), show 12 - k - 1 = 12 - (k + 1) by omega] at p2
    exact ⟨vU, S2, n2, fs2, rfl, p2, fun a a1 a2 => (f2 a a1 a2).trans (f a a1 a2), g2.trans g⟩
theorem slot_c {S : Mem} {t : Nat} {Z : Zs} (I : ZI Z) (hL : ∀ f, f < 12 → rdI S (t + 1) f = nI (lfN Z f)) (d : Nat) : ∃ L, cal (d + 1) 3 [vR 0 t] S = some (some (vI (nI L)), S) ∧ L ≤ 12 ∧ (L = 0 ∨ ∃ s, L = clN Z (2 ^ s)) := by
  have lp_ : ∀ a, a ≤ 16 → ∃ L, ev (d + 1) 3 4 [vR 0 t, vI 0, vI 0] [] S = ev (d + 1) 3 4 [vR 0 t, vI (nI L), vI (nI a)] [] S ∧ L ≤ 12 ∧ (L = 0 ∨ ∃ s, L = clN Z (2 ^ s)) := by
    intro a
    induction a with
    | zero => intro _; exact ⟨0, rfl, by decide, Or.inl rfl⟩
    | succ a ih =>
      intro ha
      obtain ⟨L, e, h1, h2⟩ := ih (by omega)
      have hc := clN_le Z (2 ^ a)
      rw [e, B_X0_mostOnOneSlot_4, if_neg (n16 (by omega)), shl1 (by omega), clh_c I hL, bI_s, maxI_n (by omega) (by omega), nI_1]
      refine ⟨max L (clN Z (2 ^ a)), rfl, by omega, ?_⟩
      rcases Nat.le_total (clN Z (2 ^ a)) L with z | z
      · rw [Nat.max_eq_left z]; exact h2
      · rw [Nat.max_eq_right z]; exact Or.inr ⟨a, rfl⟩
  obtain ⟨L, e, h1, h2⟩ := lp_ 16 (Nat.le_refl _)
  exact ⟨L, by rw [B_X0_mostOnOneSlot, e, B_X0_mostOnOneSlot_4, if_pos y16], h1, h2⟩
theorem low_Cv {Z : Zs} (I : ZI Z) {s k : Nat} (h : Cv (prZ Z) (bP (usN Z)) k) : clN Z (2 ^ s) ≤ k := by
  obtain ⟨c, h1, h2⟩ := h
  have hb : ∀ f, f < 12 → (!(decide (lfN Z f &&& 2 ^ s = 0))) = true → bP (usN Z) f ∧ (lfN Z f).testBit s = true := fun f hf hq => by
    have hq : ¬ lfN Z f &&& 2 ^ s = 0 := fun z => by rw [decide_eq_true z] at hq; cases hq
    have hs : (lfN Z f).testBit s = true := by
      cases g : (lfN Z f).testBit s
      · exact absurd (nat_0.mpr (fun k => by
          rw [Nat.testBit_and, Nat.testBit_two_pow]
          by_cases z : s = k
          · rw [← z, g, Bool.false_and]
          · rw [decide_eq_false z, Bool.and_false])) hq
      · rfl
    refine ⟨?_, hs⟩
    show (usN Z).testBit f = true
    rw [(usN_e I).2.2 f hf]
    cases g : usB Z f
    · rw [(lf_us I hf).mpr g, Nat.zero_testBit] at hs; cases hs
    · rfl
  refine pigeon k 12 _ c (fun f hf hq => h1 f (hb f hf hq).1) (fun f g hf hg qf qg e => ?_)
  obtain ⟨b1, b2⟩ := hb f hf qf
  obtain ⟨b3, b4⟩ := hb g hg qg
  by_cases z : f = g
  · exact z
  · have hp : lfN Z f &&& lfN Z g = 0 := h2 f g b1 b3 z e
    have := nat_0.mp hp s
    rw [Nat.testBit_and, b2, b4] at this; cases this
theorem Ext_Cv {Z : Zs} {n : Nat} {fs : Nat → Nat} {G : Nat → Nat} {P : Nat → Prop} (hp : ∀ j, j < n → P (fs j)) (inj : ∀ j l, j < n → l < n → fs j = fs l → j = l) (hs : ∀ f, P f → ∃ j, j < n ∧ fs j = f) (k : Nat) : Ext (fun j => lfN Z (fs j)) n 0 0 G k ↔ Cv (prZ Z) P k := by
  constructor
  · rintro ⟨-, c, h1, h2⟩
    have hx : ∀ f, P f → ∃ j, j < n ∧ fs j = f ∧ ffind (fun j => decide (fs j = f)) 0 n = some j := fun f hf => by
      obtain ⟨j, hj, ej⟩ := hs f hf
      cases g : ffind (fun j => decide (fs j = f)) 0 n with
      | none =>
        have := ffind_none g j (Nat.zero_le _) (by omega)
        exact absurd ej (of_decide_eq_false this)
      | some i =>
        obtain ⟨-, g2, g3, -⟩ := ffind_some g
        exact ⟨i, by omega, of_decide_eq_true g3, rfl⟩
    refine ⟨fun f => match ffind (fun j => decide (fs j = f)) 0 n with
      | some j => c j
      | none => 0, fun f hf => ?_, fun f g hf hg hn he => ?_⟩
    · obtain ⟨j, hj, ej, e⟩ := hx f hf
      try dsimp only
      rw [e]; exact (h1 j (Nat.zero_le _) hj).1
    · obtain ⟨j, hj, ej, e⟩ := hx f hf
      obtain ⟨l, hl, el, e2⟩ := hx g hg
      try dsimp only at he
      rw [e, e2] at he
      have := h2 j l (Nat.zero_le _) hj (Nat.zero_le _) hl (fun z => hn (by rw [← ej, ← el, z])) he
      rw [← ej, ← el]; exact this
  · rintro ⟨c, h1, h2⟩
    refine ⟨Nat.zero_le _, fun j => c (fs j), fun j _ hj => ⟨h1 _ (hp j hj), fun z => absurd z (Nat.not_lt_zero _)⟩, fun j l _ hj _ hl hn he => h2 _ _ (hp j hj) (hp l hl) (fun z => hn (inj j l hj hl z)) he⟩
theorem few_c {S : Mem} {x : Nat} {Z : Zs} (h : ClR S x Z) (I : ZI Z) (d : Nat) : OkC x S (cal (d + 30) 129 [vR 7 x] S) (nI (fewN Z)) Z := by
  have lp_ : ∀ a, a ≤ 12 → ∃ S', ev (d + 29) 0 2 [vR 0 (x + 480), vR 1 (x + 27 + 1), vI 0] [] S = ev (d + 29) 0 2 [vR 0 (x + 480), vR 1 (x + 27 + 1), vI (nI a)] [] S' ∧ (∀ f, f < a → rdI S' (x + 480 + 1) f = nI (lfN Z f)) ∧ FrP (x + 480) 4 S S' := by
    intro a
    induction a with
    | zero => intro _; exact ⟨S, rfl, fun f hf => absurd hf (Nat.not_lt_zero _), FrP_r⟩
    | succ a ih =>
      intro ha
      obtain ⟨S1, e, l1, f1⟩ := ih (by omega)
      obtain ⟨c1, -⟩ := ClR_P h f1 (by omega) (by omega)
      rw [e, B_X0_fewestFor_2, if_neg (n12 (by omega)), kc_liveIn (cA c1), bI_s, i12 (by omega), gd_t, x12 (by omega), (lfN_e I a).2, nI_1]
      refine ⟨_, rfl, fun f hf => ?_, FrP_t f1 (FrP_w (by omega) (by omega))⟩
      by_cases z : f = a
      · rw [rdI_wrI, if_pos ⟨rfl, z⟩, z]
      · rw [rdI_wrI, if_neg (fun y => z y.2)]; exact l1 f (by omega)
  obtain ⟨S1, e1, l1, f1⟩ := lp_ 12 (Nat.le_refl _)
  have l2 : ∀ f, f < 12 → rdI (wrI S1 (x + 480) 0 0) (x + 480 + 1) f = nI (lfN Z f) := fun f hf => by rw [rdI_wrI, if_neg (by omega)]; exact l1 f hf
  obtain ⟨q, S2, n, fs, e2, ⟨p1, p2, p3, p4, p5⟩, f2, g2⟩ := ord_c I l2 (by rw [rdI_wrI, if_pos ⟨rfl, rfl⟩]) (d + 27) (vR 1 (x + 27 + 1)) 12 (Nat.le_refl _)
  have hn : n ≤ 12 := by rw [p1]; exact ctB_le _ 12
  have l3 : ∀ f, f < 12 → rdI (wrI S2 (x + 480) 1 (nI n)) (x + 480 + 1) f = nI (lfN Z f) := fun f hf => by rw [rdI_wrI, if_neg (by omega), f2 _ (by omega) (by omega)]; exact l2 f hf
  obtain ⟨L, e3, hL1, hL2⟩ := slot_c I l3 (d + 27)
  have hus : ∀ f, PcB Z (12 - 12) 0 f = true ↔ bP (usN Z) f := fun f => by
    have hb : bP (usN Z) f ↔ (usN Z).testBit f = true := Iff.rfl
    rw [hb]
    unfold PcB
    rw [Bool.and_eq_true, Bool.and_eq_true]
    constructor
    · rintro ⟨⟨a1, a2⟩, -⟩
      rw [(usN_e I).2.2 f (of_decide_eq_true a1)]; exact a2
    · intro hf
      have hl := us_lt I hf
      rw [(usN_e I).2.2 f hl] at hf
      have hc : 0 < clN Z (lfN Z f) := by
        have hq : (!(decide (lfN Z f &&& lfN Z f = 0))) = true := by
          rw [Nat.and_self]
          cases g : decide (lfN Z f = 0)
          · rfl
          · rw [(lf_us I hl).mp (of_decide_eq_true g)] at hf; cases hf
        have := ctB_w (P := fun g => if g = f then false else !(decide (lfN Z g &&& lfN Z f = 0))) (Q := fun g => !(decide (lfN Z g &&& lfN Z f = 0))) (if_pos rfl) hq 12 hl (fun i _ hi => if_neg hi)
        unfold clN; omega
      exact ⟨⟨decide_eq_true hl, hf⟩, by rw [decide_eq_true (show 12 - 12 < clN Z (lfN Z f) by omega)]; rfl⟩
  have lv16 : ∀ f, lfN Z f < 65536 := fun f => (lfN_e I f).1
  have C : CoS (fun j => lfN Z (fs j)) (x + 480) n L n (wrI (wrI S2 (x + 480) 1 (nI n)) (x + 480) 2 (nI L)) := by
    refine ⟨hn, hn, by omega, ?_, ?_, ?_, fun j hj => ⟨?_, lv16 _⟩⟩
    · rw [rdI_wrI, if_neg (by omega), rdI_wrI, if_neg (by omega)]; exact p2
    · rw [rdI_wrI, if_neg (by omega), rdI_wrI, if_pos ⟨rfl, rfl⟩]
    · rw [rdI_wrI, if_pos ⟨rfl, rfl⟩]
    · rw [rdI_wrI, if_neg (by omega), rdI_wrI, if_neg (by omega)]; exact (p3 j hj).1
  obtain ⟨S3, F, e4, C3, -, f3, q1, q2, q3⟩ := place_c (d + 27 - n) n 0 0 _ n (fun _ => 0) (by omega) (Nat.le_refl _) C (fun g hg => absurd hg (Nat.not_lt_zero _))
  rw [show d + 27 - n + n + 1 = d + 28 by omega] at e4
  have e4' : cal (d + 28) 4 [vR 0 (x + 480), vI 0, vI 0] (wrI (wrI S2 (x + 480) 1 (nI n)) (x + 480) 2 (nI L)) = some (none, S3) := e4
  have hx := Ext_Cv (Z := Z) (G := fun _ => 0) (P := bP (usN Z)) (fun j hj => (hus _).mp (p3 j hj).2) p4 (fun f hf => p5 f ((hus f).mpr hf))
  have hV : IsV (prZ Z) (bP (usN Z)) F := by
    refine ⟨(hx F).mp ?_, fun k hk hc => ?_⟩
    · rcases q2 with z | z
      · rw [z]
        exact ⟨Nat.zero_le _, fun j => j, fun j _ hj => ⟨hj, fun y => absurd y (Nat.not_lt_zero _)⟩, fun j l _ _ _ _ hne he => absurd he hne⟩
      · exact z
    · rcases q3 with z | z
      · exact z k hk ((hx k).mpr hc)
      · rcases hL2 with y | ⟨s, y⟩
        · omega
        · have := low_Cv I (s := s) hc
          omega
  have fa : FrP (x + 480) 4 S S3 := by
    refine ⟨fun c hc => ?_, ?_⟩
    · rw [f3.1 c (by omega) (by omega)]
      refine Eq.trans (funext fun b => ?_) (f1.1 c hc)
      rw [rdI_wrI, if_neg (by omega), rdI_wrI, if_neg (by omega), f2 c (by omega) (by omega), rdI_wrI, if_neg (by omega)]
    · rw [f3.2.2]; exact g2.trans f1.2
  obtain ⟨c, fx⟩ := ClR_P h fa (by omega) (by omega)
  have e2' : ev (d + 28 + 1) 0 33 [vR 0 (x + 480), vR 1 (x + 27 + 1), vI 12] [] (wrI S1 (x + 480) 0 0) = ev (d + 28 + 1) 0 33 [vR 0 (x + 480), q, vI (nI (12 - 12))] [] S2 := e2
  rw [B_X7_fewest, B_X0_fewestFor, e1, B_X0_fewestFor_2, if_pos y12, e2', B_X0_fewestFor_33, if_pos (show nI (12 - 12) < 1 by decide), p2, e3, bI_s, e4', bV_s, C3.2.2.2.2.1, bI_s, fewN_e hV]
  exact ⟨S3, rfl, c, fx⟩
