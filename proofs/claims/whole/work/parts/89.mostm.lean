/-! the reference's table of most pairs -/
theorem andn_b {s u : Nat} (hs : s < 65536) (k : Nat) : (s &&& (u ^^^ 4294967295)).testBit k = (s.testBit k && !(u.testBit k)) := by
  rw [Nat.testBit_and, Nat.testBit_xor]
  rcases Nat.lt_or_ge k 32 with hi | hi
  · rw [(by decide +kernel : ∀ i : Fin 32, Nat.testBit 4294967295 i.1 = true) ⟨k, hi⟩, Bool.xor_true]
  · have h16 : 2 ^ 16 ≤ 2 ^ k := Nat.pow_le_pow_right (by decide) (by omega)
    rw [Nat.testBit_lt_two_pow (Nat.lt_of_lt_of_le hs h16), Bool.false_and, Bool.false_and]
def sub (s u : Nat) : Prop := ∀ k, s.testBit k = true → u.testBit k = true
theorem nat_0 {s : Nat} : s = 0 ↔ ∀ k, s.testBit k = false := ⟨fun h k => by rw [h, Nat.zero_testBit], fun h => Nat.eq_of_testBit_eq (fun k => by rw [h k, Nat.zero_testBit])⟩
theorem sub_i {s u : Nat} (hs : s < 65536) : nI s &&& (nI u ^^^ -1) = 0 ↔ sub s u := by
  have e1 : (-1 : Int32) = nI 4294967295 := by decide
  have hl : s &&& (u ^^^ 4294967295) ≤ s := Nat.and_le_left
  rw [e1, nI_xor, nI_and]
  refine Iff.trans (nI_eq (b := 0) (by omega) (by decide)) (Iff.trans nat_0 ⟨fun h k hk => ?_, fun h k => ?_⟩)
  · have := h k
    rw [andn_b hs, hk, Bool.true_and] at this
    simpa using this
  · rw [andn_b hs]
    cases g : s.testBit k
    · rfl
    · rw [h k g]; rfl
theorem sub_rm {s u i : Nat} (hs : s < 65536) (h : sub s u) : sub (rmb s i) u := fun k hk => by
  rw [rmb_t hs, Bool.and_eq_true] at hk
  exact h k hk.1
/-- the lowest of a set -/
theorem low_x {s : Nat} (h0 : ¬ s = 0) (h : s < 4096) : ∃ f, f < 12 ∧ s.testBit f = true ∧ ∀ j, j < f → s.testBit j = false := by
  obtain ⟨f, h1, h2⟩ := pk_least (fun k => s.testBit k = true) (Nat.exists_testBit_of_ne_zero h0)
  refine ⟨f, ?_, h1, fun j hj => by simpa using h2 j hj⟩
  rcases Nat.lt_or_ge f 12 with z | z
  · exact z
  · have h3 : 2 ^ 12 ≤ 2 ^ f := Nat.pow_le_pow_right (by decide) z
    have h4 : 2 ^ 12 = 4096 := by decide
    rw [Nat.testBit_lt_two_pow (by omega)] at h1; cases h1
def LvR (Z : Zs) (r n : Nat) (S : Mem) : Prop := ∀ f, f < n → rdI S (r + 12) f = nI (lfN Z f)
theorem ll_m {S : Mem} {r : Nat} {Z : Zs} (h : RP S (r + 1) 4 (zA Z)) (I : ZI Z) (d : Nat) : ∃ S', cal (d + 1) 292 [vR 8 r] S = some (none, S') ∧ LvR Z r 12 S' ∧ FrP (r + 12) 1 S S' := by
  have lp_ : ∀ a, a ≤ 12 → ∃ S', ev (d + 1) 292 2 [vR 8 r, vI 0] [] S = ev (d + 1) 292 2 [vR 8 r, vI (nI a)] [] S' ∧ LvR Z r a S' ∧ FrP (r + 12) 1 S S' := by
    intro a
    induction a with
    | zero => intro _; exact ⟨S, rfl, fun f hf => absurd hf (Nat.not_lt_zero _), FrP_r⟩
    | succ a ih =>
      intro ha
      obtain ⟨S1, e, l1, f1⟩ := ih (by omega)
      have h1 : RP S1 (r + 1) 4 (zA Z) := RP_fr h (fun i _ _ => by rw [f1.1 (r + 1) (by omega)])
      rw [e, B_X8_layLives_2, if_neg (n12 (by omega)), km_liveIn h1 _ (nI_m1 (by omega)), bI_s, i12 (by omega), gd_t, x12 (by omega), (lfN_e I a).2, nI_1]
      refine ⟨_, rfl, fun f hf => ?_, FrP_t f1 (FrP_w (by omega) (by omega))⟩
      by_cases z : f = a
      · rw [rdI_wrI, if_pos ⟨rfl, z⟩, z]
      · rw [rdI_wrI, if_neg (fun y => z y.2)]; exact l1 f (by omega)
  obtain ⟨S', e, l, f⟩ := lp_ 12 (Nat.le_refl _)
  exact ⟨S', by rw [B_X8_layLives, e, B_X8_layLives_2, if_pos y12], l, f⟩
def prB (Z : Zs) (i j : Nat) : Bool := decide (lfN Z i &&& lfN Z j = 0)
theorem prB_e {Z : Zs} {i j : Nat} : prB Z i j = true ↔ prZ Z i j := by
  unfold prB prZ; exact decide_eq_true_iff
theorem prB_t {Z : Zs} {i j : Nat} (h : prZ Z i j) : prB Z i j = true := prB_e.mpr h
theorem prB_f {Z : Zs} {i j : Nat} (h : ¬ prZ Z i j) : prB Z i j = false := by
  cases g : prB Z i j
  · rfl
  · exact absurd (prB_e.mp g) h
theorem ip_m {S : Mem} {r : Nat} {Z : Zs} (I : ZI Z) (hL : LvR Z r 12 S) {f g : Nat} (hf : f < 12) (hg : g < 12) (d : Nat) : cal d 293 [vR 8 r, vI (nI f), vI (nI g)] S = some (some (vI (b2i (prB Z f g))), S) := by
  rw [B_X8_isPair, i12 hf, gd_t, i12 hg, gd_t, x12 hf, x12 hg, hL f hf, hL g hg]
  by_cases z : prZ Z f g
  · rw [if_pos ((pr_i I _ _).mpr z), gd_p isZ_1, prB_t z]; rfl
  · rw [if_neg (mt (pr_i I _ _).mp z), gd_p isZ_0, prB_f z]; rfl
theorem wto_m {s f : Nat} (hf : f < 16) (d : Nat) (S : Mem) : cal d 294 [vI (nI s), vI (nI f)] S = some (some (vI (nI (rmb s f))), S) := by
  rw [B_X8_without, rmb_e hf]
theorem hs_m {s f : Nat} (hs : s < 2 ^ 31) (hf : f < 16) (d : Nat) (S : Mem) : cal d 160 [vI (nI s), vI (nI f)] S = some (some (vI (b2i (s.testBit f))), S) := by
  rw [sp_mhas, bit_1 hs hf]
def TR (Z : Zs) (r u N : Nat) (S : Mem) : Prop := ∀ s, s < N → sub s u → ∃ v, rdI S (r + 13) s = nI v ∧ IsM (prZ Z) (bP s) v ∧ v ≤ s
theorem lpi_m {S : Mem} {r u : Nat} {Z : Zs} (I : ZI Z) (hL : LvR Z r 12 S) {s f v0 : Nat} (hs : s < 4096) (hu : sub s u) (hf : f < 12) (hbf : s.testBit f = true) (hT : TR Z r u s S) (h0 : v0 ≤ s) (d : Nat) : ∀ n, f + 1 + n ≤ 12 → ∃ b, ev (d + 1) 295 55 [vR 8 r, vI (nI u), vI (nI s), vI (nI f), vI (nI (rmb s f)), vI (nI v0), vI (nI (f + 1))] [] S = ev (d + 1) 295 55 [vR 8 r, vI (nI u), vI (nI s), vI (nI f), vI (nI (rmb s f)), vI (nI b), vI (nI (f + 1 + n))] [] S ∧ b ≤ s ∧ v0 ≤ b ∧ (∀ j, f < j → j < f + 1 + n → (rmb s f).testBit j = true → prZ Z f j → 1 + mxN (prZ Z) (bP (rmb (rmb s f) j)) ≤ b) ∧ (b = v0 ∨ ∃ j, f < j ∧ j < f + 1 + n ∧ (rmb s f).testBit j = true ∧ prZ Z f j ∧ b = 1 + mxN (prZ Z) (bP (rmb (rmb s f) j))) := by
  have hr := rmb_lt (s := s) (i := f) (by omega) hbf
  intro n
  induction n with
  | zero => intro _; exact ⟨v0, rfl, h0, Nat.le_refl _, fun j h1 h2 => by omega, Or.inl rfl⟩
  | succ n ih =>
    intro hn
    obtain ⟨b, e, b1, b2, b3, b4⟩ := ih (by omega)
    have hg : f + 1 + n < 12 := by omega
    have kb : (¬ ((rmb s f).testBit (f + 1 + n) = true ∧ prZ Z f (f + 1 + n))) → b ≤ s ∧ v0 ≤ b ∧ (∀ j, f < j → j < f + 1 + (n + 1) → (rmb s f).testBit j = true → prZ Z f j → 1 + mxN (prZ Z) (bP (rmb (rmb s f) j)) ≤ b) ∧ (b = v0 ∨ ∃ j, f < j ∧ j < f + 1 + (n + 1) ∧ (rmb s f).testBit j = true ∧ prZ Z f j ∧ b = 1 + mxN (prZ Z) (bP (rmb (rmb s f) j))) := fun hn => by
      refine ⟨b1, b2, fun j hj hj2 hb hp => ?_, ?_⟩
      · by_cases z : j = f + 1 + n
        · subst z; exact absurd ⟨hb, hp⟩ hn
        · exact b3 j hj (by omega) hb hp
      · rcases b4 with z | ⟨j, hj, hj2, z⟩
        · exact Or.inl z
        · exact Or.inr ⟨j, hj, by omega, z⟩
    rw [e, B_X8_layPairs_55, if_neg (n12 hg), hs_m (by omega) (by omega), bI_s, ite_b0, nI_1]
    cases g : (rmb s f).testBit (f + 1 + n)
    · rw [if_pos rfl]
      exact ⟨b, rfl, kb (fun z => by rw [g] at z; cases z.1)⟩
    · rw [if_neg (by decide), ip_m I hL hf hg, bI_s, ite_b0]
      by_cases hpr : prZ Z f (f + 1 + n)
      · have hlt : rmb (rmb s f) (f + 1 + n) < rmb s f := rmb_lt (by omega) g
        obtain ⟨w, ew, hw, wl⟩ := hT _ (by omega) (sub_rm (i := f + 1 + n) (by omega) (sub_rm (i := f) (by omega) hu))
        have em := mxN_e hw
        have m1 : (1 : Int32) + nI w = nI (1 + w) := nI_add 1 w
        rw [prB_t hpr, if_neg (by decide), wto_m (by omega), bI_s, inb_t (by omega) (by decide), gd_t, ix_nI (by omega), ew, m1]
        by_cases hle : 1 + w ≤ b
        · rw [if_pos (nI_le hle (by omega))]
          refine ⟨b, rfl, b1, b2, fun j hj hj2 hb hp => ?_, ?_⟩
          · by_cases z : j = f + 1 + n
            · subst z; rw [em]; exact hle
            · exact b3 j hj (by omega) hb hp
          · rcases b4 with z | ⟨j, hj, hj2, z⟩
            · exact Or.inl z
            · exact Or.inr ⟨j, hj, by omega, z⟩
        · rw [if_neg (nI_ge (by omega) (by omega)), wto_m (by omega), bI_s, inb_t (by omega) (by decide), gd_t, ix_nI (by omega), ew, m1]
          refine ⟨1 + w, rfl, by omega, by omega, fun j hj hj2 hb hp => ?_, Or.inr ⟨f + 1 + n, by omega, by omega, g, hpr, by rw [em]⟩⟩
          by_cases z : j = f + 1 + n
          · subst z; rw [em]; exact Nat.le_refl _
          · have := b3 j hj (by omega) hb hp; omega
      · rw [prB_f hpr, if_pos rfl]
        exact ⟨b, rfl, kb (fun z => hpr z.2)⟩
theorem TR_w {Z : Zs} {r u N v : Nat} {S : Mem} (h : TR Z r u N S) (hv : IsM (prZ Z) (bP N) v) (hb : v ≤ N) : TR Z r u (N + 1) (wrI S (r + 13) N (nI v)) := fun s hs hsu => by
  by_cases e : s = N
  · subst e; exact ⟨v, by rw [rdI_wrI, if_pos ⟨rfl, rfl⟩], hv, hb⟩
  · obtain ⟨w, e1, e2, e3⟩ := h s (by omega) hsu
    exact ⟨w, by rw [rdI_wrI, if_neg (fun z => e z.2)]; exact e1, e2, e3⟩
theorem lpo_m {S : Mem} {r u : Nat} {Z : Zs} (I : ZI Z) (hL : LvR Z r 12 S) (hu : u < 4096) (hT : TR Z r u 1 S) (d : Nat) : ∀ m, m ≤ u → ∃ q3 q4 q5 q6 S', ev (d + 2) 295 13 [vR 8 r, vI (nI u), vI 1, vU, vU, vU, vU] [] S = ev (d + 2) 295 13 [vR 8 r, vI (nI u), vI (nI (m + 1)), q3, q4, q5, q6] [] S' ∧ LvR Z r 12 S' ∧ TR Z r u (m + 1) S' ∧ FrP (r + 12) 2 S S' := by
  intro m
  induction m with
  | zero => intro _; exact ⟨vU, vU, vU, vU, S, rfl, hL, hT, FrP_r⟩
  | succ m ih =>
    intro hm
    obtain ⟨q3, q4, q5, q6, S1, e, l1, t1, f1⟩ := ih (by omega)
    rw [e, B_X8_layPairs_13, if_neg (nI_nlt (by omega) (by omega)), nI_1]
    by_cases hs : sub (m + 1) u
    · obtain ⟨f, hf, hbf, hlo⟩ := low_x (s := m + 1) (by omega) (by omega)
      have hr := rmb_lt (s := m + 1) (i := f) (by omega) hbf
      obtain ⟨v0, e0, hv0, l0⟩ := t1 (rmb (m + 1) f) hr (sub_rm (by omega) hs)
      rw [bP_rm (by omega)] at hv0
      obtain ⟨b, e2, b1, b2, b3, b4⟩ := lpi_m I l1 (s := m + 1) (v0 := v0) (by omega) hs hf hbf t1 (by omega) (d + 1) (11 - f) (by omega)
      have to : ∀ g, bP (m + 1) g → ¬ g = f → f < g ∧ g < f + 1 + (11 - f) ∧ (rmb (m + 1) f).testBit g = true := fun g hg hn => by
        have hg : (m + 1).testBit g = true := hg
        refine ⟨?_, ?_, by rw [rmb_t (by omega), hg, decide_eq_false (fun z => hn z.symm)]; rfl⟩
        · rcases Nat.lt_trichotomy f g with z | z | z
          · exact z
          · exact absurd z.symm hn
          · rw [hlo g z] at hg; cases hg
        · rcases Nat.lt_or_ge g 12 with z | z
          · omega
          · have h3 : 2 ^ 12 ≤ 2 ^ g := Nat.pow_le_pow_right (by decide) z
            have h4 : 2 ^ 12 = 4096 := by decide
            rw [Nat.testBit_lt_two_pow (by omega)] at hg; cases hg
      have hM : IsM (prZ Z) (bP (m + 1)) b := by
        refine IsM_step (prZ_s Z) (T := fun g => mxN (prZ Z) (bP (rmb (rmb (m + 1) f) g))) hbf hv0 (fun g hg hn hp => ?_) b2 (fun g hg hn hp => ?_) ?_
        · obtain ⟨g1, g2, g3⟩ := to g hg hn
          have hlt : rmb (rmb (m + 1) f) g < rmb (m + 1) f := rmb_lt (by omega) g3
          obtain ⟨w, ew, hw, wl⟩ := t1 _ (by omega) (sub_rm (i := g) (by omega) (sub_rm (i := f) (by omega) hs))
          try dsimp only
          rw [mxN_e hw, ← bP_rm (by omega), ← bP_rm (by omega)]; exact hw
        · obtain ⟨g1, g2, g3⟩ := to g hg hn
          exact b3 g g1 g2 g3 hp
        · rcases b4 with z | ⟨j, j1, j2, j3, hp, z⟩
          · exact Or.inl z
          · rw [rmb_t (by omega), Bool.and_eq_true] at j3
            exact Or.inr ⟨j, j3.1, by omega, hp, z⟩
      rw [if_pos ((sub_i (by omega)).mpr hs), lowBit_m d (by omega) (by omega) hbf hlo, bI_s, wto_m (by omega), bI_s, inb_t (by omega) (by decide), gd_t, ix_nI (by omega), e0, nI_1, e2, show f + 1 + (11 - f) = 12 by omega, B_X8_layPairs_55, if_pos y12, inb_t (by omega) (by decide), gd_t, ix_nI (by omega), nI_1]
      exact ⟨vU, vU, vU, vU, _, rfl, fun g hg => by rw [rdI_wrI, if_neg (by omega)]; exact l1 g hg, TR_w t1 hM b1, FrP_t f1 (FrP_w (by omega) (by omega))⟩
    · rw [if_neg (mt (sub_i (by omega)).mp hs)]
      exact ⟨vU, vU, vU, vU, S1, rfl, l1, fun s h1 h2 => by
        by_cases z : s = m + 1
        · subst z; exact absurd h2 hs
        · exact t1 s (by omega) h2, f1⟩
theorem lp_m {S : Mem} {r u : Nat} {Z : Zs} (h : RP S (r + 1) 4 (zA Z)) (I : ZI Z) (hu : u < 4096) (d : Nat) : ∃ S', cal (d + 2) 295 [vR 8 r, vI (nI u)] S = some (none, S') ∧ LvR Z r 12 S' ∧ TR Z r u (u + 1) S' ∧ FrP (r + 12) 2 S S' := by
  obtain ⟨S1, e1, l1, f1⟩ := ll_m h I d
  have t1 : TR Z r u 1 (wrI S1 (r + 13) 0 0) := fun s hs _ => by
    have : s = 0 := by omega
    subst this
    refine ⟨0, by rw [rdI_wrI, if_pos ⟨rfl, rfl⟩]; rfl, IsM_0 (fun f hf => ?_), Nat.le_refl _⟩
    have hf : (0 : Nat).testBit f = true := hf
    rw [Nat.zero_testBit] at hf; cases hf
  have l2 : LvR Z r 12 (wrI S1 (r + 13) 0 0) := fun g hg => by rw [rdI_wrI, if_neg (by omega)]; exact l1 g hg
  obtain ⟨q3, q4, q5, q6, S2, e2, l3, t3, f2⟩ := lpo_m I l2 hu t1 d u (Nat.le_refl _)
  refine ⟨S2, ?_, l3, t3, FrP_t (FrP_t ⟨fun c hc => f1.1 c (by omega), f1.2⟩ (FrP_w (by omega) (by omega))) f2⟩
  rw [B_X8_layPairs, e1, bV_s, gd_p (show inb 0 4096 = true by decide), show ix 0 = 0 from rfl, e2, B_X8_layPairs_13, if_pos (nI_lt (by omega) (by omega))]
theorem MoR_P {S S' : Mem} {r t m : Nat} {Z : Zs} (h : MoR S r Z) (I : ZI Z) (f : FrP t m S S') (h1 : r + 9 ≤ t) (h2 : t + m ≤ r + 17) : MoR S' r Z ∧ FrY r S S' := by
  have fy : FrY r S S' := ⟨fun c i hc => by rw [f.1 c (fun z => hc (Or.inr (Or.inr (Or.inr (Or.inr ⟨by omega, by omega⟩)))))], congrArg Prod.snd f.2⟩
  refine ⟨?_, fy⟩
  have h' := MoR_up h fy (RP_fr (mA h) (fun i _ _ => by rw [f.1 (r + 1) (by omega)])) (StM_k (mS' h) (fun i _ => by rw [f.1 (r + 1) (by omega)])) I.1.2.2.2.2.2.1
  exact h'
theorem sub_r (u : Nat) : sub u u := fun _ h => h
theorem mst_m {S : Mem} {r : Nat} {Z : Zs} (h : MoR S r Z) (I : ZI Z) (d : Nat) : OkM r S (cal (d + 9) 296 [vR 8 r] S) (nI (mostN Z)) Z := by
  obtain ⟨hu, eu, -⟩ := usN_e I
  obtain ⟨S1, e1, l1, t1, f1⟩ := lp_m (mA h) I hu (d + 6)
  obtain ⟨c, fy⟩ := MoR_P h I f1 (by omega) (by omega)
  obtain ⟨v, ev_, hv, hb⟩ := t1 (usN Z) (by omega) (sub_r _)
  rw [B_X8_most, km_used (mA h), bI_s, eu, e1, bV_s, km_used (mA c), bI_s, eu, inb_t (by omega) (by decide), gd_t, ix_nI (by omega), ev_]
  unfold mostN
  rw [mxN_e hv]
  exact ⟨S1, rfl, c, fy⟩
