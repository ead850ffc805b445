/-! mates: one row for both -/
noncomputable def cG (Z : Zs) (s f g : Nat) : Bool := ((rmb s f).testBit g && prB Z f g) && decide (1 + mxN (prZ Z) (bP (rmb (rmb s f) g)) = mxN (prZ Z) (bP s))
noncomputable def lwG (Z : Zs) (s f : Nat) : Option Nat := ffind (cG Z s f) (f + 1) (11 - f)
noncomputable def nxG (Z : Zs) (s f : Nat) : Nat := match lwG Z s f with
  | none => rmb s f
  | some g => rmb (rmb s f) g
noncomputable def ansG (Z : Zs) (F : Nat) : Nat → Nat → Nat → Int32
  | 0, _, _ => -1
  | k + 1, f, s => if s.testBit f = true then (if f = F then oI (lwG Z s f) else if lwG Z s f = some F then nI f else ansG Z F k (f + 1) (nxG Z s f)) else ansG Z F k (f + 1) s
theorem ansG_s (Z : Zs) (F k f s : Nat) : ansG Z F (k + 1) f s = if s.testBit f = true then (if f = F then oI (lwG Z s f) else if lwG Z s f = some F then nI f else ansG Z F k (f + 1) (nxG Z s f)) else ansG Z F k (f + 1) s := rfl
theorem ansG_k (Z : Zs) (F s : Nat) : ∀ n f k, (∀ j, f ≤ j → j < f + n → s.testBit j = false) → ansG Z F (n + k) f s = ansG Z F k (f + n) s
  | 0, f, k, _ => by rw [Nat.zero_add]; rfl
  | n + 1, f, k, h => by
    rw [show n + 1 + k = (n + k) + 1 by omega, ansG_s, if_neg (by rw [h f (Nat.le_refl _) (by omega)]; decide), ansG_k Z F s n (f + 1) k (fun j h1 h2 => h j (by omega) (by omega)), show f + 1 + n = f + (n + 1) by omega]
theorem ansG_0 {Z : Zs} {F s f : Nat} (hf : f ≤ 12) (h : ∀ j, j < f → s.testBit j = false) : ansG Z F 12 0 s = ansG Z F (12 - f) f s := by
  have e := ansG_k Z F s f 0 (12 - f) (fun j _ hj => h j (by omega))
  rw [show f + (12 - f) = 12 by omega, Nat.zero_add] at e
  exact e
theorem lwG_s {Z : Zs} {s f g : Nat} (hf : f < 12) (h : lwG Z s f = some g) : f < g ∧ g < 12 ∧ (rmb s f).testBit g = true := by
  obtain ⟨h1, h2, h3, -⟩ := ffind_some h
  unfold cG at h3
  rw [Bool.and_eq_true, Bool.and_eq_true] at h3
  exact ⟨by omega, by omega, h3.1.1⟩
theorem nxG_t {Z : Zs} {s f : Nat} (hs : s < 4096) (k : Nat) : (nxG Z s f).testBit k = (s.testBit k && (!(decide (f = k)) && !(decide (lwG Z s f = some k)))) := by
  unfold nxG
  have hr := rmb_le s f
  cases g : lwG Z s f with
  | none =>
    show (rmb s f).testBit k = _
    rw [rmb_t (by omega), decide_eq_false (p := (none : Option Nat) = some k) (fun z => by cases z), Bool.not_false, Bool.and_true]
  | some m =>
    show (rmb (rmb s f) m).testBit k = _
    rw [rmb_t (by omega), rmb_t (by omega), Bool.and_assoc]
    have e : decide (m = k) = decide (some m = some k) := by
      by_cases z : m = k
      · rw [decide_eq_true z, decide_eq_true (by rw [z])]
      · rw [decide_eq_false z, decide_eq_false (fun y => z (Option.some.inj y))]
    rw [e]
theorem nxG_le {Z : Zs} {s f : Nat} : nxG Z s f ≤ rmb s f := by
  unfold nxG
  split
  · exact Nat.le_refl _
  · exact rmb_le _ _
/-! the reference -/
theorem sub_le {s u : Nat} (h : sub s u) : s ≤ u := by
  have e : s = s &&& u := Nat.eq_of_testBit_eq (fun k => by
    rw [Nat.testBit_and]
    cases g : s.testBit k
    · rfl
    · rw [h k g]; rfl)
  rw [e]; exact Nat.and_le_right
theorem mi_m {S : Mem} {r u : Nat} {Z : Zs} (I : ZI Z) (hL : LvR Z r 12 S) {s f : Nat} (hs : s < 4096) (hu : sub s u) (hf : f < 12) (hbf : s.testBit f = true) (hT : TR Z r u (u + 1) S) (d : Nat) : cal (d + 1) 297 [vR 8 r, vI (nI s), vI (nI f)] S = some (some (vI (oI (lwG Z s f))), S) := by
  have hle := sub_le hu
  have hr := rmb_lt (s := s) (i := f) (by omega) hbf
  obtain ⟨v0, e0, hv0, l0⟩ := hT s (by omega) hu
  have key := loop_find (fun g => ev (d + 1) 297 11 [vR 8 r, vI (nI s), vI (nI f), vI (nI (rmb s f)), vI (nI g)] [] S) (cG Z s f) (fun g => some (some (vI (nI g)), S)) (11 - f) (f + 1) (fun g h1 h2 => by
    have hg : g < 12 := by omega
    try dsimp only
    rw [B_X8_mateIn_11, if_neg (n12 hg), hs_m (by omega) (by omega), bI_s, ite_b0, nI_1]
    unfold cG
    cases g1 : (rmb s f).testBit g
    · rw [if_pos rfl, Bool.false_and, Bool.false_and, if_neg (by decide)]
    · rw [if_neg (by decide), ip_m I hL hf hg, bI_s, ite_b0]
      cases g2 : prB Z f g
      · rw [if_pos rfl, Bool.and_false, Bool.false_and, if_neg (by decide)]
      · have hlt : rmb (rmb s f) g < rmb s f := rmb_lt (by omega) g1
        obtain ⟨w, ew, hw, wl⟩ := hT _ (by omega) (sub_rm (i := g) (by omega) (sub_rm (i := f) (by omega) hu))
        have m1 : (1 : Int32) + nI w = nI (1 + w) := nI_add 1 w
        rw [if_neg (by decide), wto_m (by omega), bI_s, inb_t (by omega) (by decide), gd_t, inb_t (by omega) (by decide), gd_t, ix_nI (by omega), ix_nI (by omega), ew, e0, m1, Bool.and_self, Bool.true_and, mxN_e hw, mxN_e hv0]
        by_cases z : 1 + w = v0
        · rw [if_pos (by rw [z]), if_pos (decide_eq_true z)]
        · rw [if_neg (fun y => z ((nI_eq (by omega) (by omega)).mp y)), if_neg (by rw [decide_eq_false z]; decide)])
  rw [B_X8_mateIn, wto_m (by omega), bI_s, nI_1]
  refine key.trans ?_
  unfold lwG
  cases ffind (cG Z s f) (f + 1) (11 - f) with
  | some p => rfl
  | none =>
    show ev (d + 1) 297 11 [vR 8 r, vI (nI s), vI (nI f), vI (nI (rmb s f)), vI (nI (f + 1 + (11 - f)))] [] S = _
    rw [show f + 1 + (11 - f) = 12 by omega, B_X8_mateIn_11, if_pos y12]; rfl
theorem LvR_k {Z : Zs} {r n : Nat} {S S' : Mem} (h : LvR Z r n S) (e : rdI S' (r + 12) = rdI S (r + 12)) : LvR Z r n S' := fun f hf => by rw [e]; exact h f hf
theorem TR_k {Z : Zs} {r u N : Nat} {S S' : Mem} (h : TR Z r u N S) (e : rdI S' (r + 13) = rdI S (r + 13)) : TR Z r u N S' := fun s h1 h2 => by rw [e]; exact h s h1 h2
theorem lms_m {r u : Nat} {Z : Zs} (I : ZI Z) (hu4 : u < 4096) (d : Nat) : ∀ (N s : Nat) (S : Mem) (q2 q3 : AV), s < N → sub s u → LvR Z r 12 S → TR Z r u (u + 1) S → (∀ F, s.testBit F = true → rdI S (r + 16) F = -1) → ∃ S', ev (d + 2) 298 31 [vR 8 r, vI (nI s), q2, q3] [] S = some (none, S') ∧ FrP (r + 16) 1 S S' ∧ (∀ F, s.testBit F = false → rdI S' (r + 16) F = rdI S (r + 16) F) ∧ ∀ F, s.testBit F = true → rdI S' (r + 16) F = ansG Z F 12 0 s := by
  intro N
  induction N with
  | zero => intro s S q2 q3 h; omega
  | succ N ih =>
    intro s S q2 q3 hsN hu hL hT hM
    have hle := sub_le hu
    by_cases z0 : s = 0
    · subst z0
      exact ⟨S, by rw [B_X8_layMates_31, if_pos (show nI 0 = 0 from rfl)], FrP_r, fun _ _ => rfl, fun F hF => by rw [Nat.zero_testBit] at hF; cases hF⟩
    · obtain ⟨f, hf, hbf, hlo⟩ := low_x z0 (by omega)
      have hr := rmb_lt (s := s) (i := f) (by omega) hbf
      have hnx := nxG_le (Z := Z) (s := s) (f := f)
      have hnt := fun k => nxG_t (Z := Z) (s := s) (f := f) (by omega) k
      have hsub : sub (nxG Z s f) u := fun k hk => by
        rw [hnt, Bool.and_eq_true] at hk; exact hu k hk.1
      have a0 : ∀ F, ansG Z F 12 0 s = if f = F then oI (lwG Z s f) else if lwG Z s f = some F then nI f else ansG Z F 12 0 (nxG Z s f) := fun F => by
        have hn0 : ∀ j, j < f + 1 → (nxG Z s f).testBit j = false := fun j hj => by
          rw [hnt]
          by_cases z : f = j
          · rw [decide_eq_true z]; exact Bool.and_false _
          · rw [hlo j (by omega), Bool.false_and]
        rw [ansG_0 (f := f) (by omega) hlo, show 12 - f = (11 - f) + 1 by omega, ansG_s, if_pos hbf, ansG_0 (s := nxG Z s f) (f := f + 1) (by omega) hn0, show 12 - (f + 1) = 11 - f by omega]
      cases hg : lwG Z s f with
      | none =>
        have en : nxG Z s f = rmb s f := by unfold nxG; rw [hg]
        rw [en] at hsub hnt a0
        have a0 : ∀ F, ansG Z F 12 0 s = if f = F then oI none else if none = some F then nI f else ansG Z F 12 0 (rmb s f) := fun F => by rw [a0 F, hg]
        obtain ⟨S1, e1, f1, k1, k2⟩ := ih (rmb s f) S (vI (nI f)) (vI (-1)) (by omega) hsub hL hT (fun F hF => hM F (by rw [hnt, Bool.and_eq_true] at hF; exact hF.1))
        have ht : ∀ F, (rmb s f).testBit F = (s.testBit F && !(decide (f = F))) := fun F => rmb_t (by omega) f F
        refine ⟨S1, ?_, f1, fun F hF => k1 F (by rw [ht, hF, Bool.false_and]), fun F hF => ?_⟩
        · rw [B_X8_layMates_31, if_neg (nI_ne0 (by omega) (by omega)), lowBit_m (d + 0) (by omega) (by omega) hbf hlo, bI_s, mi_m I hL (by omega) hu hf hbf hT, bI_s, hg, wto_m (by omega), bI_s, oI_none, if_pos rfl]; exact e1
        · rw [a0 F]
          by_cases z : f = F
          · rw [if_pos z, k1 F (by rw [ht, z, decide_eq_true rfl]; exact Bool.and_false _)]; exact hM F hF
          · rw [if_neg z, if_neg (fun y => by cases y)]
            exact k2 F (by rw [ht, hF, decide_eq_false z]; rfl)
      | some g =>
        obtain ⟨g1, g2, g3⟩ := lwG_s hf hg
        have en : nxG Z s f = rmb (rmb s f) g := by unfold nxG; rw [hg]
        have ht : ∀ F, (rmb (rmb s f) g).testBit F = ((s.testBit F && !(decide (f = F))) && !(decide (g = F))) := fun F => by rw [rmb_t (by omega), rmb_t (by omega)]
        rw [en] at hsub hnt a0
        have a0 : ∀ F, ansG Z F 12 0 s = if f = F then oI (some g) else if some g = some F then nI f else ansG Z F 12 0 (rmb (rmb s f) g) := fun F => by rw [a0 F, hg]
        have hlt : rmb (rmb s f) g < rmb s f := rmb_lt (by omega) g3
        obtain ⟨S1, e1, f1, k1, k2⟩ := ih (rmb (rmb s f) g) (wrI (wrI S (r + 16) f (nI g)) (r + 16) g (nI f)) (vI (nI f)) (vI (nI g)) (by omega) hsub (LvR_k hL (funext fun b => by rw [rdI_wrI, if_neg (by omega), rdI_wrI, if_neg (by omega)])) (TR_k hT (funext fun b => by rw [rdI_wrI, if_neg (by omega), rdI_wrI, if_neg (by omega)])) (fun F hF => by
          rw [ht, Bool.and_eq_true, Bool.and_eq_true] at hF
          have n1 : ¬ f = F := fun z => by rw [decide_eq_true z] at hF; exact absurd hF.1.2 (by decide)
          have n2 : ¬ g = F := fun z => by rw [decide_eq_true z] at hF; exact absurd hF.2 (by decide)
          rw [rdI_wrI, if_neg (fun y => n2 y.2.symm), rdI_wrI, if_neg (fun y => n1 y.2.symm)]; exact hM F hF.1.1)
        refine ⟨S1, ?_, FrP_t (FrP_t (FrP_w (by omega) (by omega)) (FrP_w (by omega) (by omega))) f1, fun F hF => ?_, fun F hF => ?_⟩
        · rw [B_X8_layMates_31, if_neg (nI_ne0 (by omega) (by omega)), lowBit_m (d + 0) (by omega) (by omega) hbf hlo, bI_s, mi_m I hL (by omega) hu hf hbf hT, bI_s, hg, wto_m (by omega), bI_s, oI_some, if_neg (nI_m1 (by omega)), i12 hf, gd_t, i12 g2, gd_t, x12 hf, x12 g2, wto_m (by omega), bI_s]; exact e1
        · have n1 : ¬ F = f := fun z => by rw [z, hbf] at hF; cases hF
          have n2 : ¬ F = g := fun z => by
            rw [rmb_t (by omega), Bool.and_eq_true] at g3
            rw [z, g3.1] at hF; cases hF
          rw [k1 F (by rw [ht, hF, Bool.false_and, Bool.false_and]), rdI_wrI, if_neg (fun y => n2 y.2), rdI_wrI, if_neg (fun y => n1 y.2)]
        · rw [a0 F]
          by_cases z : f = F
          · rw [if_pos z, k1 F (by rw [ht, z, decide_eq_true rfl, Bool.not_true, Bool.and_false, Bool.false_and]), rdI_wrI, if_neg (by omega), rdI_wrI, if_pos ⟨rfl, z.symm⟩]; rfl
          · rw [if_neg z]
            by_cases y : g = F
            · rw [if_pos (by rw [y]), k1 F (by rw [ht, y, decide_eq_true rfl]; exact Bool.and_false _), rdI_wrI, if_pos ⟨rfl, y.symm⟩]
            · rw [if_neg (fun w => y (Option.some.inj w))]
              exact k2 F (by rw [ht, hF, decide_eq_false z, decide_eq_false y]; rfl)
noncomputable def mateZ (Z : Zs) (a : Int32) : Int32 := if inb a 12 = true then ansG Z (ix a) 12 0 (usN Z) else -1
theorem ansG_n {Z : Zs} {F : Nat} : ∀ k f s, s < 4096 → f + k ≤ 12 → s.testBit F = false → ansG Z F k f s = -1
  | 0, _, _, _, _, _ => rfl
  | k + 1, f, s, hs, hf, h => by
    rw [ansG_s]
    by_cases hb : s.testBit f = true
    · have n1 : ¬ f = F := fun z => by rw [z, h] at hb; cases hb
      have n2 : ¬ lwG Z s f = some F := fun z => by
        obtain ⟨-, -, g3⟩ := lwG_s (by omega) z
        rw [rmb_t (by omega), h, Bool.false_and] at g3; cases g3
      have hr := rmb_lt (s := s) (i := f) (by omega) hb
      have hn := nxG_le (Z := Z) (s := s) (f := f)
      rw [if_pos hb, if_neg n1, if_neg n2]
      exact ansG_n k (f + 1) _ (by omega) (by omega) (by rw [nxG_t hs, h, Bool.false_and])
    · rw [if_neg hb]; exact ansG_n k (f + 1) s hs (by omega) h
theorem ma_m {S : Mem} {r : Nat} {Z : Zs} (h : MoR S r Z) (I : ZI Z) (a : Int32) (d : Nat) : OkM r S (cal (d + 9) 299 [vR 8 r, vI a] S) (mateZ Z a) Z := by
  obtain ⟨hu, eu, hub⟩ := usN_e I
  unfold mateZ
  rw [B_X8_mate, sp_misNumber, bI_s, ite_b0]
  cases hv : inb a 12
  · rw [if_pos rfl, if_neg (by decide)]; exact OkM_0 h
  · obtain ⟨F, hF, rfl⟩ := inb_ex hv (by decide)
    obtain ⟨S1, e1, l1, t1, f1⟩ := lp_m (mA h) I hu (d + 5)
    have lp_ : ∀ b, b ≤ 12 → ∃ q S', ev (d + 8) 298 12 [vR 8 r, vI (nI (usN Z)), vI 0, vU] [] S1 = ev (d + 8) 298 12 [vR 8 r, vI (nI (usN Z)), vI (nI b), q] [] S' ∧ FrP (r + 16) 1 S1 S' ∧ ∀ k, k < b → rdI S' (r + 16) k = -1 := by
      intro b
      induction b with
      | zero => intro _; exact ⟨vU, S1, rfl, FrP_r, fun k hk => absurd hk (Nat.not_lt_zero _)⟩
      | succ b ih =>
        intro hb
        obtain ⟨q, S', e, f', k'⟩ := ih (by omega)
        rw [e, B_X8_layMates_12, if_neg (n12 (by omega)), i12 (by omega), gd_t, x12 (by omega), nI_1]
        refine ⟨vU, _, rfl, FrP_t f' (FrP_w (by omega) (by omega)), fun k hk => ?_⟩
        by_cases z : k = b
        · rw [rdI_wrI, if_pos ⟨rfl, z⟩]
        · rw [rdI_wrI, if_neg (fun y => z y.2)]; exact k' k (by omega)
    obtain ⟨q, S2, e2, f2, k2⟩ := lp_ 12 (Nat.le_refl _)
    obtain ⟨S3, e3, f3, k3, k4⟩ := lms_m (r := r) I hu (d + 6) (usN Z + 1) (usN Z) S2 (vI (nI 12)) vU (by omega) (sub_r _) (LvR_k l1 (by rw [f2.1 _ (by omega)])) (TR_k t1 (by rw [f2.1 _ (by omega)])) (fun k hk => k2 k (us_lt I hk))
    have fa : FrP (r + 12) 5 S S3 := FrP_t (FrP_t ⟨fun c hc => f1.1 c (by omega), f1.2⟩ ⟨fun c hc => f2.1 c (by omega), f2.2⟩) ⟨fun c hc => f3.1 c (by omega), f3.2⟩
    obtain ⟨c, fy⟩ := MoR_P h I fa (by omega) (by omega)
    have el : cal (d + 8) 298 [vR 8 r] S = some (none, S3) := by
      rw [B_X8_layMates, km_used (mA h), bI_s, eu, e1, bV_s, e2, B_X8_layMates_12, if_pos y12]; exact e3
    have ev_ : rdI S3 (r + 16) F = ansG Z F 12 0 (usN Z) := by
      cases g : (usN Z).testBit F
      · rw [k3 F g, k2 F hF, ansG_n 12 0 _ hu (by decide) g]
      · exact k4 F g
    rw [if_neg (by decide), el, bV_s, gd_t, if_pos rfl, x12 hF, ev_]
    exact ⟨S3, rfl, c, fy⟩
/-! the class -/
noncomputable def cK (Z : Zs) (fs : Nat → Nat) (n l i j : Nat) : Bool := (l.testBit j && prB Z (fs i) (fs j)) && decide (1 + mxN (prZ Z) (kP fs n (rmb (rmb l i) j)) = mxN (prZ Z) (kP fs n l))
theorem lm_c {S : Mem} {t n : Nat} {fs : Nat → Nat} {Z : Zs} (I : ZI Z) (h : TF Z t 12 n fs S) (hT : TB Z t n fs (2 ^ n) n S) {l i : Nat} (hl : l < 2 ^ n) (hi : i < n) (d : Nat) : cal d 52 [vR 2 t, vI (nI l), vI (nI i)] S = some (some (vI (oI (ffind (cK Z fs n l i) (i + 1) (n - 1 - i)))), S) := by
  have h1 := h.1
  have hp := p12 (k := n) (by omega)
  obtain ⟨v0, e0, hv0, b0⟩ := hT l hl
  have key := loop_find (fun j => ev d 52 4 [vR 2 t, vI (nI l), vI (nI i), vI (nI j), vU] [] S) (cK Z fs n l i) (fun j => some (some (vI (nI j)), S)) (n - 1 - i) (i + 1) (fun j j1 j2 => by
    have hj : j < n := by omega
    have t1 := bit_1 (b := l) (k := j) (by omega) (by omega)
    try dsimp only
    rw [B_X2_lowestMate_4, h.2.1, if_neg (nI_ge hj (by omega)), nI_1]
    unfold cK
    cases g1 : l.testBit j
    · rw [g1] at t1
      rw [if_neg (of_decide_eq_false t1), Bool.false_and, Bool.false_and, if_neg (by decide)]
    · rw [g1] at t1
      rw [if_pos (of_decide_eq_true t1), inb_t (by omega) (by decide), gd_t, inb_t (by omega) (by decide), gd_t, ix_nI (by omega), ix_nI (by omega), (h.2.2.1 i hi).2.1, (h.2.2.1 j hj).2.1]
      by_cases hpr : prZ Z (fs i) (fs j)
      · have hle : rmb (rmb l i) j ≤ l := Nat.le_trans (rmb_le _ _) (rmb_le _ _)
        obtain ⟨w, ew, hw, wl⟩ := hT (rmb (rmb l i) j) (by omega)
        have m1 : (1 : Int32) + nI w = nI (1 + w) := nI_add 1 w
        rw [if_pos ((pr_i I _ _).mpr hpr), rmb_or (by omega) (by omega), inb_t (by omega) (by decide), gd_t, inb_t (by omega) (by decide), gd_t, ix_nI (by omega), ix_nI (by omega), ew, e0, m1, prB_t hpr, Bool.and_self, Bool.true_and, mxN_e hw, mxN_e hv0]
        by_cases z : 1 + w = v0
        · rw [if_pos (by rw [z]), if_pos (decide_eq_true z)]
        · rw [if_neg (fun y => z ((nI_eq (by omega) (by omega)).mp y)), if_neg (by rw [decide_eq_false z]; decide)]
      · rw [if_neg (mt (pr_i I _ _).mp hpr), prB_f hpr, Bool.and_false, Bool.false_and, if_neg (by decide)])
  rw [B_X2_lowestMate, nI_1]
  refine key.trans ?_
  cases ffind (cK Z fs n l i) (i + 1) (n - 1 - i) with
  | some p => rfl
  | none =>
    show ev d 52 4 [vR 2 t, vI (nI l), vI (nI i), vI (nI (i + 1 + (n - 1 - i))), vU] [] S = _
    rw [show i + 1 + (n - 1 - i) = n by omega, B_X2_lowestMate_4, h.2.1, if_pos (nI_le (Nat.le_refl _) (by omega))]; rfl
theorem ck_e {t n : Nat} {fs : Nat → Nat} {Z : Zs} {S : Mem} (h : TF Z t 12 n fs S) {l s i j : Nat} (hl : l < 65536) (hs : s < 4096) (hk : kP fs n l = bP s) (hi : i < n) (hj : j < n) (hij : i < j) : cK Z fs n l i j = cG Z s (fs i) (fs j) := by
  have inj := TF_inj h
  have hr := rmb_le l i
  have hr2 := rmb_le s (fs i)
  have hm := h.2.2.2.1 i j hij hj
  have e1 : (rmb s (fs i)).testBit (fs j) = l.testBit j := by
    rw [rmb_t (by omega), decide_eq_false (by omega), Bool.not_false, Bool.and_true]
    have hx : bP s (fs j) ↔ kP fs n l (fs j) := by rw [hk]
    have hx2 : kP fs n l (fs j) ↔ l.testBit j = true := ⟨fun ⟨k, hk, hb, e⟩ => by rw [← inj k j hk hj e]; exact hb, fun hb => ⟨j, hj, hb, rfl⟩⟩
    have hx3 : s.testBit (fs j) = true ↔ l.testBit j = true := hx.trans hx2
    cases g1 : s.testBit (fs j) <;> cases g2 : l.testBit j
    · rfl
    · rw [g1, g2] at hx3; exact absurd (hx3.mpr rfl) (by decide)
    · rw [g1, g2] at hx3; exact absurd (hx3.mp rfl) (by decide)
    · rfl
  have e2 : kP fs n (rmb (rmb l i) j) = bP (rmb (rmb s (fs i)) (fs j)) := by
    rw [kP_rm (by omega) hj inj, kP_rm (by omega) hi inj, bP_rm (by omega), bP_rm (by omega), hk]
  unfold cK cG
  rw [e1, e2, hk]
theorem lk_e {t n : Nat} {fs : Nat → Nat} {Z : Zs} {S : Mem} (h : TF Z t 12 n fs S) {l s i : Nat} (hl : l < 65536) (hs : s < 4096) (hk : kP fs n l = bP s) (hi : i < n) : (ffind (cK Z fs n l i) (i + 1) (n - 1 - i) = none ∧ lwG Z s (fs i) = none) ∨ ∃ j, i < j ∧ j < n ∧ ffind (cK Z fs n l i) (i + 1) (n - 1 - i) = some j ∧ lwG Z s (fs i) = some (fs j) := by
  have hfi := (h.2.2.1 i hi).2.2.1
  cases hg : lwG Z s (fs i) with
  | none =>
    left
    refine ⟨?_, rfl⟩
    cases hc : ffind (cK Z fs n l i) (i + 1) (n - 1 - i) with
    | none => rfl
    | some j =>
      obtain ⟨j1, j2, j3, -⟩ := ffind_some hc
      have hm := h.2.2.2.1 i j (by omega) (by omega)
      have hfj := (h.2.2.1 j (by omega)).2.2.1
      rw [ck_e h hl hs hk hi (by omega) (by omega)] at j3
      have := ffind_none hg (fs j) (by omega) (by omega)
      rw [j3] at this; cases this
  | some g =>
    right
    obtain ⟨g1, g2, g3, g4⟩ := ffind_some hg
    have gb : bP s g := by
      unfold cG at g3
      rw [Bool.and_eq_true, Bool.and_eq_true, rmb_t (by omega), Bool.and_eq_true] at g3
      exact g3.1.1.1
    rw [← hk] at gb
    obtain ⟨j, hj, hb, e⟩ := gb
    have hij : i < j := by
      rcases Nat.lt_trichotomy i j with z | z | z
      · exact z
      · rw [z] at g1; omega
      · have := h.2.2.2.1 j i z hi; omega
    have cj : cK Z fs n l i j = true := by rw [ck_e h hl hs hk hi hj hij, e]; exact g3
    refine ⟨j, hij, hj, ?_, by rw [e]⟩
    cases hc : ffind (cK Z fs n l i) (i + 1) (n - 1 - i) with
    | none =>
      have := ffind_none hc j (by omega) (by omega)
      rw [cj] at this; cases this
    | some k =>
      obtain ⟨k1, k2, k3, k4⟩ := ffind_some hc
      congr 1
      rcases Nat.lt_trichotomy k j with z | z | z
      · have hm := h.2.2.2.1 k j z hj
        have hm2 := h.2.2.2.1 i k (by omega) (by omega)
        rw [ck_e h hl hs hk hi (by omega) (by omega)] at k3
        have := g4 (fs k) (by omega) (by omega)
        rw [k3] at this; cases this
      · exact z
      · have := k4 j (by omega) z
        rw [cj] at this; cases this
theorem mt_c {S : Mem} {t n : Nat} {fs : Nat → Nat} {Z : Zs} (I : ZI Z) (h : TF Z t 12 n fs S) (hT : TB Z t n fs (2 ^ n) n S) {F : Nat} (hF : F < 12) (d : Nat) : ∀ m i l s q, i + m = n → l < 2 ^ n → (∀ j, j < i → l.testBit j = false) → s < 4096 → kP fs n l = bP s → ev (d + 1) 51 11 [vR 2 t, vI (nI F), vI (nI l), vI (nI i), q] [] S = some (some (vI (ansG Z F 12 0 s)), S) := by
  have h1 := h.1
  have hp := p12 (k := n) (by omega)
  intro m
  induction m with
  | zero =>
    intro i l s q hi hl hb hs hk
    have hz : ∀ j, j < 12 → s.testBit j = false := fun j _ => by
      cases g : s.testBit j
      · rfl
      · have hg : bP s j := g
        rw [← hk] at hg
        obtain ⟨k, hk1, hk2, -⟩ := hg
        rw [hb k (by omega)] at hk2; cases hk2
    rw [B_X2_mateOf_11, h.2.1, if_pos (nI_le (by omega) (by omega)), ansG_0 (f := 12) (Nat.le_refl _) hz]; rfl
  | succ m ih =>
    intro i l s q hi hl hb hs hk
    have hin : i < n := by omega
    have t1 := bit_1 (b := l) (k := i) (by omega) (by omega)
    rw [B_X2_mateOf_11, h.2.1, if_neg (nI_ge hin (by omega)), nI_1]
    cases g1 : l.testBit i
    · rw [g1] at t1
      rw [if_neg (of_decide_eq_false t1)]
      exact ih (i + 1) l s vU (by omega) hl (fun j hj => by
        by_cases z : j = i
        · rw [z]; exact g1
        · exact hb j (by omega)) hs hk
    · rw [g1] at t1
      have inj := TF_inj h
      have hfi := (h.2.2.1 i hin)
      have sb : s.testBit (fs i) = true := by
        have hx : bP s (fs i) := by rw [← hk]; exact ⟨i, hin, g1, rfl⟩
        exact hx
      have hr := rmb_lt (s := s) (i := fs i) (by omega) sb
      have hlo : ∀ j, j < fs i → s.testBit j = false := fun j hj => by
        cases g : s.testBit j
        · rfl
        · have hg : bP s j := g
          rw [← hk] at hg
          obtain ⟨k, hk1, hk2, hk3⟩ := hg
          rcases Nat.lt_trichotomy k i with z | z | z
          · rw [hb k z] at hk2; cases hk2
          · rw [z] at hk3; omega
          · have := h.2.2.2.1 i k z hk1; omega
      have hnt := fun k => nxG_t (Z := Z) (s := s) (f := fs i) hs k
      have a0 : ansG Z F 12 0 s = if fs i = F then oI (lwG Z s (fs i)) else if lwG Z s (fs i) = some F then nI (fs i) else ansG Z F 12 0 (nxG Z s (fs i)) := by
        have hn0 : ∀ j, j < fs i + 1 → (nxG Z s (fs i)).testBit j = false := fun j hj => by
          rw [hnt]
          by_cases z : fs i = j
          · rw [decide_eq_true z]; exact Bool.and_false _
          · rw [hlo j (by omega), Bool.false_and]
        rw [ansG_0 (f := fs i) (by omega) hlo, show 12 - fs i = (11 - fs i) + 1 by omega, ansG_s, if_pos sb, ansG_0 (s := nxG Z s (fs i)) (f := fs i + 1) (by omega) hn0, show 12 - (fs i + 1) = 11 - fs i by omega]
      have eF : nI (fs i) = nI F ↔ fs i = F := nI_eq (by omega) (by omega)
      have rl := rmb_le l i
      rw [if_pos (of_decide_eq_true t1), lm_c I h hT hl hin, bI_s, inb_t (by omega) (by decide), gd_t, ix_nI (by omega), hfi.1, rmb_e (by omega), a0]
      rcases lk_e h (by omega) hs hk hin with ⟨c1, c2⟩ | ⟨j, j1, j2, c1, c2⟩
      · rw [c1, c2, oI_none]
        by_cases z : fs i = F
        · rw [if_pos (eF.mpr z), if_pos z, if_pos rfl]
        · rw [if_neg (mt eF.mp z), if_neg z, if_pos rfl, if_pos rfl, if_neg (fun y => by cases y)]
          have en : nxG Z s (fs i) = rmb s (fs i) := by unfold nxG; rw [c2]
          rw [en]
          exact ih (i + 1) (rmb l i) (rmb s (fs i)) vU (by omega) (by omega) (fun j hj => by
            rw [rmb_t (by omega)]
            by_cases y : i = j
            · rw [decide_eq_true y]; exact Bool.and_false _
            · rw [hb j (by omega), Bool.false_and]) (by omega) (by rw [kP_rm (by omega) hin inj, bP_rm (by omega), hk])
      · have hfj := h.2.2.1 j j2
        have ejF : nI (fs j) = nI F ↔ fs j = F := nI_eq (by omega) (by omega)
        rw [c1, c2, oI_some]
        by_cases z : fs i = F
        · rw [if_pos (eF.mpr z), if_pos z, if_neg (nI_m1 (by omega)), inb_t (by omega) (by decide), gd_t, ix_nI (by omega), hfj.1]; rfl
        · rw [if_neg (mt eF.mp z), if_neg z, if_neg (nI_m1 (by omega)), inb_t (by omega) (by decide), gd_t, ix_nI (by omega), hfj.1]
          by_cases y : fs j = F
          · rw [if_pos (ejF.mpr y), gd_t, if_pos (by rw [y])]
          · rw [if_neg (mt ejF.mp y), if_neg (nI_m1 (by omega)), if_neg (fun w => y (Option.some.inj w)), rmb_e (by omega)]
            have en : nxG Z s (fs i) = rmb (rmb s (fs i)) (fs j) := by unfold nxG; rw [c2]
            have rl2 := rmb_le (rmb l i) j
            have rs2 := rmb_le (rmb s (fs i)) (fs j)
            rw [en]
            exact ih (i + 1) (rmb (rmb l i) j) (rmb (rmb s (fs i)) (fs j)) vU (by omega) (by omega) (fun k hj => by
              rw [rmb_t (by omega), rmb_t (by omega)]
              by_cases y : i = k
              · rw [decide_eq_true y, Bool.not_true, Bool.and_false, Bool.false_and]
              · rw [hb k (by omega), Bool.false_and, Bool.false_and]) (by omega) (by rw [kP_rm (by omega) j2 inj, kP_rm (by omega) hin inj, bP_rm (by omega), bP_rm (by omega), hk])
theorem ma_c {S : Mem} {x : Nat} {Z : Zs} (h : ClR S x Z) (I : ZI Z) (a : Int32) (d : Nat) : OkC x S (cal (d + 9) 128 [vR 7 x, vI a] S) (mateZ Z a) Z := by
  unfold mateZ
  rw [B_X7_mate, isPage_t, bI_s, ite_b0]
  cases hv : inb a 12
  · rw [if_pos rfl, if_neg (by decide)]; exact OkC_0 h
  · obtain ⟨F, hF, rfl⟩ := inb_ex hv (by decide)
    obtain ⟨S1, n, fs, e, h1, b1, f1⟩ := count_c (cA h) (t := x + 476) (by omega) I (d + 6)
    obtain ⟨c, fx⟩ := ClR_P h f1 (by omega) (by omega)
    have hn := h1.1
    have hp := p12 (k := n) (by omega)
    have hp0 : 0 < 2 ^ n := Nat.two_pow_pos n
    have e1 : shlI 1 (rdI S1 (x + 476) 0) - 1 = nI (2 ^ n - 1) := by rw [h1.2.1, shl1 (by omega), s1_sub hp0]
    have em : cal (d + 8) 51 [vR 2 (x + 476), vI (nI F)] S1 = some (some (vI (ansG Z F 12 0 (usN Z))), S1) := by
      rw [B_X2_mateOf, e1]
      exact mt_c I h1 b1 hF (d + 7) n 0 (2 ^ n - 1) (usN Z) vU (by omega) (by omega) (fun j hj => absurd hj (Nat.not_lt_zero _)) (usN_e I).1 (kP_all I h1)
    rw [if_neg (by decide), e, bV_s, em, bI_s, if_pos rfl, x12 hF]
    exact ⟨S1, rfl, c, fx⟩
