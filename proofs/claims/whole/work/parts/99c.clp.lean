/-! the class's parser: rows of signs; asks; choices -/
def LOk (b : Nat → Nat) (n law : Nat) (E : Nat → Nat → Nat → AV → Mem → Option Res) (D k j h : Nat) (v w : Env → Int) : Prop := ∀ (t τ c0 c m : Nat) (u : AV) (S : Mem), CR b n law t τ k c S → c0 < c → c ≤ k → m < k → CD (alL law) (rdI S (τ + 6)) (rdI S (τ + 7)) c0 c h v → ∀ d, D ≤ d → ∃ S' c', E t d m u S = some (none, S') ∧ CR b n law t τ j c' S' ∧ c ≤ c' ∧ c' ≤ c + (j - k) ∧ FrU t τ c S S' ∧ CD (alL law) (rdI S' (τ + 6)) (rdI S' (τ + 7)) c0 c' h w
def LFa (b : Nat → Nat) (n law : Nat) (E : Nat → Nat → Nat → AV → Mem → Option Res) (D k f p : Nat) : Prop := ∀ (t τ c m : Nat) (u : AV) (S : Mem), CR b n law t τ k c S → c ≤ k → m < k → ∀ d, D ≤ d → ∃ S', E t d m u S = some (none, S') ∧ CX b n t τ f (tP b n p) S' ∧ FrU t τ 0 S S'
/-- what the four loops have in common -/
def LpH (b : Nat → Nat) (n law : Nat) (E : Nat → Nat → Nat → AV → Mem → Option Res) (sg : Nat → Bool) (callee mid o : Nat) : Prop := (∀ t d S, ∃ u, cal (d + 1) mid [vR 3 t, vI (nI o)] S = bV (cal d callee [vR 3 t, vI (nI o)] S) (fun S1 => E t (d + 1) 0 u S1)) ∧ (∀ t τ k c m d u S, CR b n law t τ k c S → m < 300 → sg (tK b n k) = true → ∃ u', E t (d + 1) m u S = bV (cal d callee [vR 3 t, vI (nI o)] (wrI S t 8 (nI (k + 1)))) (fun S5 => bI (cal d 90 [vR 5 (ix (rdI S5 t 10)), vI (nI (tK b n k)), vI 0] S5) (fun _ S6 => E t (d + 1) (m + 1) u' S6))) ∧ (∀ t τ k c m d u S, CR b n law t τ k c S → sg (tK b n k) = false → m < 300 → E t (d + 1) m u S = some (none, S)) ∧ (∀ t τ f p m d u S, CX b n t τ f p S → m ≤ 300 → E t (d + 1) m u S = some (none, S)) ∧ ∀ k, sg (tK b n k) = true → k < tN b n
section CL_
variable {b : Nat → Nat} {n law : Nat} {E : Nat → Nat → Nat → AV → Mem → Option Res} {sg : Nat → Bool} {callee mid o : Nat}
theorem L_stop {D k h : Nat} {v : Env → Int} (H : LpH b n law E sg callee mid o) (hD : 1 ≤ D) (hs : sg (tK b n k) = false) : LOk b n law E D k k h v v := by
  intro t τ c0 c m u S hR h0 hc hm hv d hd
  obtain ⟨d', rfl⟩ : ∃ d', d = d' + 1 := ⟨d - 1, by omega⟩
  have hN := CR_i hR
  exact ⟨S, c, H.2.2.1 t τ k c m d' u S hR hs (by omega), hR, Nat.le_refl _, by omega, FrU_r, hv⟩
theorem L_step {D k j j2 h : Nat} {v w z cb : Env → Int} (H : LpH b n law E sg callee mid o) (hs : sg (tK b n k) = true) (hkj : k + 1 < j) (H1 : COk b n law callee D o (k + 1) j (h + 1) w) (H2 : LOk b n law E (D + 1) j j2 h cb z) (hcb : ∀ (cd nb : Nat → Int32) (x y y2 : Nat), CD (alL law) cd nb x y h v → CD (alL law) cd nb y y2 (h + 1) w → cd y2 = nI (tK b n k) → CD (alL law) cd nb x (y2 + 1) h cb) (hj : j ≤ j2) : LOk b n law E (D + 1) k j2 h v z := by
  intro t τ c0 c m u S hR h0 hc hm hv d hd
  obtain ⟨d', rfl⟩ : ∃ d', d = d' + 1 := ⟨d - 1, by omega⟩
  have hN := CR_i hR
  have hk := H.2.2.2.2 k hs
  have t5 := CR_t5 hR
  have hR1 := CR_at hR (k := k + 1) (by omega)
  obtain ⟨S1, c1, e1, R1, l1, l2, f1, C1⟩ := H1 t τ c _ hR1 (by omega) d' (by omega)
  have hN1 := CR_i R1
  have fa := FrU_a (c := c1) (a := nI (tK b n k)) (v := 0) (S := S1) t5
  obtain ⟨a1, -⟩ := adC_6 S1 τ c1 (nI (tK b n k)) 0
  have fw := FrU_w (c := c) (i := 8) (v := nI (k + 1)) (S := S) t5 (by omega)
  have R2 := CR_ad (a := nI (tK b n k)) (v := 0) R1
  have f01 := FrU_t fw f1 (Nat.le_refl _)
  obtain ⟨u', er⟩ := H.2.1 t τ k c m d' u S hR (by omega) hs
  have C2 := hcb _ _ _ _ _ (CD_f (CD_f hv f01 (Nat.le_refl _)) fa (by omega)) (CD_f C1 fa (Nat.le_refl _)) a1
  obtain ⟨S3, c3, e3, R3, m1, m2, f3, C3⟩ := H2 t τ c0 (c1 + 1) (m + 1) u' _ R2 (by omega) (by omega) (by omega) C2 (d' + 1) hd
  refine ⟨S3, c3, ?_, R3, by omega, by omega, FrU_t (FrU_t f01 fa (by omega)) f3 (by omega), C3⟩
  rw [er, e1, bV_s, r10 R1, ac_c R1 (by omega), bI_s]
  exact e3
theorem L_stepF {D k f p : Nat} (H : LpH b n law E sg callee mid o) (hs : sg (tK b n k) = true) (H1 : CFa b n law callee D o (k + 1) f p) : LFa b n law E (D + 1) k f p := by
  intro t τ c m u S hR hc hm d hd
  obtain ⟨d', rfl⟩ : ∃ d', d = d' + 1 := ⟨d - 1, by omega⟩
  have hN := CR_i hR
  have hk := H.2.2.2.2 k hs
  have t5 := CR_t5 hR
  have hR1 := CR_at hR (k := k + 1) (by omega)
  obtain ⟨S1, e1, k1, f1⟩ := H1 t τ c _ hR1 (by omega) d' (by omega)
  obtain ⟨S2, w, e2, k2, f2⟩ := acx_c k1 (nI (tK b n k)) 0 d'
  obtain ⟨u', er⟩ := H.2.1 t τ k c m d' u S hR (by omega) hs
  refine ⟨S2, ?_, k2, FrU_t (FrU_w (c := 0) (i := 8) (v := nI (k + 1)) t5 (by omega)) (FrU_t f1 f2 (Nat.le_refl _)) (Nat.le_refl _)⟩
  rw [er, e1, bV_s, x10 k1, e2, bI_s]
  exact H.2.2.2.1 t τ f _ (m + 1) d' u' S2 k2 (by omega)
theorem L_stepG {D k j f p h : Nat} {w : Env → Int} (H : LpH b n law E sg callee mid o) (hs : sg (tK b n k) = true) (hkj : k + 1 < j) (H1 : COk b n law callee D o (k + 1) j h w) (H2 : LFa b n law E (D + 1) j f p) : LFa b n law E (D + 1) k f p := by
  intro t τ c m u S hR hc hm d hd
  obtain ⟨d', rfl⟩ : ∃ d', d = d' + 1 := ⟨d - 1, by omega⟩
  have hN := CR_i hR
  have hk := H.2.2.2.2 k hs
  have t5 := CR_t5 hR
  have hR1 := CR_at hR (k := k + 1) (by omega)
  obtain ⟨S1, c1, e1, R1, l1, l2, f1, C1⟩ := H1 t τ c _ hR1 (by omega) d' (by omega)
  have hN1 := CR_i R1
  have fa := FrU_a (c := c1) (a := nI (tK b n k)) (v := 0) (S := S1) t5
  have R2 := CR_ad (a := nI (tK b n k)) (v := 0) R1
  obtain ⟨u', er⟩ := H.2.1 t τ k c m d' u S hR (by omega) hs
  obtain ⟨S3, e3, k3, f3⟩ := H2 t τ (c1 + 1) (m + 1) u' _ R2 (by omega) (by omega) (d' + 1) hd
  refine ⟨S3, ?_, k3, FrU_t (FrU_m (FrU_t (FrU_t (FrU_w (c := c) (i := 8) (v := nI (k + 1)) t5 (by omega)) f1 (Nat.le_refl _)) fa (by omega)) (Nat.zero_le _)) f3 (Nat.le_refl _)⟩
  rw [er, e1, bV_s, r10 R1, ac_c R1 (by omega), bI_s]
  exact e3
theorem X_ok {D i k j h : Nat} {v w : Env → Int} (H : LpH b n law E sg callee mid o) (hik : i < k) (hkj : k ≤ j) (H1 : COk b n law callee D o i k h v) (H2 : LOk b n law E (D + 1) k j h v w) : COk b n law mid (D + 1) o i j h w := by
  intro t τ c S hR hc d hd
  obtain ⟨d', rfl⟩ : ∃ d', d = d' + 1 := ⟨d - 1, by omega⟩
  obtain ⟨S1, c1, e1, R1, l1, l2, f1, C1⟩ := H1 t τ c S hR hc d' (by omega)
  obtain ⟨u, er⟩ := H.1 t d' S
  obtain ⟨S2, c2, e2, R2, m1, m2, f2, C2⟩ := H2 t τ c c1 0 u S1 R1 l1 (by omega) (by omega) C1 (d' + 1) hd
  exact ⟨S2, c2, by rw [er, e1, bV_s]; exact e2, R2, by omega, by omega, FrU_t f1 f2 (by omega), C2⟩
theorem X_f {D i f p : Nat} (H : LpH b n law E sg callee mid o) (H1 : CFa b n law callee D o i f p) : CFa b n law mid (D + 1) o i f p := by
  intro t τ c S hR hc d hd
  obtain ⟨d', rfl⟩ : ∃ d', d = d' + 1 := ⟨d - 1, by omega⟩
  obtain ⟨S1, e1, k1, f1⟩ := H1 t τ c S hR hc d' (by omega)
  obtain ⟨u, er⟩ := H.1 t d' S
  exact ⟨S1, by rw [er, e1, bV_s]; exact H.2.2.2.1 t τ f _ 0 d' u S1 k1 (by omega), k1, f1⟩
theorem X_g {D i k f p h : Nat} {v : Env → Int} (H : LpH b n law E sg callee mid o) (hik : i < k) (H1 : COk b n law callee D o i k h v) (H2 : LFa b n law E (D + 1) k f p) : CFa b n law mid (D + 1) o i f p := by
  intro t τ c S hR hc d hd
  obtain ⟨d', rfl⟩ : ∃ d', d = d' + 1 := ⟨d - 1, by omega⟩
  obtain ⟨S1, c1, e1, R1, l1, l2, f1, C1⟩ := H1 t τ c S hR hc d' (by omega)
  obtain ⟨u, er⟩ := H.1 t d' S
  obtain ⟨S2, e2, k2, f2⟩ := H2 t τ c1 0 u S1 R1 (by omega) (by omega) (d' + 1) hd
  exact ⟨S2, by rw [er, e1, bV_s]; exact e2, k2, FrU_t (FrU_m f1 (Nat.zero_le _)) f2 (Nat.le_refl _)⟩
end CL_
noncomputable def Esum (o : Nat) : Nat → Nat → Nat → AV → Mem → Option Res := fun t d m u S => ev d 71 7 [vR 3 t, vI (nI o), vI (nI m), u] [] S
noncomputable def Epro (o : Nat) : Nat → Nat → Nat → AV → Mem → Option Res := fun t d m u S => ev d 72 7 [vR 3 t, vI (nI o), vI (nI m), u] [] S
noncomputable def Eeit (o : Nat) : Nat → Nat → Nat → AV → Mem → Option Res := fun t d m _ S => ev d 77 7 [vR 3 t, vI (nI o), vI (nI m)] [] S
noncomputable def Ebot (o : Nat) : Nat → Nat → Nat → AV → Mem → Option Res := fun t d m _ S => ev d 78 7 [vR 3 t, vI (nI o), vI (nI m)] [] S
def sgS (K : Nat) : Bool := decide (K = 31) || decide (K = 32)
def sgP (K : Nat) : Bool := decide (K = 33) || decide (K = 34)
def sgE (K : Nat) : Bool := decide (K = 16)
def sgB (K : Nat) : Bool := decide (K = 17)
section CM_
variable {b : Nat → Nat} {n law : Nat}
theorem sgS_e {K : Nat} : sgS K = true ↔ K = 31 ∨ K = 32 := by unfold sgS; rw [Bool.or_eq_true, decide_eq_true_iff, decide_eq_true_iff]
theorem sgP_e {K : Nat} : sgP K = true ↔ K = 33 ∨ K = 34 := by unfold sgP; rw [Bool.or_eq_true, decide_eq_true_iff, decide_eq_true_iff]
theorem sgE_e {K : Nat} : sgE K = true ↔ K = 16 := by unfold sgE; rw [decide_eq_true_iff]
theorem sgB_e {K : Nat} : sgB K = true ↔ K = 17 := by unfold sgB; rw [decide_eq_true_iff]
theorem bfN {x : Bool} {P : Prop} (h : x = true ↔ P) (g : x = false) : ¬ P := fun z => by rw [h.mpr z] at g; cases g
theorem H_sum (o : Nat) : LpH b n law (Esum o) sgS 72 71 o := by
  refine ⟨fun t d S => ⟨vU, B_X3_readSum d t (nI o) S⟩, fun t τ k c m d u S hR hm hs => ⟨vI (nI (tK b n k)), ?_⟩, fun t τ k c m d u S hR hs hm => ?_, fun t τ f p m d u S hX hm => ?_, fun k hs => tK_in (by have := sgS_e.mp hs; omega)⟩
  · unfold Esum
    rcases sgS_e.mp hs with z | z
    · rw [B_X3_readSum_7, if_neg (n300 hm), kr_c hR, bI_s, z, if_pos (show nI 31 = 31 from rfl), kr_c hR, bI_s, z, hR.2.2.2.2.2.1, nI_1, nI_1]
    · rw [B_X3_readSum_7, if_neg (n300 hm), kr_c hR, bI_s, z, if_neg (by decide), kr_c hR, bI_s, z, if_pos (show nI 32 = 32 from rfl), kr_c hR, bI_s, z, hR.2.2.2.2.2.1, nI_1, nI_1]
  · have hl := tK_le b n k
    have hne := bfN sgS_e hs
    unfold Esum
    rw [B_X3_readSum_7, if_neg (n300 hm), kr_c hR, bI_s, if_neg (show ¬ nI (tK b n k) = 31 from nK (y := 31) (by omega) (by decide) (by omega)), kr_c hR, bI_s, if_neg (show ¬ nI (tK b n k) = 32 from nK (y := 32) (by omega) (by decide) (by omega))]
  · unfold Esum
    rw [B_X3_readSum_7]
    by_cases z : (300 : Int32) ≤ nI m
    · rw [if_pos z]
    · rw [if_neg z, kx_c hX, bI_s, if_neg (by decide), kx_c hX, bI_s, if_neg (by decide)]
theorem H_pro (o : Nat) : LpH b n law (Epro o) sgP 73 72 o := by
  refine ⟨fun t d S => ⟨vU, B_X3_readProduct d t (nI o) S⟩, fun t τ k c m d u S hR hm hs => ⟨vI (nI (tK b n k)), ?_⟩, fun t τ k c m d u S hR hs hm => ?_, fun t τ f p m d u S hX hm => ?_, fun k hs => tK_in (by have := sgP_e.mp hs; omega)⟩
  · unfold Epro
    rcases sgP_e.mp hs with z | z
    · rw [B_X3_readProduct_7, if_neg (n300 hm), kr_c hR, bI_s, z, if_pos (show nI 33 = 33 from rfl), kr_c hR, bI_s, z, hR.2.2.2.2.2.1, nI_1, nI_1]
    · rw [B_X3_readProduct_7, if_neg (n300 hm), kr_c hR, bI_s, z, if_neg (by decide), kr_c hR, bI_s, z, if_pos (show nI 34 = 34 from rfl), kr_c hR, bI_s, z, hR.2.2.2.2.2.1, nI_1, nI_1]
  · have hl := tK_le b n k
    have hne := bfN sgP_e hs
    unfold Epro
    rw [B_X3_readProduct_7, if_neg (n300 hm), kr_c hR, bI_s, if_neg (show ¬ nI (tK b n k) = 33 from nK (y := 33) (by omega) (by decide) (by omega)), kr_c hR, bI_s, if_neg (show ¬ nI (tK b n k) = 34 from nK (y := 34) (by omega) (by decide) (by omega))]
  · unfold Epro
    rw [B_X3_readProduct_7]
    by_cases z : (300 : Int32) ≤ nI m
    · rw [if_pos z]
    · rw [if_neg z, kx_c hX, bI_s, if_neg (by decide), kx_c hX, bI_s, if_neg (by decide)]
theorem H_eit (o : Nat) : LpH b n law (Eeit o) sgE 78 77 o := by
  refine ⟨fun t d S => ⟨vU, B_X3_readEither d t (nI o) S⟩, fun t τ k c m d u S hR hm hs => ⟨vU, ?_⟩, fun t τ k c m d u S hR hs hm => ?_, fun t τ f p m d u S hX hm => ?_, fun k hs => tK_in (by have := sgE_e.mp hs; omega)⟩
  · unfold Eeit
    have z := sgE_e.mp hs
    rw [B_X3_readEither_7, if_neg (n300 hm), kr_c hR, bI_s, z, if_pos (show nI 16 = 16 from rfl), hR.2.2.2.2.2.1, nI_1, nI_1]; rfl
  · have hl := tK_le b n k
    have hne := bfN sgE_e hs
    unfold Eeit
    rw [B_X3_readEither_7, if_neg (n300 hm), kr_c hR, bI_s, if_neg (show ¬ nI (tK b n k) = 16 from nK (y := 16) (by omega) (by decide) (by omega))]
  · unfold Eeit
    rw [B_X3_readEither_7]
    by_cases z : (300 : Int32) ≤ nI m
    · rw [if_pos z]
    · rw [if_neg z, kx_c hX, bI_s, if_neg (by decide)]
theorem H_bot (o : Nat) : LpH b n law (Ebot o) sgB 79 78 o := by
  refine ⟨fun t d S => ⟨vU, B_X3_readBoth d t (nI o) S⟩, fun t τ k c m d u S hR hm hs => ⟨vU, ?_⟩, fun t τ k c m d u S hR hs hm => ?_, fun t τ f p m d u S hX hm => ?_, fun k hs => tK_in (by have := sgB_e.mp hs; omega)⟩
  · unfold Ebot
    have z := sgB_e.mp hs
    rw [B_X3_readBoth_7, if_neg (n300 hm), kr_c hR, bI_s, z, if_pos (show nI 17 = 17 from rfl), hR.2.2.2.2.2.1, nI_1, nI_1]; rfl
  · have hl := tK_le b n k
    have hne := bfN sgB_e hs
    unfold Ebot
    rw [B_X3_readBoth_7, if_neg (n300 hm), kr_c hR, bI_s, if_neg (show ¬ nI (tK b n k) = 17 from nK (y := 17) (by omega) (by decide) (by omega))]
  · unfold Ebot
    rw [B_X3_readBoth_7]
    by_cases z : (300 : Int32) ≤ nI m
    · rw [if_pos z]
    · rw [if_neg z, kx_c hX, bI_s, if_neg (by decide)]
/-! asks -/
theorem ak_nr {i o t τ c : Nat} {S : Mem} (hR : CR b n law t τ i c S) (hK : tK b n i = 18) (ho : o < 8) (d : Nat) : cal (d + 2) 79 [vR 3 t, vI (nI o)] S = bV (cal (d + 1) 79 [vR 3 t, vI (nI (o + 1))] (wrI S t 8 (nI (i + 1)))) (fun S5 => bI (cal (d + 1) 90 [vR 5 (ix (rdI S5 t 10)), vI 18, vI 0] S5) (fun _ S6 => some (none, S6))) := by
  rw [B_X3_readAsk, kr_c hR, bI_s, hK, if_pos (show nI 18 = 18 from rfl), ops_c hR ho, bI_s, if_neg (by decide), nI_1]
theorem a_not {i j o h : Nat} {v : Env → Bool} (hK : tK b n i = 18) (ho : o < 8) (hh : h < 64) (hij : i + 1 < j) (H : COk b n law 79 (dO (o + 1) + 3) (o + 1) (i + 1) j h (fun E => b01 (v E))) : COk b n law 79 (dO o + 3) o i j h (fun E => b01 (!(v E))) := by
  intro t τ c S hR hc d hd
  have hd' := dO_s ho
  obtain ⟨d', rfl⟩ : ∃ d', d = d' + 2 := ⟨d - 2, by omega⟩
  have hi := tK_in (i := i) (b := b) (n := n) (by omega)
  have t5 := CR_t5 hR
  have hR1 := CR_at hR (k := i + 1) (by omega)
  obtain ⟨S1, c1, e1, R1, l1, l2, f1, C1⟩ := H t τ c _ hR1 (by omega) (d' + 1) (by omega)
  have hN := CR_i R1
  have fa := FrU_a (c := c1) (a := 18) (v := 0) (S := S1) t5
  obtain ⟨a1, -⟩ := adC_6 S1 τ c1 18 0
  refine ⟨adC S1 τ c1 18 0, c1 + 1, ?_, CR_ad R1, by omega, by omega, FrU_t (FrU_w (c := c) (i := 8) (v := nI (i + 1)) t5 (by omega)) (FrU_t f1 fa (by omega)) (Nat.le_refl _), CD_not (CD_f C1 fa (Nat.le_refl _)) a1 hh⟩
  rw [ak_nr hR hK ho, e1, bV_s, r10 R1, ac_c R1 (by omega), bI_s]
theorem a_notf {i o f k : Nat} (hK : tK b n i = 18) (ho : o < 8) (H : CFa b n law 79 (dO (o + 1) + 3) (o + 1) (i + 1) f k) : CFa b n law 79 (dO o + 3) o i f k := by
  intro t τ c S hR hc d hd
  have hd' := dO_s ho
  obtain ⟨d', rfl⟩ : ∃ d', d = d' + 2 := ⟨d - 2, by omega⟩
  have hi := tK_in (i := i) (b := b) (n := n) (by omega)
  have t5 := CR_t5 hR
  have hR1 := CR_at hR (k := i + 1) (by omega)
  obtain ⟨S1, e1, k1, f1⟩ := H t τ c _ hR1 (by omega) (d' + 1) (by omega)
  obtain ⟨S2, w, e2, k2, f2⟩ := acx_c k1 18 0 (d' + 1)
  refine ⟨S2, ?_, k2, FrU_t (FrU_w (c := 0) (i := 8) (v := nI (i + 1)) t5 (by omega)) (FrU_t f1 f2 (Nat.le_refl _)) (Nat.le_refl _)⟩
  rw [ak_nr hR hK ho, e1, bV_s, x10 k1, e2, bI_s]
theorem a_deep {i o : Nat} (hK : tK b n i = 18) (ho : 8 ≤ o) (ho2 : o < 100) : CFa b n law 79 (dO o + 3) o i 3 i := by
  intro t τ c S hR hc d hd
  obtain ⟨d', rfl⟩ : ∃ d', d = d' + 2 := ⟨d - 2, by unfold dO at hd; omega⟩
  have hN := CR_i hR
  obtain ⟨S1, e1, k1, f1⟩ := opf_c hR (by omega) ho ho2 d'
  refine ⟨S1, ?_, k1, f1⟩
  rw [B_X3_readAsk, kr_c hR, bI_s, hK, if_pos (show nI 18 = 18 from rfl), e1, bI_s, if_pos rfl]
theorem ak_r {i o t τ c : Nat} {S : Mem} (hR : CR b n law t τ i c S) (hK : ¬ tK b n i = 18) (d : Nat) : cal (d + 1) 79 [vR 3 t, vI (nI o)] S = bV (cal d 71 [vR 3 t, vI (nI o)] S) (fun S8 => bI (cal d 65 [vR 3 t] S8) (fun x10 S9 => if x10 < 25 then bV (cal d 66 [vR 3 t, vI 1] S9) (fun S11 => some (none, S11)) else if x10 ≤ 30 then bV (cal d 71 [vR 3 t, vI (nI o)] (wrI S9 t 8 ((rdI S9 t 8) + 1))) (fun S12 => bI (cal d 90 [vR 5 (ix (rdI S12 t 10)), vI x10, vI 0] S12) (fun x14 S13 => some (none, S13))) else bV (cal d 66 [vR 3 t, vI 1] S9) (fun S15 => some (none, S15)))) := by
  have hl := tK_le b n i
  rw [B_X3_readAsk, kr_c hR, bI_s, if_neg (show ¬ nI (tK b n i) = 18 from nK (y := 18) (by omega) (by decide) hK)]
theorem a_f1 {i o f p D : Nat} (hK : ¬ tK b n i = 18) (H : CFa b n law 71 D o i f p) : CFa b n law 79 (D + 1) o i f p := by
  intro t τ c S hR hc d hd
  obtain ⟨d', rfl⟩ : ∃ d', d = d' + 1 := ⟨d - 1, by omega⟩
  obtain ⟨S1, e1, k1, f1⟩ := H t τ c S hR hc d' (by omega)
  obtain ⟨S2, e2, k2, f2⟩ := fx_c k1 1 d'
  refine ⟨S2, ?_, k2, FrU_t f1 f2 (Nat.le_refl _)⟩
  rw [ak_r hR hK, e1, bV_s, kx_c k1, bI_s, if_neg (by decide), if_neg (by decide), e2, bV_s]
theorem a_f2 {i j o h D : Nat} {v : Env → Int} (hK : ¬ tK b n i = 18) (hij : i < j) (hj : ¬ (25 ≤ tK b n j ∧ tK b n j ≤ 30)) (H : COk b n law 71 D o i j h v) : CFa b n law 79 (D + 1) o i 1 j := by
  intro t τ c S hR hc d hd
  obtain ⟨d', rfl⟩ : ∃ d', d = d' + 1 := ⟨d - 1, by omega⟩
  obtain ⟨S1, c1, e1, R1, l1, l2, f1, C1⟩ := H t τ c S hR hc d' (by omega)
  have hN := CR_i R1
  have hl := tK_le b n j
  obtain ⟨S2, e2, k2, f2⟩ := fl_c R1 (f := 1) (by omega) (by decide) (by decide) d'
  have e2' : cal d' 66 [vR 3 t, vI 1] S1 = some (none, S2) := e2
  refine ⟨S2, ?_, k2, FrU_t (FrU_m f1 (Nat.zero_le _)) f2 (Nat.le_refl _)⟩
  rw [ak_r hR hK, e1, bV_s, kr_c R1, bI_s]
  by_cases z : tK b n j < 25
  · rw [if_pos (show nI (tK b n j) < 25 from nI_lt (b := 25) z (by decide)), e2', bV_s]
  · rw [if_neg (show ¬ nI (tK b n j) < 25 from nI_nlt (b := 25) (by omega) (by omega)), if_neg (show ¬ nI (tK b n j) ≤ 30 from nI_ge (a := 30) (by omega) (by omega)), e2', bV_s]
theorem a_f3 {i j o h f p D : Nat} {v : Env → Int} (hK : ¬ tK b n i = 18) (hij : i < j) (hj : 25 ≤ tK b n j ∧ tK b n j ≤ 30) (H : COk b n law 71 D o i j h v) (H2 : CFa b n law 71 D o (j + 1) f p) : CFa b n law 79 (D + 1) o i f p := by
  intro t τ c S hR hc d hd
  obtain ⟨d', rfl⟩ : ∃ d', d = d' + 1 := ⟨d - 1, by omega⟩
  obtain ⟨S1, c1, e1, R1, l1, l2, f1, C1⟩ := H t τ c S hR hc d' (by omega)
  have hN := CR_i R1
  have hl := tK_le b n j
  have t5 := CR_t5 hR
  have hj' := tK_in (i := j) (b := b) (n := n) (by omega)
  have hR1 := CR_at R1 (k := j + 1) (by omega)
  obtain ⟨S2, e2, k2, f2⟩ := H2 t τ c1 _ hR1 (by omega) d' (by omega)
  obtain ⟨S3, w, e3, k3, f3⟩ := acx_c k2 (nI (tK b n j)) 0 d'
  refine ⟨S3, ?_, k3, FrU_t (FrU_m f1 (Nat.zero_le _)) (FrU_t (FrU_w (c := 0) (i := 8) (v := nI (j + 1)) t5 (by omega)) (FrU_t f2 f3 (Nat.le_refl _)) (Nat.le_refl _)) (Nat.le_refl _)⟩
  rw [ak_r hR hK, e1, bV_s, kr_c R1, bI_s, if_neg (show ¬ nI (tK b n j) < 25 from nI_nlt (b := 25) hj.1 (by omega)), if_pos (show nI (tK b n j) ≤ 30 from nI_le (b := 30) hj.2 (by decide)), R1.2.2.2.2.2.1, nI_1, e2, bV_s, x10 k2, e3, bI_s]
theorem a_ok {i j j2 o h D : Nat} {v w : Env → Int} (hK : ¬ tK b n i = 18) (hij : i < j) (hj2 : j + 1 < j2) (hj : 25 ≤ tK b n j ∧ tK b n j ≤ 30) (hh : h + 1 < 64) (H : COk b n law 71 D o i j h v) (H2 : COk b n law 71 D o (j + 1) j2 (h + 1) w) : COk b n law 79 (D + 1) o i j2 h (fun E => b01 (cop (tK b n j) (v E) (w E))) := by
  intro t τ c S hR hc d hd
  obtain ⟨d', rfl⟩ : ∃ d', d = d' + 1 := ⟨d - 1, by omega⟩
  obtain ⟨S1, c1, e1, R1, l1, l2, f1, C1⟩ := H t τ c S hR hc d' (by omega)
  have hN := CR_i R1
  have t5 := CR_t5 hR
  have hj' := tK_in (i := j) (b := b) (n := n) (by omega)
  have hR1 := CR_at R1 (k := j + 1) (by omega)
  obtain ⟨S2, c2, e2, R2, m1, m2, f2, C2⟩ := H2 t τ c1 _ hR1 (by omega) d' (by omega)
  have hN2 := CR_i R2
  have fa := FrU_a (c := c2) (a := nI (tK b n j)) (v := 0) (S := S2) t5
  obtain ⟨a1, -⟩ := adC_6 S2 τ c2 (nI (tK b n j)) 0
  have fw := FrU_w (c := c1) (i := 8) (v := nI (j + 1)) (S := S1) t5 (by omega)
  have f12 := FrU_t fw f2 (Nat.le_refl _)
  refine ⟨adC S2 τ c2 (nI (tK b n j)) 0, c2 + 1, ?_, CR_ad R2, by omega, by omega, FrU_t f1 (FrU_t f12 fa (by omega)) (by omega), CD_cop (CD_f (CD_f C1 f12 (Nat.le_refl _)) fa (by omega)) (CD_f C2 fa (Nat.le_refl _)) hh a1 (by omega)⟩
  rw [ak_r hR hK, e1, bV_s, kr_c R1, bI_s, if_neg (show ¬ nI (tK b n j) < 25 from nI_nlt (b := 25) hj.1 (by omega)), if_pos (show nI (tK b n j) ≤ 30 from nI_le (b := 30) hj.2 (by decide)), R1.2.2.2.2.2.1, nI_1, e2, bV_s, r10 R2, ac_c R2 (by omega), bI_s]
/-! choices -/
theorem jh_c {t τ i c p : Nat} {S : Mem} (hR : CR b n law t τ i c S) (hp : p < 300) (d : Nat) : cal d 91 [vR 5 τ, vI (nI p)] S = some (none, wrI S (τ + 7) p (nI c)) := by
  rw [B_X5_jumpHereFrom, if_neg (nI_pos (by omega)), if_neg (n300 hp), i300 hp, gd_t, ix_nI (by omega), hR.2.2.2.2.2.2.2.2.2.2.2.2]
theorem jh_R {t τ i c p : Nat} {v : Int32} {S : Mem} (hR : CR b n law t τ i c S) : CR b n law t τ i c (wrI S (τ + 7) p v) := by
  obtain ⟨h1, h2, h3, h4, h5, h6, h7, h8, h9, h10, h11, h12, h13⟩ := hR
  have f : FrU t τ 0 S (wrI S (τ + 7) p v) := ⟨fun q a => funext fun x => by rw [rdI_wrI, if_neg (by omega)], fun j a => by rw [rdI_wrI, if_neg (by omega)], fun j a => by rw [rdI_wrI, if_neg (by omega)], fun y hy => absurd hy (Nat.not_lt_zero _), rfl⟩
  refine ⟨TkS_U h1 f h12, h2, ?_, ?_, ?_, ?_, h7, ?_, h9, ?_, h11, h12, ?_⟩
  · rw [rdI_wrI, if_neg (by omega)]; exact h3
  · rw [rdI_wrI, if_neg (by omega)]; exact h4
  · rw [rdI_wrI, if_neg (by omega)]; exact h5
  · rw [rdI_wrI, if_neg (by omega)]; exact h6
  · rw [rdI_wrI, if_neg (by omega)]; exact h8
  · rw [rdI_wrI, if_neg (by omega)]; exact h10
  · rw [rdI_wrI, if_neg (by omega)]; exact h13
theorem jh_F {t τ c p : Nat} {v : Int32} {S : Mem} (t5 : t + 5 ≤ τ) (hp : c ≤ p) : FrU t τ c S (wrI S (τ + 7) p v) := ⟨fun q a => funext fun x => by rw [rdI_wrI, if_neg (by omega)], fun j a => by rw [rdI_wrI, if_neg (by omega)], fun j a => by rw [rdI_wrI, if_neg (by omega)], fun y hy => ⟨by rw [rdI_wrI, if_neg (by omega)], by rw [rdI_wrI, if_neg (by omega)]⟩, rfl⟩
/-- a choice from the stage of `then' on, behind a fault -/
theorem ch_x4 {t τ f p : Nat} {S : Mem} (o x8 : Int32) (h : CX b n t τ f p S) (d : Nat) : ∃ S', bV (cal (d + 4) 71 [vR 3 t, vI o] S) (fun S10 => bV (cal (d + 4) 67 [vR 3 t, vI 15] S10) (fun S11 => bV (cal (d + 4) 91 [vR 5 (ix (rdI S11 t 10)), vI x8] S11) (fun S12 => some (none, S12)))) = some (none, S') ∧ CX b n t τ f p S' ∧ FrU t τ 0 S S' := by
  obtain ⟨S1, e1, k1, f1⟩ := sx_c h o d
  obtain ⟨S2, e2, k2, f2⟩ := tkx_c (K := 15) k1 (by decide) (by decide) (d + 3)
  have e2' : cal (d + 4) 67 [vR 3 t, vI 15] S1 = some (none, S2) := e2
  obtain ⟨S3, e3, k3, f3⟩ := jx_c k2 x8 (d + 4)
  exact ⟨S3, by rw [e1, bV_s, e2', bV_s, x10 k2, e3, bV_s], k3, FrU_t f1 (FrU_t f2 f3 (Nat.le_refl _)) (Nat.le_refl _)⟩
theorem ch_x5 {t τ f p : Nat} {S : Mem} (x8 : Int32) (h : CX b n t τ f p S) (d : Nat) : ∃ S', bV (cal (d + 4) 67 [vR 3 t, vI 15] S) (fun S11 => bV (cal (d + 4) 91 [vR 5 (ix (rdI S11 t 10)), vI x8] S11) (fun S12 => some (none, S12))) = some (none, S') ∧ CX b n t τ f p S' ∧ FrU t τ 0 S S' := by
  obtain ⟨S2, e2, k2, f2⟩ := tkx_c (K := 15) h (by decide) (by decide) (d + 3)
  have e2' : cal (d + 4) 67 [vR 3 t, vI 15] S = some (none, S2) := e2
  obtain ⟨S3, e3, k3, f3⟩ := jx_c k2 x8 (d + 4)
  exact ⟨S3, by rw [e2', bV_s, x10 k2, e3, bV_s], k3, FrU_t f2 f3 (Nat.le_refl _)⟩
theorem ch_x3 {t τ f p : Nat} {S : Mem} (o x4 : Int32) (h : CX b n t τ f p S) (d : Nat) : ∃ S', bI (cal (d + 4) 90 [vR 5 (ix (rdI S t 10)), vI 42, vI 0] S) (fun x8 S7 => bV (cal (d + 4) 91 [vR 5 (ix (rdI S7 t 10)), vI x4] S7) (fun S9 => bV (cal (d + 4) 71 [vR 3 t, vI o] S9) (fun S10 => bV (cal (d + 4) 67 [vR 3 t, vI 15] S10) (fun S11 => bV (cal (d + 4) 91 [vR 5 (ix (rdI S11 t 10)), vI x8] S11) (fun S12 => some (none, S12)))))) = some (none, S') ∧ CX b n t τ f p S' ∧ FrU t τ 0 S S' := by
  obtain ⟨S1, w, e1, k1, f1⟩ := acx_c h 42 0 (d + 4)
  obtain ⟨S2, e2, k2, f2⟩ := jx_c k1 x4 (d + 4)
  obtain ⟨S3, e3, k3, f3⟩ := ch_x4 o w k2 d
  exact ⟨S3, by rw [x10 h, e1, bI_s, x10 k1, e2, bV_s]; exact e3, k3, FrU_t f1 (FrU_t f2 f3 (Nat.le_refl _)) (Nat.le_refl _)⟩
theorem ch_x2 {t τ f p : Nat} {S : Mem} (o x4 : Int32) (h : CX b n t τ f p S) (d : Nat) : ∃ S', bV (cal (d + 4) 67 [vR 3 t, vI 14] S) (fun S6 => bI (cal (d + 4) 90 [vR 5 (ix (rdI S6 t 10)), vI 42, vI 0] S6) (fun x8 S7 => bV (cal (d + 4) 91 [vR 5 (ix (rdI S7 t 10)), vI x4] S7) (fun S9 => bV (cal (d + 4) 71 [vR 3 t, vI o] S9) (fun S10 => bV (cal (d + 4) 67 [vR 3 t, vI 15] S10) (fun S11 => bV (cal (d + 4) 91 [vR 5 (ix (rdI S11 t 10)), vI x8] S11) (fun S12 => some (none, S12))))))) = some (none, S') ∧ CX b n t τ f p S' ∧ FrU t τ 0 S S' := by
  obtain ⟨S2, e2, k2, f2⟩ := tkx_c (K := 14) h (by decide) (by decide) (d + 3)
  have e2' : cal (d + 4) 67 [vR 3 t, vI 14] S = some (none, S2) := e2
  obtain ⟨S3, e3, k3, f3⟩ := ch_x3 o x4 k2 d
  exact ⟨S3, by rw [e2', bV_s]; exact e3, k3, FrU_t f2 f3 (Nat.le_refl _)⟩
theorem ch_x1 {t τ f p : Nat} {S : Mem} (o : Int32) (h : CX b n t τ f p S) (d : Nat) : ∃ S', bI (cal (d + 4) 90 [vR 5 (ix (rdI S t 10)), vI 43, vI 0] S) (fun x4 S3 => bV (cal (d + 4) 71 [vR 3 t, vI o] S3) (fun S5 => bV (cal (d + 4) 67 [vR 3 t, vI 14] S5) (fun S6 => bI (cal (d + 4) 90 [vR 5 (ix (rdI S6 t 10)), vI 42, vI 0] S6) (fun x8 S7 => bV (cal (d + 4) 91 [vR 5 (ix (rdI S7 t 10)), vI x4] S7) (fun S9 => bV (cal (d + 4) 71 [vR 3 t, vI o] S9) (fun S10 => bV (cal (d + 4) 67 [vR 3 t, vI 15] S10) (fun S11 => bV (cal (d + 4) 91 [vR 5 (ix (rdI S11 t 10)), vI x8] S11) (fun S12 => some (none, S12))))))))) = some (none, S') ∧ CX b n t τ f p S' ∧ FrU t τ 0 S S' := by
  obtain ⟨S1, w, e1, k1, f1⟩ := acx_c h 43 0 (d + 4)
  obtain ⟨S2, e2, k2, f2⟩ := sx_c k1 o d
  obtain ⟨S3, e3, k3, f3⟩ := ch_x2 o w k2 d
  exact ⟨S3, by rw [x10 h, e1, bI_s, e2, bV_s]; exact e3, k3, FrU_t f1 (FrU_t f2 f3 (Nat.le_refl _)) (Nat.le_refl _)⟩
theorem ch_f0 {i o f p D : Nat} (hD : 4 ≤ D) (H : CFa b n law 77 D o i f p) : CFa b n law 76 (D + 1) o i f p := by
  intro t τ c S hR hc d hd
  obtain ⟨d', rfl⟩ : ∃ d', d = d' + 4 + 1 := ⟨d - 5, by omega⟩
  obtain ⟨S1, e1, k1, f1⟩ := H t τ c S hR hc (d' + 4) (by omega)
  obtain ⟨S2, e2, k2, f2⟩ := tkx_c (K := 13) k1 (by decide) (by decide) (d' + 3)
  have e2' : cal (d' + 4) 67 [vR 3 t, vI 13] S1 = some (none, S2) := e2
  obtain ⟨S3, e3, k3, f3⟩ := ch_x1 (nI o) k2 d'
  exact ⟨S3, by rw [B_X3_readChoice, e1, bV_s, e2', bV_s]; exact e3, k3, FrU_t f1 (FrU_t f2 f3 (Nat.le_refl _)) (Nat.le_refl _)⟩
theorem ch_f1 {i j o h D : Nat} {v : Env → Int} (hD : 4 ≤ D) (hij : i < j) (hj : ¬ tK b n j = 13) (H : COk b n law 77 D o i j h v) : CFa b n law 76 (D + 1) o i 1 j := by
  intro t τ c S hR hc d hd
  obtain ⟨d', rfl⟩ : ∃ d', d = d' + 4 + 1 := ⟨d - 5, by omega⟩
  obtain ⟨S1, c1, e1, R1, l1, l2, f1, C1⟩ := H t τ c S hR hc (d' + 4) (by omega)
  have hN := CR_i R1
  obtain ⟨S2, e2, k2, f2⟩ := tkf_c (K := 13) R1 (by omega) hj (by decide) (d' + 3)
  have e2' : cal (d' + 4) 67 [vR 3 t, vI 13] S1 = some (none, S2) := e2
  obtain ⟨S3, e3, k3, f3⟩ := ch_x1 (nI o) k2 d'
  exact ⟨S3, by rw [B_X3_readChoice, e1, bV_s, e2', bV_s]; exact e3, k3, FrU_t (FrU_m f1 (Nat.zero_le _)) (FrU_t f2 f3 (Nat.le_refl _)) (Nat.le_refl _)⟩
end CM_
