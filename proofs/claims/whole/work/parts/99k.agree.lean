/-! class and reference read alike -/
theorem COk_le {b : Nat → Nat} {n law mid D D' o i j h h' : Nat} {v : Env → Int} (H : COk b n law mid D o i j h v) (hD : D ≤ D') (hh : h' ≤ h) : COk b n law mid D' o i j h' v := fun t τ c S hR hc d hd => by
  obtain ⟨S', c', e, R, l1, l2, f, C⟩ := H t τ c S hR hc d (by omega)
  exact ⟨S', c', e, R, l1, l2, f, CD_le C hh⟩
theorem CFa_le {b : Nat → Nat} {n law mid D D' o i f k : Nat} (H : CFa b n law mid D o i f k) (hD : D ≤ D') : CFa b n law mid D' o i f k := fun t τ c S hR hc d hd => H t τ c S hR hc d (by omega)
/-- how one part is read: both alike -/
def Oc (b : Nat → Nat) (n law mid D o i h : Nat) (Dr : DTy) (Cx : List Nat → Prop) (R : List Nat → List Nat → Prop) (qb ρ : Nat) (En : Nat → Prop) (Vu : (Env → Int) → Prop) : Prop := (∃ j v, i < j ∧ j ≤ tN b n ∧ En j ∧ Vu v ∧ COk b n law mid D o i j h v ∧ RPn b n law Dr Cx R qb ρ o i j v) ∨ (∃ f k, CFa b n law mid D o i f k ∧ RFk b n law Cx o i f k)
section AG_
variable {b : Nat → Nat} {n law : Nat} {E : Nat → Nat → Nat → AV → Mem → Option Res} {sg : Nat → Bool} {callee mid o : Nat} {Dr : DTy} {Cx : List Nat → Prop} {Cc : Nat → List Nat → Prop} {Rc R : List Nat → List Nat → Prop} {opa : Nat → Nat} {qc ρ ρc D h i : Nat} {En : Nat → Prop} {Vu : (Env → Int) → Prop}
theorem lp_all (HC : LpH b n law E sg callee mid o) (HR : RLH b n Cx Cc Rc R sg opa qc ρ) (hρ : ρ ≤ ρc) (hDF : DFr Dr) (hcb : ∀ K v u, sg K = true → Vu v → Vu u → ∃ cb, Vu cb ∧ (∀ (cd nb : Nat → Int32) (x y y2 : Nat), CD (alL law) cd nb x y h v → CD (alL law) cd nb y y2 (h + 1) u → cd y2 = nI K → CD (alL law) cd nb x (y2 + 1) h cb) ∧ ∀ (co vl : Nat → Int32) (x y y2 : Nat), Dr (alL law) co vl x y v → Dr (alL law) co vl y y2 u → co y2 = nI (opa K) → Dr (alL law) co vl x (y2 + 1) cb) (hcg : ∀ K u, sg K = true → Vu u → ∀ v, ∃ cb : Env → Int, ∀ (co vl : Nat → Int32) (x y y2 : Nat), Dr (alL law) co vl x y v → Dr (alL law) co vl y y2 u → co y2 = nI (opa K) → Dr (alL law) co vl x (y2 + 1) cb) (hO : ∀ k, i < k → k ≤ tN b n → Oc b n law callee D o k (h + 1) Dr (Cc k) Rc qc ρc En Vu) : ∀ m k v, tN b n - k < m → i < k + 1 → k ≤ tN b n → En k → Vu v → (∃ j z, k ≤ j ∧ j ≤ tN b n ∧ En j ∧ sg (tK b n j) = false ∧ Vu z ∧ LOk b n law E (D + 1) k j h v z ∧ RLk b n law Dr Cx R (qc + 1) ρ o k j v z) ∨ (∃ f p, LFa b n law E (D + 1) k f p ∧ RLf b n law Dr Cx R (qc + 1) ρ o k f p) := by
  intro m
  induction m with
  | zero => intro k v hm; omega
  | succ m ih =>
    intro k v hm hik hk hEn hV
    cases hs : sg (tK b n k)
    · exact Or.inl ⟨k, v, Nat.le_refl _, hk, hEn, hs, hV, L_stop HC (by omega) hs, RL_stop⟩
    · have hkl := HC.2.2.2.2 k hs
      rcases hO (k + 1) (by omega) (by omega) with ⟨j, u, h1, h2, h3, h4, h5, h6⟩ | ⟨f, p, h5, h6⟩
      · obtain ⟨cb, hVc, hc1, hc2⟩ := hcb _ v u hs hV h4
        rcases ih j cb (by omega) (by omega) h2 h3 hVc with ⟨j2, z, k1, k2, k3, k4, k5, k6, k7⟩ | ⟨f, p, k6, k7⟩
        · exact Or.inl ⟨j2, z, by omega, k2, k3, k4, k5, L_step HC hs (by omega) h5 k6 hc1 k1, RL_step HR hρ hDF hs (by omega) h6 k7 hc2⟩
        · exact Or.inr ⟨f, p, L_stepG HC hs (by omega) h5 k6, RL_stepG HR hρ hDF hs (by omega) h6 k7 (hcg _ u hs h4)⟩
      · exact Or.inr ⟨f, p, L_stepF HC hs h5, RL_stepF HR hs h6⟩
theorem lv_all (HC : LpH b n law E sg callee mid o) (HR : RLH b n Cx Cc Rc R sg opa qc ρ) (hρ : ρ ≤ ρc) (hDF : DFr Dr) (hCx : ∀ L, Cx L → Cc i L) (hcb : ∀ K v u, sg K = true → Vu v → Vu u → ∃ cb, Vu cb ∧ (∀ (cd nb : Nat → Int32) (x y y2 : Nat), CD (alL law) cd nb x y h v → CD (alL law) cd nb y y2 (h + 1) u → cd y2 = nI K → CD (alL law) cd nb x (y2 + 1) h cb) ∧ ∀ (co vl : Nat → Int32) (x y y2 : Nat), Dr (alL law) co vl x y v → Dr (alL law) co vl y y2 u → co y2 = nI (opa K) → Dr (alL law) co vl x (y2 + 1) cb) (hcg : ∀ K u, sg K = true → Vu u → ∀ v, ∃ cb : Env → Int, ∀ (co vl : Nat → Int32) (x y y2 : Nat), Dr (alL law) co vl x y v → Dr (alL law) co vl y y2 u → co y2 = nI (opa K) → Dr (alL law) co vl x (y2 + 1) cb) (hO : ∀ k, i < k + 1 → (i < k → k ≤ tN b n) → Oc b n law callee D o k (h + 1) Dr (Cc k) Rc qc ρc En Vu) : Oc b n law mid (D + 1) o i h Dr Cx R (qc + 1) ρ (fun j => En j ∧ sg (tK b n j) = false) Vu := by
  rcases hO i (by omega) (fun z => absurd z (Nat.lt_irrefl _)) with ⟨j, v, h1, h2, h3, h4, h5, h6⟩ | ⟨f, p, h5, h6⟩
  · rcases lp_all (i := i) (h := h) (mid := mid) HC HR hρ hDF hcb hcg (fun k a1 a2 => hO k (by omega) (fun _ => a2)) (tN b n - j + 1) j v (by omega) (by omega) h2 h3 h4 with ⟨j2, z, k1, k2, k3, k4, k5, k6, k7⟩ | ⟨f, p, k6, k7⟩
    · exact Or.inl ⟨j2, z, by omega, k2, ⟨k3, k4⟩, k5, X_ok HC h1 k1 (COk_le h5 (Nat.le_refl _) (by omega)) k6, RX_ok HR hρ hCx h6 k7⟩
    · exact Or.inr ⟨f, p, X_g HC h1 h5 k6, RX_g HR hρ hCx h6 k7⟩
  · exact Or.inr ⟨f, p, X_f HC h5, RX_f hCx h6⟩
end AG_
def Vi : (Env → Int) → Prop := fun _ => True
def Vb : (Env → Int) → Prop := fun v => ∃ w : Env → Bool, v = fun E => b01 (w E)
section AH_
variable {b : Nat → Nat} {n law : Nat}
def P1 (b : Nat → Nat) (n law o i : Nat) : Prop := (∃ j v, i < j ∧ j ≤ tN b n ∧ COk b n law 73 (dO o) o i j (5 * o + 5) v ∧ ROne b n law o i j v) ∨ (∃ f k, CFa b n law 73 (dO o) o i f k ∧ RFk b n law (CxO b n o i) o i f k)
def PP (b : Nat → Nat) (n law o i : Nat) : Prop := Oc b n law 72 (dO o + 1) o i (5 * o + 4) RDz (CxP b n o i) Ri 1 6 (fun j => True ∧ sgP (tK b n j) = false) Vi
def EnS (b : Nat → Nat) (n : Nat) : Nat → Prop := fun j => (True ∧ sgP (tK b n j) = false) ∧ sgS (tK b n j) = false
def PS (b : Nat → Nat) (n law o i : Nat) : Prop := Oc b n law 71 (dO o + 2) o i (5 * o + 3) RDz (CxS b n o i) Ri 2 5 (EnS b n) Vi
def PA (b : Nat → Nat) (n law o i : Nat) : Prop := Oc b n law 79 (dO o + 3) o i (5 * o + 2) RBz (CxA o) Ra (3 + (8 - o)) 3 (EnS b n) Vb
def PB (b : Nat → Nat) (n law o i : Nat) : Prop := Oc b n law 78 (dO o + 4) o i (5 * o + 1) RBz (CxB o) Ra (3 + (8 - o) + 1) 2 (fun j => EnS b n j ∧ sgB (tK b n j) = false) Vb
def PE (b : Nat → Nat) (n law o i : Nat) : Prop := Oc b n law 77 (dO o + 5) o i (5 * o) RBz (CxE o) Ra (3 + (8 - o) + 1 + 1) 1 (fun j => (EnS b n j ∧ sgB (tK b n j) = false) ∧ sgE (tK b n j) = false) Vb
def PC (b : Nat → Nat) (n law o i : Nat) : Prop := (∃ j v, i < j ∧ j ≤ tN b n ∧ COk b n law 76 (dO (o + 1) + 6) (o + 1) i j (5 * o + 5) v ∧ RCh b n law o i j v) ∨ (∃ f k, CFa b n law 76 (dO (o + 1) + 6) (o + 1) i f k ∧ RFk b n law (CxC o) (o + 1) i f k)
theorem EnS_n {j : Nat} (h : EnS b n j) : ¬ (31 ≤ tK b n j ∧ tK b n j ≤ 34) := by
  have h1 := bfN sgP_e h.1.2
  have h2 := bfN sgS_e h.2
  omega
theorem cbI_ {sg : Nat → Bool} {h : Nat} (hsg : ∀ K, sg K = true → K = 31 ∨ K = 32 ∨ K = 33 ∨ K = 34) (hh : h + 1 < 64) : ∀ K v u, sg K = true → Vi v → Vi u → ∃ cb, Vi cb ∧ (∀ (cd nb : Nat → Int32) (x y y2 : Nat), CD (alL law) cd nb x y h v → CD (alL law) cd nb y y2 (h + 1) u → cd y2 = nI K → CD (alL law) cd nb x (y2 + 1) h cb) ∧ ∀ (co vl : Nat → Int32) (x y y2 : Nat), RDz (alL law) co vl x y v → RDz (alL law) co vl y y2 u → co y2 = nI (opP K) → RDz (alL law) co vl x (y2 + 1) cb := fun K v u hs _ _ => by
  have hK := hsg K hs
  exact ⟨fun E => bop K (v E) (u E), trivial, fun cd nb x y y2 C1 C2 c => CD_bop C1 C2 hh c hK, fun co vl x y y2 C1 C2 c => RD_bop (o := opP K) C1 C2 (by unfold opP; omega) c⟩
theorem cgI_ {sg : Nat → Bool} (hsg : ∀ K, sg K = true → K = 31 ∨ K = 32 ∨ K = 33 ∨ K = 34) : ∀ K u, sg K = true → Vi u → ∀ v, ∃ cb : Env → Int, ∀ (co vl : Nat → Int32) (x y y2 : Nat), RDz (alL law) co vl x y v → RDz (alL law) co vl y y2 u → co y2 = nI (opP K) → RDz (alL law) co vl x (y2 + 1) cb := fun K u hs _ v => by
  have hK := hsg K hs
  exact ⟨fun E => bop K (v E) (u E), fun co vl x y y2 C1 C2 c => RD_bop (o := opP K) C1 C2 (by unfold opP; omega) c⟩
theorem opB_e {K : Nat} (hK : K = 16 ∨ K = 17) : (opB_ K = 21 ∧ K = 17) ∨ (opB_ K = 22 ∧ K = 16) := by
  rcases hK with z | z
  · rw [z]; exact Or.inr ⟨rfl, rfl⟩
  · rw [z]; exact Or.inl ⟨rfl, rfl⟩
theorem cbB_ {sg : Nat → Bool} {h : Nat} (hsg : ∀ K, sg K = true → K = 16 ∨ K = 17) (hh : h + 1 < 64) : ∀ K v u, sg K = true → Vb v → Vb u → ∃ cb, Vb cb ∧ (∀ (cd nb : Nat → Int32) (x y y2 : Nat), CD (alL law) cd nb x y h v → CD (alL law) cd nb y y2 (h + 1) u → cd y2 = nI K → CD (alL law) cd nb x (y2 + 1) h cb) ∧ ∀ (co vl : Nat → Int32) (x y y2 : Nat), RBz (alL law) co vl x y v → RBz (alL law) co vl y y2 u → co y2 = nI (opB_ K) → RBz (alL law) co vl x (y2 + 1) cb := fun K v u hs hv hu => by
  have hK := hsg K hs
  obtain ⟨v', rfl⟩ := hv
  obtain ⟨u', rfl⟩ := hu
  exact ⟨fun E => b01 (bbo K (v' E) (u' E)), ⟨fun E => bbo K (v' E) (u' E), rfl⟩, fun cd nb x y y2 C1 C2 c => CD_bbo C1 C2 hh c hK, fun co vl x y y2 C1 C2 c => RBz_b.mpr (RB_bbo (RBz_b.mp C1) (RBz_b.mp C2) (opB_e hK) c)⟩
theorem cgB_ {sg : Nat → Bool} (hsg : ∀ K, sg K = true → K = 16 ∨ K = 17) : ∀ K u, sg K = true → Vb u → ∀ v, ∃ cb : Env → Int, ∀ (co vl : Nat → Int32) (x y y2 : Nat), RBz (alL law) co vl x y v → RBz (alL law) co vl y y2 u → co y2 = nI (opB_ K) → RBz (alL law) co vl x (y2 + 1) cb := fun K u hs hu v => by
  have hK := hsg K hs
  obtain ⟨u', rfl⟩ := hu
  exact ⟨fun E => b01 (bbo K (decide (v E = 1)) (u' E)), fun co vl x y y2 C1 C2 c => RBz_b.mpr (RB_bbo (show RB (alL law) co vl x y (fun E => decide (v E = 1)) from C1) (RBz_b.mp C2) (opB_e hK) c)⟩
/-- all that begins behind i is read alike -/
def Lat (b : Nat → Nat) (n law i : Nat) : Prop := ∀ k, i < k → k ≤ tN b n → ∀ o, o ≤ 8 → P1 b n law o k ∧ PP b n law o k ∧ PS b n law o k ∧ PA b n law o k ∧ PB b n law o k ∧ (o < 8 → PC b n law o k)
theorem p1_all {i : Nat} (H : Lat b n law i) : ∀ o, o ≤ 8 → P1 b n law o i := fun o ho => by
  have hle := tK_le b n i
  by_cases k38 : tK b n i = 38
  · have hi := tK_in (b := b) (n := n) (i := i) (by omega)
    by_cases hv : tV b n i ≤ 9999
    · exact Or.inl ⟨i + 1, _, by omega, by omega, c1_num (by omega) k38 hv, r1_num k38 hv⟩
    · exact Or.inr ⟨2, i, c1_numf k38 hv, r1_numf k38 hv⟩
  by_cases knm : 19 ≤ tK b n i ∧ tK b n i ≤ 24
  · have hi := tK_in (b := b) (n := n) (i := i) (by omega)
    cases hal : alL law (tK b n i - 19)
    · exact Or.inr ⟨5, i, c1_namef knm hal, r1_namef knm hal⟩
    · exact Or.inl ⟨i + 1, _, by omega, by omega, c1_name (by omega) knm hal, r1_name knm hal⟩
  by_cases kop : tK b n i = 10 ∨ tK b n i = 11 ∨ tK b n i = 12 ∨ tK b n i = 32 ∨ tK b n i = 35
  · have hi := tK_in (b := b) (n := n) (i := i) (by omega)
    by_cases ho8 : o = 8
    · exact Or.inr ⟨3, i, c1_deep kop (by omega) (by omega), r1_deep kop ho8⟩
    · obtain ⟨hP1, -, hPS, -, -, -⟩ := H (i + 1) (by omega) (by omega) (o + 1) (by omega)
      obtain ⟨-, -, -, -, -, hPC⟩ := H (i + 1) (by omega) (by omega) o ho
      by_cases kun : tK b n i = 10 ∨ tK b n i = 11 ∨ tK b n i = 32
      · obtain ⟨q, a, hq, ha⟩ : ∃ q a, ((tK b n i = 10 ∧ q = 10) ∨ (tK b n i = 11 ∧ q = 11) ∨ (tK b n i = 32 ∧ q = 41)) ∧ ((tK b n i = 10 ∧ q = 10 ∧ a = 2) ∨ (tK b n i = 11 ∧ q = 11 ∧ a = 4) ∨ (tK b n i = 32 ∧ q = 41 ∧ a = 5)) := by
          rcases kun with z | z | z
          · exact ⟨10, 2, Or.inl ⟨z, rfl⟩, Or.inl ⟨z, rfl, rfl⟩⟩
          · exact ⟨11, 4, Or.inr (Or.inl ⟨z, rfl⟩), Or.inr (Or.inl ⟨z, rfl, rfl⟩)⟩
          · exact ⟨41, 5, Or.inr (Or.inr ⟨z, rfl⟩), Or.inr (Or.inr ⟨z, rfl, rfl⟩)⟩
        rcases hP1 with ⟨j, v, h1, h2, h3, h4⟩ | ⟨f, k, h3, h4⟩
        · exact Or.inl ⟨j, _, by omega, h2, c1_un hq (by omega) (by omega) h1 (COk_le h3 (Nat.le_refl _) (by omega)), r1_un ha (by omega) h4⟩
        · exact Or.inr ⟨f, k, c1_unf hq (by omega) h3, r1_unf ha (by omega) h4⟩
      · by_cases k35 : tK b n i = 35
        · rcases hPS with ⟨j, v, h1, h2, h3, -, h4, h5⟩ | ⟨f, k, h4, h5⟩
          · by_cases kj : tK b n j = 36
            · have hj := tK_in (b := b) (n := n) (i := j) (by omega)
              exact Or.inl ⟨j + 1, v, by omega, by omega, c1_pa k35 (by omega) h1 kj (COk_le h4 (Nat.le_refl _) (by omega)), r1_pa k35 (by omega) kj h5⟩
            · exact Or.inr ⟨1, j, c1_pag k35 (by omega) h1 kj h4, r1_pag k35 (by omega) kj (EnS_n h3) h5⟩
          · exact Or.inr ⟨f, k, c1_paf k35 (by omega) h4, r1_paf k35 (by omega) h5⟩
        · have k12 : tK b n i = 12 := by omega
          rcases hPC (by omega) with ⟨j, v, h1, h2, h3, h4⟩ | ⟨f, k, h3, h4⟩
          · exact Or.inl ⟨j, v, by omega, h2, c1_if k12 (by omega) h1 h3, r1_if k12 (by omega) h4⟩
          · exact Or.inr ⟨f, k, c1_iff k12 (by omega) h3, r1_iff k12 (by omega) h4⟩
  · exact Or.inr ⟨1, i, c1_bad (by omega) (by omega), r1_bad (by omega) (by omega)⟩
theorem p1_Oc {o i : Nat} (h : P1 b n law o i) : Oc b n law 73 (dO o) o i (5 * o + 4 + 1) RDz (fun L => CxO b n o i L ∧ tpR L < 7) Ri 0 7 (fun _ => True) Vi := by
  rcases h with ⟨j, v, h1, h2, h3, h4⟩ | ⟨f, k, h3, h4⟩
  · exact Or.inl ⟨j, v, h1, h2, trivial, trivial, h3, R1_O h4⟩
  · exact Or.inr ⟨f, k, h3, RFk_m (fun _ hC => hC.1) h4⟩
theorem pp_all {i : Nat} (H : Lat b n law i) (o : Nat) (ho : o ≤ 8) : PP b n law o i :=
  lv_all (ρc := 7) (E := Epro o) (callee := 73) (mid := 72) (Cc := fun k L => CxO b n o k L ∧ tpR L < 7) (Rc := Ri) (En := fun _ => True) (H_pro o) (R_pro o i) (by decide) DFr_D (fun L hC => ⟨⟨by have := hC.1; omega, hC.2.1, hC.2.2.2⟩, by have := hC.2.2.1; omega⟩) (cbI_ (fun K hs => by have := sgP_e.mp hs; omega) (by omega)) (cgI_ (fun K hs => by have := sgP_e.mp hs; omega)) (fun k h1 h2 => p1_Oc (by
    by_cases z : i < k
    · exact (H k z (h2 z) o ho).1
    · rw [show k = i by omega]; exact p1_all H o ho))
theorem ps_all {i : Nat} (H : Lat b n law i) (o : Nat) (ho : o ≤ 8) : PS b n law o i :=
  lv_all (ρc := 6) (E := Esum o) (callee := 72) (mid := 71) (Cc := fun k => CxP b n o k) (Rc := Ri) (En := fun j => True ∧ sgP (tK b n j) = false) (H_sum o) (R_sum o i) (by decide) DFr_D (fun L hC => ⟨by have := hC.1; omega, hC.2.1, by have := hC.2.2.1; omega, hC.2.2.2⟩) (cbI_ (fun K hs => by have := sgS_e.mp hs; omega) (by omega)) (cgI_ (fun K hs => by have := sgS_e.mp hs; omega)) (fun k h1 h2 => by
    by_cases z : i < k
    · exact (H k z (h2 z) o ho).2.1
    · rw [show k = i by omega]; exact pp_all H o ho)
theorem pa_all {i : Nat} (H : Lat b n law i) (o : Nat) (ho : o ≤ 8) : PA b n law o i := by
  by_cases k18 : tK b n i = 18
  · have hi := tK_in (b := b) (n := n) (i := i) (by omega)
    by_cases ho8 : o = 8
    · exact Or.inr ⟨3, i, a_deep k18 (by omega) (by omega), ra_deep k18 ho8⟩
    · rcases (H (i + 1) (by omega) (by omega) (o + 1) (by omega)).2.2.2.1 with ⟨j, v, h1, h2, h3, ⟨w, rfl⟩, h4, h5⟩ | ⟨f, k, h4, h5⟩
      · exact Or.inl ⟨j, _, by omega, h2, h3, ⟨fun E => !(w E), rfl⟩, a_not k18 (by omega) (by omega) h1 (COk_le h4 (Nat.le_refl _) (by omega)), ra_not k18 (by omega) h5⟩
      · exact Or.inr ⟨f, k, a_notf k18 (by omega) h4, ra_notf k18 (by omega) h5⟩
  · rcases ps_all H o ho with ⟨j, v, h1, h2, h3, -, h4, h5⟩ | ⟨f, k, h4, h5⟩
    · by_cases kc : 25 ≤ tK b n j ∧ tK b n j ≤ 30
      · have hj := tK_in (b := b) (n := n) (i := j) (by omega)
        rcases (H (j + 1) (by omega) (by omega) o ho).2.2.1 with ⟨j2, u, g1, g2, g3, -, g4, g5⟩ | ⟨f, k, g4, g5⟩
        · exact Or.inl ⟨j2, _, by omega, g2, g3, ⟨fun E => cop (tK b n j) (v E) (u E), rfl⟩, a_ok k18 h1 g1 kc (by omega) (COk_le h4 (Nat.le_refl _) (by omega)) g4, ra_ok k18 kc h5 g5⟩
        · exact Or.inr ⟨f, k, a_f3 k18 h1 kc h4 g4, ra_f3 k18 kc h5 g5⟩
      · exact Or.inr ⟨1, j, a_f2 k18 h1 kc h4, ra_f2 k18 kc (EnS_n h3) h5⟩
    · exact Or.inr ⟨f, k, a_f1 k18 h4, ra_f1 k18 h5⟩
theorem pb_all {i : Nat} (H : Lat b n law i) (o : Nat) (ho : o ≤ 8) : PB b n law o i :=
  lv_all (ρc := 3) (E := Ebot o) (callee := 79) (mid := 78) (Cc := fun _ => CxA o) (Rc := Ra) (En := EnS b n) (H_bot o) (R_bot o _ (by omega)) (by decide) DFr_B (fun L hC => ⟨by have := hC.1; omega, hC.2.1, hC.2.2.1, by
    obtain ⟨x, t, e, hr⟩ := hC.2.2.2
    exact ⟨x, t, e, by omega⟩⟩) (cbB_ (fun K hs => Or.inr (sgB_e.mp hs)) (by omega)) (cgB_ (fun K hs => Or.inr (sgB_e.mp hs))) (fun k h1 h2 => by
    by_cases z : i < k
    · exact (H k z (h2 z) o ho).2.2.2.1
    · rw [show k = i by omega]; exact pa_all H o ho)
theorem pe_all {i : Nat} (H : Lat b n law i) (o : Nat) (ho : o ≤ 8) : PE b n law o i :=
  lv_all (ρc := 2) (E := Eeit o) (callee := 78) (mid := 77) (Cc := fun _ => CxB o) (Rc := Ra) (En := fun j => EnS b n j ∧ sgB (tK b n j) = false) (H_eit o) (R_eit o _ (by omega)) (by decide) DFr_B (fun L hC => ⟨by have := hC.1; omega, hC.2.1, hC.2.2.1, by
    obtain ⟨x, t, e, hr⟩ := hC.2.2.2
    exact ⟨x, t, e, by omega⟩⟩) (cbB_ (fun K hs => Or.inl (sgE_e.mp hs)) (by omega)) (cgB_ (fun K hs => Or.inl (sgE_e.mp hs))) (fun k h1 h2 => by
    by_cases z : i < k
    · exact (H k z (h2 z) o ho).2.2.2.2.1
    · rw [show k = i by omega]; exact pb_all H o ho)
theorem pc_all {i : Nat} (H : Lat b n law i) (o : Nat) (ho : o < 8) : PC b n law o i := by
  have hd : 4 ≤ dO (o + 1) + 5 := by omega
  rcases pe_all H (o + 1) (by omega) with ⟨j, v, h1, h2, ⟨⟨h3, h3b⟩, h3e⟩, ⟨w, rfl⟩, h4, h5⟩ | ⟨f, k, h4, h5⟩
  · have e17 := bfN sgB_e h3b
    have e16 := bfN sgE_e h3e
    by_cases kj : tK b n j = 13
    · have hj := tK_in (b := b) (n := n) (i := j) (by omega)
      rcases (H (j + 1) (by omega) (by omega) (o + 1) (by omega)).2.2.1 with ⟨j2, u, g1, g2, g3, -, g4, g5⟩ | ⟨f, k, g4, g5⟩
      · have g4' := COk_le (D' := dO (o + 1) + 5) (h' := 5 * o + 5) g4 (by omega) (by omega)
        by_cases kj2 : tK b n j2 = 14
        · have hj2 := tK_in (b := b) (n := n) (i := j2) (by omega)
          rcases (H (j2 + 1) (by omega) (by omega) (o + 1) (by omega)).2.2.1 with ⟨j3, z, m1, m2, m3, -, m4, m5⟩ | ⟨f, k, m4, m5⟩
          · have m4' := COk_le (D' := dO (o + 1) + 5) (h' := 5 * o + 5) m4 (by omega) (by omega)
            by_cases kj3 : tK b n j3 = 15
            · have hj3 := tK_in (b := b) (n := n) (i := j3) (by omega)
              exact Or.inl ⟨j3 + 1, _, by omega, by omega, ch_ok hd h1 kj g1 kj2 m1 kj3 (by omega) h4 g4' m4', rc_ok ho (by omega) kj kj2 kj3 h5 g5 m5⟩
            · exact Or.inr ⟨1, j3, ch_f5 hd h1 kj g1 kj2 m1 kj3 h4 g4' m4', rc_f5 (by omega) kj kj2 kj3 (EnS_n m3) h5 g5 m5⟩
          · exact Or.inr ⟨f, k, ch_f4 hd h1 kj g1 kj2 h4 g4' (CFa_le m4 (by omega)), rc_f4 (by omega) kj kj2 h5 g5 m5⟩
        · exact Or.inr ⟨1, j2, ch_f3 hd h1 kj g1 kj2 h4 g4', rc_f3 (by omega) kj kj2 (EnS_n g3) h5 g5⟩
      · exact Or.inr ⟨f, k, ch_f2 hd h1 kj h4 (CFa_le g4 (by omega)), rc_f2 (by omega) kj h5 g5⟩
    · exact Or.inr ⟨1, j, ch_f1 hd h1 kj h4, rc_f1 (by omega) kj (EnS_n h3) e16 e17 h5⟩
  · exact Or.inr ⟨f, k, ch_f0 hd h4, rc_f0 h5⟩
theorem all_i : ∀ m i, tN b n - i < m → i ≤ tN b n → ∀ o, o ≤ 8 → P1 b n law o i ∧ PP b n law o i ∧ PS b n law o i ∧ PA b n law o i ∧ PB b n law o i ∧ (o < 8 → PC b n law o i) := by
  intro m
  induction m with
  | zero => intro i hm; omega
  | succ m ih =>
    intro i hm hi o ho
    have H : Lat b n law i := fun k h1 h2 => ih k (by omega) h2
    exact ⟨p1_all H o ho, pp_all H o ho, ps_all H o ho, pa_all H o ho, pb_all H o ho, fun h => pc_all H o h⟩
theorem sum_all {i : Nat} (hi : i ≤ tN b n) : PS b n law 0 i := (all_i _ i (Nat.lt_succ_self _) hi 0 (by omega)).2.2.1
end AH_
