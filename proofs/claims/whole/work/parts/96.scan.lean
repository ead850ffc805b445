/-! the class reads the tape's tokens -/
def Tap (b : Nat → Nat) (n t : Nat) (S : Mem) : Prop := n ≤ 300 ∧ rdI S t 1 = nI n ∧ ∀ i, i < n → rdI S (t + 1) i = nI (b i) ∧ b i < 256
def TkS (b : Nat → Nat) (n t k : Nat) (S : Mem) : Prop := rdI S t 7 = nI k ∧ ∀ j, j < k → rdI S (t + 2) j = nI (tK b n j) ∧ rdI S (t + 3) j = nI (tV b n j) ∧ rdI S (t + 4) j = nI (tP b n j)
def FrJ (t : Nat) (S S' : Mem) : Prop := (∀ c, ¬ (c = t ∨ c = t + 2 ∨ c = t + 3 ∨ c = t + 4) → rdI S' c = rdI S c) ∧ (∀ i, ¬ i = 7 → rdI S' t i = rdI S t i) ∧ S'.2 = S.2
theorem FrJ_r {t : Nat} {S : Mem} : FrJ t S S := ⟨fun _ _ => rfl, fun _ _ => rfl, rfl⟩
theorem FrJ_t {t : Nat} {S S1 S2 : Mem} (h : FrJ t S S1) (h2 : FrJ t S1 S2) : FrJ t S S2 := ⟨fun c a => (h2.1 c a).trans (h.1 c a), fun i hi => (h2.2.1 i hi).trans (h.2.1 i hi), h2.2.2.trans h.2.2⟩
def adT (S : Mem) (t k : Nat) (a v p : Int32) : Mem := wrI (wrI (wrI (wrI S (t + 2) k a) (t + 3) k v) (t + 4) k p) t 7 (nI (k + 1))
theorem adT_F (S : Mem) (t k : Nat) (a v p : Int32) : FrJ t S (adT S t k a v p) := by
  refine ⟨fun c hc => funext fun i => ?_, fun i hi => ?_, rfl⟩
  · unfold adT
    rw [rdI_wrI, if_neg (by omega), rdI_wrI, if_neg (by omega), rdI_wrI, if_neg (by omega), rdI_wrI, if_neg (by omega)]
  · unfold adT
    rw [rdI_wrI, if_neg (by omega), rdI_wrI, if_neg (by omega), rdI_wrI, if_neg (by omega), rdI_wrI, if_neg (by omega)]
theorem adt_c {S : Mem} {t k : Nat} (e : rdI S t 7 = nI k) (hk : k < 300) (a v p : Int32) (d : Nat) : cal d 56 [vR 3 t, vI a, vI v, vI p] S = some (none, adT S t k a v p) := by
  have w1 : rdI (wrI S (t + 2) k a) t 7 = nI k := by rw [rdI_wrI, if_neg (by omega)]; exact e
  have w2 : rdI (wrI (wrI S (t + 2) k a) (t + 3) k v) t 7 = nI k := by rw [rdI_wrI, if_neg (by omega)]; exact w1
  have w3 : rdI (wrI (wrI (wrI S (t + 2) k a) (t + 3) k v) (t + 4) k p) t 7 = nI k := by rw [rdI_wrI, if_neg (by omega)]; exact w2
  rw [B_X3_addToken, e, if_neg (n300 hk), i300 hk, gd_t, ix_nI (by omega), w1, i300 hk, gd_t, ix_nI (by omega), w2, i300 hk, gd_t, ix_nI (by omega), w3, nI_1]
  rfl
theorem eow_c {b : Nat → Nat} {n t : Nat} {S : Mem} (h : Tap b n t S) (d : Nat) : ∀ m q u, q + m = n → ev (d + 1) 59 2 [vR 3 t, u, vI (nI q)] [] S = some (some (vI (nI (eW b n q))), S) := by
  obtain ⟨h1, h2, h3⟩ := h
  intro m
  induction m with
  | zero =>
    intro q u hq
    have : q = n := by omega
    rw [B_X3_endOfWord_2, h2, if_pos (nI_le (by omega) (by omega)), this]
    unfold eW
    rw [fstN_n]
  | succ m ih =>
    intro q u hq
    obtain ⟨e, hb⟩ := h3 q (by omega)
    rw [B_X3_endOfWord_2, h2, if_neg (nI_ge (by omega) (by omega)), i300 (by omega), gd_t, ix_nI (by omega), e, ltr_c hb, bI_s, ite_b0, nI_1]
    cases g : isLe (b q)
    · rw [if_pos rfl]
      unfold eW
      rw [fstN_t (by omega) (by rw [g]; rfl)]
    · rw [if_neg (by decide), ih (q + 1) vU (by omega)]
      unfold eW
      rw [fstN_f (c := fun q => !(isLe (b q))) (p := q) (by omega) (by rw [g]; rfl)]
theorem min_n {x : Nat} (h : x < 2 ^ 31) : minI 10000 (nI x) = nI (min 10000 x) := by
  unfold minI
  by_cases z : x < 10000
  · rw [if_pos (show nI x < 10000 from nI_lt (b := 10000) z (by decide)), Nat.min_eq_right (by omega)]
  · rw [if_neg (show ¬ nI x < 10000 from nI_nlt (b := 10000) (by omega) h), Nat.min_eq_left (by omega)]; rfl
theorem scn_c {b : Nat → Nat} {n t : Nat} {S : Mem} (h : Tap b n t S) (p d : Nat) : ∀ m q l, q + m = n → q = p + l → ev (d + 1) 58 4 [vR 3 t, vI (nI p), vI (nI (nuV b p l)), vI (nI q)] [] S = bV (cal d 56 [vR 3 t, vI 38, vI (nI (nuV b p (eN b n q - p))), vI (nI p)] S) (fun S1 => some (some (vI (nI (eN b n q) - 1)), S1)) := by
  obtain ⟨h1, h2, h3⟩ := h
  intro m
  induction m with
  | zero =>
    intro q l hq hl
    have : q = n := by omega
    have e : eN b n q = q := by rw [this]; unfold eN; exact fstN_n
    rw [B_X3_scanNumber_4, h2, if_pos (nI_le (by omega) (by omega)), e, show q - p = l by omega]
  | succ m ih =>
    intro q l hq hl
    obtain ⟨e, hb⟩ := h3 q (by omega)
    have hv := nuV_le b p l
    rw [B_X3_scanNumber_4, h2, if_neg (nI_ge (by omega) (by omega)), i300 (by omega), gd_t, ix_nI (by omega), e, dg_c hb, bI_s, ite_b0, nI_1, e]
    cases g : isDg (b q)
    · have e2 : eN b n q = q := by unfold eN; exact fstN_t (by omega) (by rw [g]; rfl)
      rw [if_pos rfl, e2, show q - p = l by omega]
    · have hd := (isDg_e (b q)).mp g
      have e2 : eN b n q = eN b n (q + 1) := by unfold eN; exact fstN_f (by omega) (by rw [g]; rfl)
      have e3 : nI (nuV b p l) * 10 = nI (nuV b p l * 10) := pk_mul _ 10
      have e4 : nI (nuV b p l * 10 + b q) - 48 = nI (nuV b p l * 10 + b q - 48) := pk_sub (b := 48) (by omega)
      have e5 : nI (min 10000 (nuV b p l * 10 + b q - 48)) = nI (nuV b p (l + 1)) := by rw [nuV_s, hl]
      rw [if_neg (by decide), gd_t, e3, nI_add, e4, min_n (by omega), e5, ih (q + 1) (l + 1) (by omega) (by omega), e2]
theorem spl_c {b : Nat → Nat} {n t : Nat} {S : Mem} (h : Tap b n t S) {p e s : Nat} (hpe : p ≤ e) (he : e ≤ n) (hs : s + (e - p) ≤ 129) (d : Nat) : cal (d + 5) 63 [vR 3 t, vI (nI p), vI (nI e), vI (nI s)] S = some (some (vI (b2i (wEq b p (e - p) s))), S) := by
  obtain ⟨h1, h2, h3⟩ := h
  obtain ⟨u', key⟩ := loop_findU (fun i (u : AV) => ev (d + 5) 63 3 [vR 3 t, vI (nI p), vI (nI e), vI (nI s), vI (nI (p + i)), u] [] S) (fun i => !(decide (wTx (s + i) = nI (b (p + i))))) (fun _ => some (some (vI 0), S)) (e - p) 0 (fun i u _ hi => by
    rw [Nat.zero_add] at hi
    obtain ⟨e1, hb⟩ := h3 (p + i) (by omega)
    have es : (nI s + nI (p + i)) - nI p = nI (s + i) := by
      rw [nI_add, pk_sub (by omega)]; congr 1; omega
    try dsimp only
    rw [B_X3_spells_3, if_neg (nI_ge (by omega) (by omega)), es, if_neg (show ¬ (129 : Int32) ≤ nI (s + i) from nI_ge (b := 129) (by omega) (by decide)), inb_t (by omega) (by decide), gd_t, i300 (by omega), gd_t, ix_nI (by omega), ix_nI (by omega), e1, nI_1]
    by_cases z : wTx (s + i) = nI (b (p + i))
    · refine ⟨vI (nI (s + i)), ?_⟩
      rw [if_pos z, decide_eq_true z, if_neg (by decide)]; rfl
    · refine ⟨u, ?_⟩
      rw [if_neg z, decide_eq_false z, if_pos (by decide), gd_p isZ_0]) vU
  rw [B_X3_spells]
  refine Eq.trans key ?_
  unfold wEq
  cases ffind (fun i => !(decide (wTx (s + i) = nI (b (p + i))))) 0 (e - p) with
  | some i => rfl
  | none =>
    show ev (d + 5) 63 3 [vR 3 t, vI (nI p), vI (nI e), vI (nI s), vI (nI (p + (0 + (e - p)))), u'] [] S = _
    rw [B_X3_spells_3, if_pos (nI_le (by omega) (by omega)), gd_p isZ_1]; rfl
theorem wT_1 : ∀ K : Fin 25, wTx (wsK K.1 + wlK K.1) = 32 ∧ wsK K.1 + wlK K.1 + 1 = wsK (K.1 + 1) ∧ wsK K.1 + wlK K.1 < 129 ∧ wlK K.1 < 8 := by decide +kernel
theorem wT_2 : ∀ K : Fin 25, ∀ j : Fin 8, j.1 < wlK K.1 → ¬ wTx (wsK K.1 + j.1) = 32 := by decide +kernel
def wKf (b : Nat → Nat) (p e K : Nat) : Nat := match ffind (wIs b p e) K (25 - K) with
  | some K => K
  | none => 40
theorem wkd_c {b : Nat → Nat} {n t : Nat} {S : Mem} (h : Tap b n t S) {p e : Nat} (hpe : p ≤ e) (he : e ≤ n) (d : Nat) : ∀ m K, K + m = 25 → ev (d + 5 + 1) 62 8 [vR 3 t, vI (nI p), vI (nI e), vI (nI K), vI (nI (wsK K)), vI (nI (wsK K))] [] S = some (some (vI (nI (wKf b p e K))), S) := by
  have hn := h.1
  intro m
  induction m with
  | zero =>
    intro K hK
    have : K = 25 := by omega
    subst this
    rw [B_X3_wordKind_8, if_pos (show (129 : Int32) ≤ nI (wsK 25) by decide)]; rfl
  | succ m ih =>
    intro K hK
    obtain ⟨a1, a2, a3, a4⟩ := wT_1 ⟨K, by omega⟩
    have a1 : wTx (wsK K + wlK K) = 32 := a1
    have a2 : wsK K + wlK K + 1 = wsK (K + 1) := a2
    have a3 : wsK K + wlK K < 129 := a3
    have a4 : wlK K < 8 := a4
    have lp_ : ∀ j, j ≤ wlK K → ev (d + 5 + 1) 62 8 [vR 3 t, vI (nI p), vI (nI e), vI (nI K), vI (nI (wsK K)), vI (nI (wsK K))] [] S = ev (d + 5 + 1) 62 8 [vR 3 t, vI (nI p), vI (nI e), vI (nI K), vI (nI (wsK K)), vI (nI (wsK K + j))] [] S := by
      intro j
      induction j with
      | zero => intro _; rfl
      | succ j ihj =>
        intro hj
        have hne : ¬ wTx (wsK K + j) = 32 := wT_2 ⟨K, by omega⟩ ⟨j, by omega⟩ (by show j < wlK K; omega)
        rw [ihj (by omega), B_X3_wordKind_8, if_neg (show ¬ (129 : Int32) ≤ nI (wsK K + j) from nI_ge (b := 129) (by omega) (by decide)), inb_t (by omega) (by decide), gd_t, ix_nI (by omega), if_neg hne, nI_1]; rfl
    have e1 : nI (wsK K + wlK K) - nI (wsK K) = nI (wlK K) := by rw [pk_sub (by omega)]; congr 1; omega
    have e2 : nI e - nI p = nI (e - p) := pk_sub hpe
    have ef : wKf b p e K = if wIs b p e K = true then K else wKf b p e (K + 1) := by
      unfold wKf
      rw [show 25 - K = (25 - (K + 1)) + 1 by omega]
      cases g : wIs b p e K
      · rw [ff_f g, if_neg (by decide)]
      · rw [ff_t g, if_pos rfl]
    rw [lp_ (wlK K) (Nat.le_refl _), B_X3_wordKind_8, if_neg (show ¬ (129 : Int32) ≤ nI (wsK K + wlK K) from nI_ge (b := 129) a3 (by decide)), inb_t a3 (by decide), gd_t, ix_nI (by omega), if_pos a1, e1, e2, nI_1, nI_1, a2, ef]
    unfold wIs
    by_cases z : e - p = wlK K
    · rw [if_pos (by rw [z]), decide_eq_true z, Bool.true_and]
      have es := spl_c h hpe he (s := wsK K) (by omega) d
      have es' : cal (d + 4 + 1) 63 [vR 3 t, vI (nI p), vI (nI e), vI (nI (wsK K))] S = _ := es
      rw [es', bI_s, ite_b0]
      cases g : wEq b p (e - p) (wsK K)
      · rw [if_pos rfl, if_neg (by decide)]; exact ih (K + 1) (by omega)
      · rw [if_neg (by decide), if_pos rfl]
    · rw [if_neg (fun y => z ((nI_eq (by omega) (by omega)).mp y).symm), decide_eq_false z, Bool.false_and, if_neg (by decide)]
      exact ih (K + 1) (by omega)
theorem sct_c {b : Nat → Nat} {n t k p : Nat} {S : Mem} (h : Tap b n t S) (hp : p < n) (e7 : rdI S t 7 = nI k) (hk : k < 300) (d : Nat) : cal (d + 7) 57 [vR 3 t, vI (nI p)] S = some (some (vI (nI ((tk b n p).2.2 - 1))), adT S t k (nI (tk b n p).1) (nI (tk b n p).2.1) (nI p)) := by
  have h' := h
  obtain ⟨h1, h2, h3⟩ := h
  obtain ⟨e, hb⟩ := h3 p hp
  rw [B_X3_scanToken, i300 (by omega), gd_t, ix_nI (by omega), e, ltr_c hb, bI_s, ite_b0]
  unfold tk
  cases g1 : isLe (b p)
  · rw [if_pos rfl, if_neg (show ¬ false = true by decide), dg_c hb, bI_s, ite_b0]
    cases g2 : isDg (b p)
    · have e60 : nI (b p) = 60 ↔ b p = 60 := nI_eq (b := 60) (by omega) (by decide)
      have e62 : nI (b p) = 62 ↔ b p = 62 := nI_eq (b := 62) (by omega) (by decide)
      have oz : ¬ (1 : Nat) = 0 := by decide
      have zz : (0 : Nat) = 0 := rfl
      have fin0 : bI (cal (d + 6) 64 [vI (nI (b p))] S) (fun x6 S5 => bV (cal (d + 6) 56 [vR 3 t, vI x6, vI 0, vI (nI p)] S5) (fun S7 => some (some (vI (nI p)), S7))) = some (some (vI (nI p)), adT S t k (nI (sgK (b p))) 0 (nI p)) := by
        rw [sg_c hb, bI_s, adt_c e7 hk, bV_s]
      rw [if_pos rfl, if_neg (show ¬ false = true by decide), h2, nI_1]
      by_cases z : p + 1 < n
      · obtain ⟨e1, hb1⟩ := h3 (p + 1) z
        have e61 : nI (b (p + 1)) = 61 ↔ b (p + 1) = 61 := nI_eq (b := 61) (by omega) (by decide)
        rw [if_neg (nI_ge z (by omega)), i300 (by omega), gd_t, ix_nI (by omega), e1]
        by_cases y : b (p + 1) = 61
        · rw [if_pos (e61.mpr y), if_neg oz]
          by_cases w : b p = 60
          · have t1 : two b n p 60 = true := by unfold two; rw [decide_eq_true z, decide_eq_true y, decide_eq_true w]; rfl
            rw [if_pos (e60.mpr w), adt_c e7 hk, bV_s, if_pos t1]; rfl
          · have t1 : ¬ two b n p 60 = true := by unfold two; rw [decide_eq_false w, Bool.and_false]; decide
            rw [if_neg (mt e60.mp w), if_neg oz, if_neg t1]
            by_cases v : b p = 62
            · have t2 : two b n p 62 = true := by unfold two; rw [decide_eq_true z, decide_eq_true y, decide_eq_true v]; rfl
              rw [if_pos (e62.mpr v), adt_c e7 hk, bV_s, if_pos t2]; rfl
            · have t2 : ¬ two b n p 62 = true := by unfold two; rw [decide_eq_false v, Bool.and_false]; decide
              rw [if_neg (mt e62.mp v), if_neg t2, fin0]; rfl
        · have t1 : ∀ x, ¬ two b n p x = true := fun x => by unfold two; rw [decide_eq_false y, Bool.and_false, Bool.false_and]; decide
          rw [if_neg (mt e61.mp y), if_pos zz, if_pos zz, fin0, if_neg (t1 60), if_neg (t1 62)]; rfl
      · have t1 : ∀ x, ¬ two b n p x = true := fun x => by unfold two; rw [decide_eq_false z, Bool.false_and, Bool.false_and]; decide
        rw [if_pos (nI_le (by omega) (by omega)), if_pos zz, if_pos zz, fin0, if_neg (t1 60), if_neg (t1 62)]; rfl
    · have hl := eN_lt hp g2
      have es := scn_c h' p (d + 5) (n - p) p 0 (by omega) (by omega)
      have es' : cal (d + 6) 58 [vR 3 t, vI (nI p)] S = bV (cal (d + 5) 56 [vR 3 t, vI 38, vI (nI (nuV b p (eN b n p - p))), vI (nI p)] S) (fun S1 => some (some (vI (nI (eN b n p) - 1)), S1)) := (B_X3_scanNumber (d + 5) t (nI p) S).trans es
      rw [if_neg (by decide), if_pos rfl, es', adt_c e7 hk, bV_s, bI_s, s1_sub (by omega)]; rfl
  · have hl := eW_lt hp g1
    have ew : cal (d + 6) 59 [vR 3 t, vI (nI p)] S = some (some (vI (nI (eW b n p))), S) := (B_X3_endOfWord (d + 5) t (nI p) S).trans (eow_c h' (d + 5) (n - p) p _ (by omega))
    have ek : cal (d + 6) 62 [vR 3 t, vI (nI p), vI (nI (eW b n p))] S = some (some (vI (nI (wKd b p (eW b n p)))), S) := (B_X3_wordKind (d + 1) t (nI p) (nI (eW b n p)) S).trans (wkd_c h' (by omega) hl.2 d 25 0 (by omega))
    rw [if_neg (by decide), if_pos rfl, ew, bI_s, ek, bI_s, adt_c e7 hk, bV_s, s1_sub (by omega)]; rfl
theorem scl_c {b : Nat → Nat} {n t : Nat} (d : Nat) : ∀ m q k S, n - q < m → q ≤ n → k ≤ q → k ≤ tN b n → nbl b n q = tP b n k → Tap b n t S → TkS b n t k S → ∃ S', ev (d + 8) 55 7 [vR 3 t, vI (nI q)] [] S = some (none, S') ∧ TkS b n t (tN b n) S' ∧ FrJ t S S' := by
  intro m
  induction m with
  | zero => intro q k S h; omega
  | succ m ih =>
    intro q k S hm hq hkq hkN hP hT hk
    have hT' := hT
    obtain ⟨h1, h2, h3⟩ := hT
    rcases Nat.lt_or_ge q n with z | z
    · obtain ⟨e, hb⟩ := h3 q z
      rw [B_X3_scan_7, h2, if_neg (nI_ge z (by omega)), i300 (by omega), gd_t, ix_nI (by omega), e, nI_1]
      have e32 : nI (b q) = 32 ↔ b q = 32 := nI_eq (b := 32) (by omega) (by decide)
      have e10 : nI (b q) = 10 ↔ b q = 10 := nI_eq (b := 10) (by omega) (by decide)
      have bl : isBl (b q) = true → nbl b n (q + 1) = tP b n k := fun g => by
        rw [← hP]; unfold nbl
        exact (fstN_f z (by rw [g]; rfl)).symm
      by_cases y : b q = 32
      · rw [if_pos (e32.mpr y)]
        exact ih (q + 1) k S (by omega) (by omega) (by omega) hkN (bl ((isBl_e _).mpr (Or.inl y))) hT' hk
      · rw [if_neg (mt e32.mp y), gd_t]
        by_cases w : b q = 10
        · rw [if_pos (e10.mpr w)]
          exact ih (q + 1) k S (by omega) (by omega) (by omega) hkN (bl ((isBl_e _).mpr (Or.inr w))) hT' hk
        · have g : isBl (b q) = false := bf (fun v => by have := (isBl_e _).mp v; omega)
          have eP : tP b n k = q := by
            rw [← hP]; unfold nbl
            exact fstN_t z (by rw [g]; rfl)
          have hkl : k < tN b n := tN_iff.mp (by rw [eP]; exact z)
          have hend := tk_end (b := b) z
          have er := sct_c hT' z hk.1 (by omega) d
          have hmx : maxI (nI q) (nI ((tk b n q).2.2 - 1)) + 1 = nI (tk b n q).2.2 := by
            rw [maxI_n (by omega) (by omega), nI_1]; congr 1; omega
          have fA := adT_F S t k (nI (tk b n q).1) (nI (tk b n q).2.1) (nI q)
          have hk2 : TkS b n t (k + 1) (adT S t k (nI (tk b n q).1) (nI (tk b n q).2.1) (nI q)) := by
            refine ⟨by unfold adT; rw [rdI_wrI, if_pos ⟨rfl, rfl⟩], fun j hj => ?_⟩
            by_cases v : j = k
            · unfold adT tK tV
              rw [v, eP, if_pos z, rdI_wrI, if_neg (by omega), rdI_wrI, if_neg (by omega), rdI_wrI, if_neg (by omega), rdI_wrI, if_pos ⟨rfl, rfl⟩, rdI_wrI, if_neg (by omega), rdI_wrI, if_neg (by omega), rdI_wrI, if_pos ⟨rfl, rfl⟩, rdI_wrI, if_neg (by omega), rdI_wrI, if_pos ⟨rfl, rfl⟩]
              exact ⟨rfl, rfl, rfl⟩
            · unfold adT
              rw [rdI_wrI, if_neg (by omega), rdI_wrI, if_neg (by omega), rdI_wrI, if_neg (by omega), rdI_wrI, if_neg (by omega), rdI_wrI, if_neg (by omega), rdI_wrI, if_neg (by omega), rdI_wrI, if_neg (by omega), rdI_wrI, if_neg (by omega), rdI_wrI, if_neg (by omega), rdI_wrI, if_neg (by omega), rdI_wrI, if_neg (by omega), rdI_wrI, if_neg (by omega)]
              exact hk.2 j (by omega)
          have hT2 : Tap b n t (adT S t k (nI (tk b n q).1) (nI (tk b n q).2.1) (nI q)) := ⟨h1, by rw [fA.2.1 1 (by decide)]; exact h2, fun i hi => by rw [fA.1 (t + 1) (by omega)]; exact h3 i hi⟩
          rw [if_neg (mt e10.mp w), er, bI_s, hmx]
          obtain ⟨S', e', k', f'⟩ := ih (tk b n q).2.2 (k + 1) _ (by omega) hend.2 (by omega) hkl (by rw [tP_s, if_pos (by rw [eP]; exact z), eP]) hT2 hk2
          exact ⟨S', e', k', FrJ_t fA f'⟩
    · have en : q = n := by omega
      have hn : tP b n k = n := by rw [← hP, en]; unfold nbl; exact fstN_n
      have : k = tN b n := by
        rcases Nat.lt_or_ge k (tN b n) with y | y
        · have := tN_lt y; omega
        · omega
      rw [B_X3_scan_7, h2, if_pos (nI_le z (by omega))]
      exact ⟨S, rfl, by rw [← this]; exact hk, FrJ_r⟩
theorem scan_c {b : Nat → Nat} {n t : Nat} {S : Mem} (h : Tap b n t S) (d : Nat) : ∃ S', cal (d + 8) 55 [vR 3 t] S = some (none, S') ∧ TkS b n t (tN b n) S' ∧ FrJ t S S' := by
  have f0 : FrJ t S (wrI S t 7 0) := ⟨fun c hc => funext fun i => by rw [rdI_wrI, if_neg (by omega)], fun i hi => by rw [rdI_wrI, if_neg (by omega)], rfl⟩
  obtain ⟨h1, h2, h3⟩ := h
  obtain ⟨S', e, k, f⟩ := scl_c (b := b) (n := n) (t := t) d (n + 1) 0 0 (wrI S t 7 0) (by omega) (Nat.zero_le _) (Nat.le_refl _) (Nat.zero_le _) rfl ⟨h1, by rw [f0.2.1 1 (by decide)]; exact h2, fun i hi => by rw [f0.1 (t + 1) (by omega)]; exact h3 i hi⟩ ⟨by rw [rdI_wrI, if_pos ⟨rfl, rfl⟩]; rfl, fun j hj => absurd hj (Nat.not_lt_zero _)⟩
  exact ⟨S', by rw [B_X3_scan]; exact e, k, FrJ_t f0 f⟩
