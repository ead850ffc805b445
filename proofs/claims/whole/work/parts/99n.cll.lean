/-! the class reads a clause -/
section CY_
variable {b : Nat → Nat} {n t τ : Nat} {X : Tx}
theorem tl_es {ρ : Rho} {K a c : Nat} {S : Mem} (h : ES b n t τ ρ X S) (hX : X.1 < 24) (d : Nat) : ∃ S', bV (cal (d + 1) 67 [vR 3 t, vI 37] S) (fun S7 => bV (cal (d + 1) 89 [vR 5 (ix (rdI S7 t 10)), vI (nI K), vI (nI a), vI (nI c)] S7) (fun S8 => some (none, S8))) = some (none, S') ∧ ES b n t τ (takP b n 37 ρ) (apX X K a c) S' ∧ FrE t τ S S' := by
  obtain ⟨S1, e1, k1, f1⟩ := tak_es (K := 37) h (by decide) (by decide) d
  have e1' : cal (d + 1) 67 [vR 3 t, vI 37] S = some (none, S1) := e1
  obtain ⟨S2, e2, k2, f2⟩ := add_es (K := K) (a := a) (c := c) k1 (fun _ _ => hX) (d + 1)
  refine ⟨S2, ?_, k2, FrE_t f1 f2⟩
  rw [e1', bV_s, (ES_10 k1).1, e2, bV_s]
theorem law_ok {i j K : Nat} {v : Env → Int} {S : Mem} (h : ES b n t τ (.inr i) X S) (hK : K < 2) (hij : i < j) (H : COk b n K 71 63 0 i j 3 v) (d : Nat) : ∃ S', cal (d + 64) 70 [vR 3 t, vI (nI K)] S = some (none, S') ∧ ES b n t τ (.inr j) (lwX X K v) S' ∧ FrE t τ S S' := by
  obtain ⟨x9, c, h1, h2, h3⟩ := h
  have h1' := h1
  obtain ⟨g1, g2, g3, g4, g5, g6, g7, g8, g9, g10, g11, g12, g13⟩ := h1
  have a10 : ix (rdI (wrI S t 9 (nI K)) t 10) = τ := by rw [rdI_wrI, if_neg (by omega), g10, ix_nI g11]
  have a6 : rdI (wrI S t 9 (nI K)) τ 6 = nI c := by rw [rdI_wrI, if_neg (by omega)]; exact g13
  have es : cal (d + 63) 87 [vR 5 τ, vI (nI K)] (wrI S t 9 (nI K)) = some (none, wrI (wrI S t 9 (nI K)) (τ + 4) K (nI c)) := by
    rw [show d + 63 = (d + 62) + 1 by omega, B_X5_startLaw, isLaw_t _ hK, bI_s, if_neg (by decide), i2 hK, gd_t, ix_nI (by omega), a6]
  have w : ∀ q x, ¬ (q = t ∧ x = 9) → ¬ (q = τ + 4) → rdI (wrI (wrI S t 9 (nI K)) (τ + 4) K (nI c)) q x = rdI S q x := fun q x a1 a2 => by
    rw [rdI_wrI, if_neg (fun z => a2 z.1), rdI_wrI, if_neg a1]
  have wf : ∀ q, ¬ q = t → ¬ q = τ + 4 → rdI (wrI (wrI S t 9 (nI K)) (τ + 4) K (nI c)) q = rdI S q := fun q a1 a2 => funext fun x => w q x (fun z => a1 z.1) a2
  have hR : CR b n K t τ i c (wrI (wrI S t 9 (nI K)) (τ + 4) K (nI c)) := ⟨TkS_e g1 (w _ _ (by omega) (by omega)) (wf _ (by omega) (by omega)) (wf _ (by omega) (by omega)) (wf _ (by omega) (by omega)), g2, by rw [w _ _ (by omega) (by omega)]; exact g3, by rw [w _ _ (by omega) (by omega)]; exact g4, by rw [w _ _ (by omega) (by omega)]; exact g5, by rw [w _ _ (by omega) (by omega)]; exact g6, g7, by rw [rdI_wrI, if_neg (by omega), rdI_wrI, if_pos ⟨rfl, rfl⟩], hK, by rw [w _ _ (by omega) (by omega)]; exact g10, g11, g12, by rw [w _ _ (by omega) (by omega)]; exact g13⟩
  obtain ⟨S2, c', e2, R2, l1, l2, f2, C2⟩ := H t τ c _ hR h2 (d + 63) (by omega)
  have e2' : cal (d + 63) 71 [vR 3 t, vI 0] (wrI (wrI S t 9 (nI K)) (τ + 4) K (nI c)) = some (none, S2) := e2
  have R2' := R2
  obtain ⟨r1, r2, r3, r4, r5, r6, r7, r8, r9, r10_, r11, r12, r13⟩ := R2
  have hN := tN_le b n
  have ee : cal (d + 63) 88 [vR 5 τ, vI (nI K)] S2 = some (none, wrI S2 (τ + 5) K (nI c')) := by
    rw [show d + 63 = (d + 62) + 1 by omega, B_X5_endLaw, isLaw_t _ hK, bI_s, if_neg (by decide), i2 hK, gd_t, ix_nI (by omega), r13]
  have y : ∀ q x, ¬ (q = τ + 5) → rdI (wrI S2 (τ + 5) K (nI c')) q x = rdI S2 q x := fun q x a2 => by
    rw [rdI_wrI, if_neg (fun z => a2 z.1)]
  have yf : ∀ q, ¬ q = τ + 5 → rdI (wrI S2 (τ + 5) K (nI c')) q = rdI S2 q := fun q a2 => funext fun x => y q x a2
  refine ⟨wrI S2 (τ + 5) K (nI c'), ?_, ⟨nI K, c', ⟨TkS_e r1 (y _ _ (by omega)) (yf _ (by omega)) (yf _ (by omega)) (yf _ (by omega)), r2, by rw [y _ _ (by omega)]; exact r3, by rw [y _ _ (by omega)]; exact r4, by rw [y _ _ (by omega)]; exact r5, by rw [y _ _ (by omega)]; exact r6, r7, by rw [y _ _ (by omega)]; exact r8, by decide, by rw [y _ _ (by omega)]; exact r10_, r11, r12, by rw [y _ _ (by omega)]; exact r13⟩, by omega, ?_⟩, FrE_t FrE_9 (FrE_t (FrE_w (j := 4) g12 (by omega)) (FrE_t (FrE_U f2) (FrE_w (j := 5) g12 (by omega))))⟩
  · rw [show d + 64 = (d + 63) + 1 by omega, B_X3_readLaw, a10, es, bV_s, e2', bV_s, r10 R2', ee, bV_s]
  · obtain ⟨x1, x2, x3, x4⟩ := h3
    refine ⟨x1, ?_, fun k hk => ?_, fun l hl => ?_⟩
    · rw [y _ _ (by omega), f2.2.2.1 0 (by decide), w _ _ (by omega) (by omega)]; exact x2
    · rw [yf _ (by omega), yf _ (by omega), yf _ (by omega), f2.1 (τ + 1) (by omega), f2.1 (τ + 2) (by omega), f2.1 (τ + 3) (by omega), wf _ (by omega) (by omega), wf _ (by omega) (by omega), wf _ (by omega) (by omega)]; exact x3 k hk
    · by_cases z : l = K
      · have eo : txL (lwX X K v) l = some v := if_pos z
        rw [eo, z]
        refine ⟨c, c', l1, Nat.le_refl _, ?_, ?_, CD_cong C2 (fun x _ _ => by rw [yf _ (by omega), yf _ (by omega)]; exact ⟨rfl, rfl⟩)⟩
        · rw [y _ _ (by omega), f2.1 (τ + 4) (by omega), rdI_wrI, if_pos ⟨rfl, rfl⟩]
        · rw [rdI_wrI, if_pos ⟨rfl, rfl⟩]
      · have eo : txL (lwX X K v) l = txL X l := if_neg z
        rw [eo]
        refine LcC_k (x4 l hl) ?_ ?_ (fun q hq => ?_) (by omega)
        · rw [y _ _ (by omega), f2.1 (τ + 4) (by omega), rdI_wrI, if_neg (fun q => z q.2), rdI_wrI, if_neg (by omega)]
        · rw [rdI_wrI, if_neg (fun q => z q.2), f2.1 (τ + 5) (by omega), w _ _ (by omega) (by omega)]
        · rw [yf _ (by omega), yf _ (by omega), (f2.2.2.2.1 q hq).1, (f2.2.2.2.1 q hq).2, w _ _ (by omega) (by omega), w _ _ (by omega) (by omega)]; exact ⟨rfl, rfl⟩
theorem law_fa {i f k K : Nat} {Y : Tx} {S : Mem} (h : ES b n t τ (.inr i) X S) (hK : K < 2) (H : CFa b n K 71 63 0 i f k) (d : Nat) : ∃ S', cal (d + 64) 70 [vR 3 t, vI (nI K)] S = some (none, S') ∧ ES b n t τ (.inl (f, k)) Y S' ∧ FrE t τ S S' := by
  obtain ⟨x9, c, h1, h2, h3⟩ := h
  obtain ⟨g1, g2, g3, g4, g5, g6, g7, g8, g9, g10, g11, g12, g13⟩ := h1
  have a10 : ix (rdI (wrI S t 9 (nI K)) t 10) = τ := by rw [rdI_wrI, if_neg (by omega), g10, ix_nI g11]
  have a6 : rdI (wrI S t 9 (nI K)) τ 6 = nI c := by rw [rdI_wrI, if_neg (by omega)]; exact g13
  have es : cal (d + 63) 87 [vR 5 τ, vI (nI K)] (wrI S t 9 (nI K)) = some (none, wrI (wrI S t 9 (nI K)) (τ + 4) K (nI c)) := by
    rw [show d + 63 = (d + 62) + 1 by omega, B_X5_startLaw, isLaw_t _ hK, bI_s, if_neg (by decide), i2 hK, gd_t, ix_nI (by omega), a6]
  have w : ∀ q x, ¬ (q = t ∧ x = 9) → ¬ (q = τ + 4) → rdI (wrI (wrI S t 9 (nI K)) (τ + 4) K (nI c)) q x = rdI S q x := fun q x a1 a2 => by
    rw [rdI_wrI, if_neg (fun z => a2 z.1), rdI_wrI, if_neg a1]
  have wf : ∀ q, ¬ q = t → ¬ q = τ + 4 → rdI (wrI (wrI S t 9 (nI K)) (τ + 4) K (nI c)) q = rdI S q := fun q a1 a2 => funext fun x => w q x (fun z => a1 z.1) a2
  have hR : CR b n K t τ i c (wrI (wrI S t 9 (nI K)) (τ + 4) K (nI c)) := ⟨TkS_e g1 (w _ _ (by omega) (by omega)) (wf _ (by omega) (by omega)) (wf _ (by omega) (by omega)) (wf _ (by omega) (by omega)), g2, by rw [w _ _ (by omega) (by omega)]; exact g3, by rw [w _ _ (by omega) (by omega)]; exact g4, by rw [w _ _ (by omega) (by omega)]; exact g5, by rw [w _ _ (by omega) (by omega)]; exact g6, g7, by rw [rdI_wrI, if_neg (by omega), rdI_wrI, if_pos ⟨rfl, rfl⟩], hK, by rw [w _ _ (by omega) (by omega)]; exact g10, g11, g12, by rw [w _ _ (by omega) (by omega)]; exact g13⟩
  obtain ⟨S2, e2, R2, f2⟩ := H t τ c _ hR h2 (d + 63) (by omega)
  have e2' : cal (d + 63) 71 [vR 3 t, vI 0] (wrI (wrI S t 9 (nI K)) (τ + 4) K (nI c)) = some (none, S2) := e2
  have ee : cal (d + 63) 88 [vR 5 τ, vI (nI K)] S2 = some (none, wrI S2 (τ + 5) K (rdI S2 τ 6)) := by
    rw [show d + 63 = (d + 62) + 1 by omega, B_X5_endLaw, isLaw_t _ hK, bI_s, if_neg (by decide), i2 hK, gd_t, ix_nI (by omega)]
  have yf : ∀ q, ¬ q = τ + 5 → rdI (wrI S2 (τ + 5) K (rdI S2 τ 6)) q = rdI S2 q := fun q a2 => funext fun x => by rw [rdI_wrI, if_neg (fun z => a2 z.1)]
  refine ⟨wrI S2 (τ + 5) K (rdI S2 τ 6), ?_, ⟨CX_e R2 (yf _ (by omega)) (yf _ (by omega)) (yf _ (by omega)) (yf _ (by omega)) (by rw [yf _ (by omega)]), X.1, h3.1, ?_⟩, FrE_t FrE_9 (FrE_t (FrE_w (j := 4) g12 (by omega)) (FrE_t (FrE_U f2) (FrE_w (j := 5) g12 (by omega))))⟩
  · rw [show d + 64 = (d + 63) + 1 by omega, B_X3_readLaw, a10, es, bV_s, e2', bV_s, x10 R2, ee, bV_s]
  · rw [yf _ (by omega), f2.2.2.1 0 (by decide), w _ _ (by omega) (by omega)]; exact h3.2.1
theorem hl_es {i K : Nat} {S : Mem} (h : ES b n t τ (.inr i) X S) (hK : K ≤ 7) (d : Nat) : cal (d + 1) 85 [vR 5 τ, vI (nI K)] S = some (some (vI (b2i (decide (K < 2) && (txL X K).isSome))), S) := by
  obtain ⟨x9, c, h1, h2, h3⟩ := h
  have hN := CR_iv h1
  by_cases z : K < 2
  · have hL := h3.2.2.2 K z
    rw [decide_eq_true z, Bool.true_and]
    cases ho : txL X K with
    | none =>
      rw [ho] at hL
      exact hasLaw_t d τ z (i := 0) (j := 0) (by omega) (by omega) hL.1 hL.2
    | some v =>
      rw [ho] at hL
      obtain ⟨p, q, g1, g2, g3, g4, -⟩ := hL
      have := hasLaw_t d τ z (i := p) (j := q) (S := S) (by omega) (by omega) g3 g4
      rw [decide_eq_true g1] at this
      exact this
  · rw [decide_eq_false z, Bool.false_and, B_X5_hasLaw, B_X5_isLaw, if_neg (show ¬ nI K = 0 from fun y => z (by have := (nI_eq (a := K) (b := 0) (by omega) (by decide)).mp y; omega)), if_neg (show ¬ nI K = 1 from fun y => z (by have := (nI_eq (a := K) (b := 1) (by omega) (by decide)).mp y; omega)), gd_p isZ_0, bI_s, if_pos rfl, gd_p isZ_0]; rfl
theorem es_nx {i : Nat} {S : Mem} (h : ES b n t τ (.inr i) X S) (hi : i < tN b n) : rdI S t 8 + 1 = nI (i + 1) ∧ ES b n t τ (.inr (i + 1)) X (wrI S t 8 (nI (i + 1))) ∧ FrE t τ S (wrI S t 8 (nI (i + 1))) := by
  obtain ⟨x9, c, h1, h2, h3⟩ := h
  have ht := h1.2.2.2.2.2.2.2.2.2.2.2.1
  have fu : FrU t τ c S (wrI S t 8 (nI (i + 1))) := FrU_w ht (Or.inr (Or.inr rfl))
  exact ⟨by rw [h1.2.2.2.2.2.1, nI_1], ⟨x9, c, CR_atv h1 (by omega), by omega, TX_U h3 fu ht⟩, FrE_U fu⟩
/-- a fault at the clause's first token -/
theorem es_f {i f : Nat} {Y : Tx} {S : Mem} (h : ES b n t τ (.inr i) X S) (h0 : 0 < f) (h1 : f < 100) (d : Nat) : ∃ S', cal d 66 [vR 3 t, vI (nI f)] S = some (none, S') ∧ ES b n t τ (.inl (f, i)) Y S' ∧ FrE t τ S S' := by
  have hm := ES_m h
  obtain ⟨x9, c, g1, g2, g3⟩ := h
  have hN := CR_iv g1
  obtain ⟨S', e, k1, k2⟩ := fl_cv g1 (by omega) h0 h1 d
  exact ⟨S', e, ES_x k1 k2 hm, FrE_U k2⟩
theorem kk_e {i : Nat} {S : Mem} (h : ES b n t τ (.inr i) X S) (d : Nat) : cal d 65 [vR 3 t] S = some (some (vI (nI (tK b n i))), S) := by
  obtain ⟨x9, c, g1, g2, g3⟩ := h
  exact kr_cv g1 d
theorem cl_f1 {i : Nat} {Y : Tx} {S : Mem} (h : ES b n t τ (.inr i) X S) (hK : 7 < tK b n i) (d : Nat) : ∃ S', cal (d + 65) 68 [vR 3 t] S = some (none, S') ∧ ES b n t τ (.inl (1, i)) Y S' ∧ FrE t τ S S' := by
  have hle := tK_le b n i
  obtain ⟨S', e, k, f⟩ := es_f (Y := Y) h (f := 1) (by decide) (by decide) (d + 64)
  have e' : cal (d + 64) 66 [vR 3 t, vI 1] S = some (none, S') := e
  refine ⟨S', ?_, k, f⟩
  rw [show d + 65 = (d + 64) + 1 by omega, B_X3_readClause, kk_e h, bI_s, if_neg (show ¬ nI (tK b n i) ≤ 7 from fun z => by have := (nI_leI (a := tK b n i) (b := 7) (by omega) (by decide)).mp z; omega), e', bV_s]
theorem cl_f4 {i : Nat} {Y : Tx} {S : Mem} (h : ES b n t τ (.inr i) X S) (hK : tK b n i < 2) (hX : (txL X (tK b n i)).isSome = true) (d : Nat) : ∃ S', cal (d + 65) 68 [vR 3 t] S = some (none, S') ∧ ES b n t τ (.inl (4, i)) Y S' ∧ FrE t τ S S' := by
  obtain ⟨S', e, k, f⟩ := es_f (Y := Y) h (f := 4) (by decide) (by decide) (d + 64)
  have e' : cal (d + 64) 66 [vR 3 t, vI 4] S = some (none, S') := e
  refine ⟨S', ?_, k, f⟩
  rw [show d + 65 = (d + 64) + 1 by omega, B_X3_readClause, kk_e h, bI_s, if_pos (show nI (tK b n i) ≤ 7 from nI_le (b := 7) (by omega) (by decide)), (ES_10 h).1, show d + 64 = (d + 63) + 1 by omega, hl_es h (by omega), bI_s, hX, decide_eq_true hK, if_neg (by decide), show d + 63 + 1 = d + 64 by omega, e', bV_s]
theorem es_X {i : Nat} {S : Mem} (h : ES b n t τ (.inr i) X S) : X.1 ≤ 24 ∧ rdI S τ 0 = nI X.1 := by
  obtain ⟨x9, c, g1, g2, g3⟩ := h
  exact ⟨g3.1, g3.2.1⟩
theorem cl_f6 {i : Nat} {Y : Tx} {S : Mem} (h : ES b n t τ (.inr i) X S) (hK : tK b n i ≤ 7) (hX : (decide (tK b n i < 2) && (txL X (tK b n i)).isSome) = false) (hX2 : X.1 = 24) (d : Nat) : ∃ S', cal (d + 65) 68 [vR 3 t] S = some (none, S') ∧ ES b n t τ (.inl (6, i)) Y S' ∧ FrE t τ S S' := by
  obtain ⟨S', e, k, f⟩ := es_f (Y := Y) h (f := 6) (by decide) (by decide) (d + 64)
  have e' : cal (d + 64) 66 [vR 3 t, vI 6] S = some (none, S') := e
  refine ⟨S', ?_, k, f⟩
  rw [show d + 65 = (d + 64) + 1 by omega, B_X3_readClause, kk_e h, bI_s, if_pos (show nI (tK b n i) ≤ 7 from nI_le (b := 7) (by omega) (by decide)), (ES_10 h).1, show d + 64 = (d + 63) + 1 by omega, hl_es h (by omega), bI_s, hX, if_pos (show b2i false = 0 from rfl), (ES_10 h).1, (es_X h).2, hX2, if_neg (show ¬ nI 24 < 24 by decide), show d + 63 + 1 = d + 64 by omega, e', bV_s]
/-- the row from the second token on -/
theorem cl_h {i K : Nat} {S : Mem} (h : ES b n t τ (.inr i) X S) (hK : tK b n i = K) (h7 : K ≤ 7) (hX : (decide (K < 2) && (txL X K).isSome) = false) (hX2 : X.1 < 24) (d : Nat) : cal (d + 65) 68 [vR 3 t] S = (if nI K = 2 then bI (cal (d + 64) 69 [vR 3 t, vI 0, vI 999] (wrI S t 8 (nI (i + 1)))) (fun x6 S5 => bV (cal (d + 64) 67 [vR 3 t, vI 37] S5) (fun S7 => bV (cal (d + 64) 89 [vR 5 (ix (rdI S7 t 10)), vI (nI K), vI x6, vI 0] S7) (fun S8 => some (none, S8)))) else (if nI K = 3 then bI (cal (d + 64) 69 [vR 3 t, vI 0, vI 191] (wrI S t 8 (nI (i + 1)))) (fun x10 S9 => bV (cal (d + 64) 67 [vR 3 t, vI 37] S9) (fun S11 => bV (cal (d + 64) 89 [vR 5 (ix (rdI S11 t 10)), vI (nI K), vI x10, vI 0] S11) (fun S12 => some (none, S12)))) else (if nI K = 4 then bI (cal (d + 64) 69 [vR 3 t, vI 0, vI 999] (wrI S t 8 (nI (i + 1)))) (fun x14 S13 => bV (cal (d + 64) 67 [vR 3 t, vI 8] S13) (fun S15 => bI (cal (d + 64) 69 [vR 3 t, vI 0, vI 191] S15) (fun x17 S16 => bV (cal (d + 64) 67 [vR 3 t, vI 37] S16) (fun S18 => bV (cal (d + 64) 89 [vR 5 (ix (rdI S18 t 10)), vI (nI K), vI x14, vI x17] S18) (fun S19 => some (none, S19)))))) else (if nI K = 5 then bI (cal (d + 64) 69 [vR 3 t, vI 0, vI 11] (wrI S t 8 (nI (i + 1)))) (fun x21 S20 => bV (cal (d + 64) 67 [vR 3 t, vI 9] S20) (fun S22 => bI (cal (d + 64) 69 [vR 3 t, vI 0, vI 11] S22) (fun x24 S23 => bV (cal (d + 64) 67 [vR 3 t, vI 37] S23) (fun S25 => bV (cal (d + 64) 89 [vR 5 (ix (rdI S25 t 10)), vI (nI K), vI x21, vI x24] S25) (fun S26 => some (none, S26)))))) else (if nI K = 6 then bV (cal (d + 64) 67 [vR 3 t, vI 37] (wrI S t 8 (nI (i + 1)))) (fun S27 => bV (cal (d + 64) 89 [vR 5 (ix (rdI S27 t 10)), vI (nI K), vI 0, vI 0] S27) (fun S28 => some (none, S28))) else (if nI K = 7 then bI (cal (d + 64) 69 [vR 3 t, vI 1, vI 60] (wrI S t 8 (nI (i + 1)))) (fun x30 S29 => bV (cal (d + 64) 67 [vR 3 t, vI 37] S29) (fun S31 => bV (cal (d + 64) 89 [vR 5 (ix (rdI S31 t 10)), vI (nI K), vI x30, vI 0] S31) (fun S32 => some (none, S32)))) else (bV (cal (d + 64) 70 [vR 3 t, vI (nI K)] (wrI S t 8 (nI (i + 1)))) (fun S33 => bV (cal (d + 64) 67 [vR 3 t, vI 37] S33) (fun S34 => bV (cal (d + 64) 89 [vR 5 (ix (rdI S34 t 10)), vI (nI K), vI 0, vI 0] S34) (fun S35 => some (none, S35))))))))))) := by
  have hi := tK_in (b := b) (n := n) (i := i) (by omega)
  rw [show d + 65 = (d + 64) + 1 by omega, B_X3_readClause, kk_e h, bI_s, hK, if_pos (show nI K ≤ 7 from nI_le (b := 7) (by omega) (by decide)), (ES_10 h).1, show d + 64 = (d + 63) + 1 by omega, hl_es h (by omega), bI_s, hX, if_pos (show b2i false = 0 from rfl), (ES_10 h).1, (es_X h).2, if_pos (show nI X.1 < 24 from nI_lt (b := 24) hX2 (by decide)), (es_nx h hi).1]
/-- all but the laws -/
theorem cl_n {i K : Nat} {S : Mem} (h : ES b n t τ (.inr i) X S) (hK : tK b n i = K) (h2 : 2 ≤ K) (h7 : K ≤ 7) (hX2 : X.1 < 24) (d : Nat) : ∃ S', cal (d + 65) 68 [vR 3 t] S = some (none, S') ∧ ES b n t τ (takP b n 37 (bdP b n K (.inr (i + 1))).1) (apX X K (bdP b n K (.inr (i + 1))).2.1 (bdP b n K (.inr (i + 1))).2.2) S' ∧ FrE t τ S S' := by
  have hi := tK_in (b := b) (n := n) (i := i) (by omega)
  obtain ⟨-, k0, f0⟩ := es_nx h hi
  rw [cl_h h hK h7 (by rw [decide_eq_false (by omega)]; rfl) hX2]
  rcases (show K = 2 ∨ K = 3 ∨ K = 4 ∨ K = 5 ∨ K = 6 ∨ K = 7 by omega) with rfl | rfl | rfl | rfl | rfl | rfl
  · have eb : bdP b n 2 (.inr (i + 1)) = ((numP b n 0 999 (.inr (i + 1))).1, ((numP b n 0 999 (.inr (i + 1))).2, 0)) := rfl
    obtain ⟨S1, e1, k1, f1⟩ := num_es (lo := 0) (hi := 999) k0 (by decide) (by decide) (d + 63)
    have e1' : cal (d + 64) 69 [vR 3 t, vI 0, vI 999] (wrI S t 8 (nI (i + 1))) = some (some (vI (nI (numP b n 0 999 (.inr (i + 1))).2)), S1) := e1
    obtain ⟨S2, e2, k2, f2⟩ := tl_es (K := 2) (a := (numP b n 0 999 (.inr (i + 1))).2) (c := 0) k1 hX2 (d + 63)
    rw [eb, if_pos (show nI 2 = 2 from rfl), e1', bI_s]
    exact ⟨S2, e2, k2, FrE_t f0 (FrE_t f1 f2)⟩
  · have eb : bdP b n 3 (.inr (i + 1)) = ((numP b n 0 191 (.inr (i + 1))).1, ((numP b n 0 191 (.inr (i + 1))).2, 0)) := rfl
    obtain ⟨S1, e1, k1, f1⟩ := num_es (lo := 0) (hi := 191) k0 (by decide) (by decide) (d + 63)
    have e1' : cal (d + 64) 69 [vR 3 t, vI 0, vI 191] (wrI S t 8 (nI (i + 1))) = some (some (vI (nI (numP b n 0 191 (.inr (i + 1))).2)), S1) := e1
    obtain ⟨S2, e2, k2, f2⟩ := tl_es (K := 3) (a := (numP b n 0 191 (.inr (i + 1))).2) (c := 0) k1 hX2 (d + 63)
    rw [eb, if_neg (by decide), if_pos (show nI 3 = 3 from rfl), e1', bI_s]
    exact ⟨S2, e2, k2, FrE_t f0 (FrE_t f1 f2)⟩
  · have eb : bdP b n 4 (.inr (i + 1)) = twP b n 999 8 191 (.inr (i + 1)) := rfl
    obtain ⟨S1, e1, k1, f1⟩ := num_es (lo := 0) (hi := 999) k0 (by decide) (by decide) (d + 63)
    have e1' : cal (d + 64) 69 [vR 3 t, vI 0, vI 999] (wrI S t 8 (nI (i + 1))) = some (some (vI (nI (numP b n 0 999 (.inr (i + 1))).2)), S1) := e1
    obtain ⟨S2, e2, k2, f2⟩ := tak_es (K := 8) k1 (by decide) (by decide) (d + 63)
    have e2' : cal (d + 64) 67 [vR 3 t, vI 8] S1 = some (none, S2) := e2
    obtain ⟨S3, e3, k3, f3⟩ := num_es (lo := 0) (hi := 191) k2 (by decide) (by decide) (d + 63)
    have e3' : cal (d + 64) 69 [vR 3 t, vI 0, vI 191] S2 = some (some (vI (nI (numP b n 0 191 (takP b n 8 (numP b n 0 999 (.inr (i + 1))).1)).2)), S3) := e3
    obtain ⟨S4, e4, k4, f4⟩ := tl_es (K := 4) (a := (numP b n 0 999 (.inr (i + 1))).2) (c := (numP b n 0 191 (takP b n 8 (numP b n 0 999 (.inr (i + 1))).1)).2) k3 hX2 (d + 63)
    rw [eb, if_neg (by decide), if_neg (by decide), if_pos (show nI 4 = 4 from rfl), e1', bI_s, e2', bV_s, e3', bI_s]
    exact ⟨S4, e4, k4, FrE_t f0 (FrE_t f1 (FrE_t f2 (FrE_t f3 f4)))⟩
  · have eb : bdP b n 5 (.inr (i + 1)) = twP b n 11 9 11 (.inr (i + 1)) := rfl
    obtain ⟨S1, e1, k1, f1⟩ := num_es (lo := 0) (hi := 11) k0 (by decide) (by decide) (d + 63)
    have e1' : cal (d + 64) 69 [vR 3 t, vI 0, vI 11] (wrI S t 8 (nI (i + 1))) = some (some (vI (nI (numP b n 0 11 (.inr (i + 1))).2)), S1) := e1
    obtain ⟨S2, e2, k2, f2⟩ := tak_es (K := 9) k1 (by decide) (by decide) (d + 63)
    have e2' : cal (d + 64) 67 [vR 3 t, vI 9] S1 = some (none, S2) := e2
    obtain ⟨S3, e3, k3, f3⟩ := num_es (lo := 0) (hi := 11) k2 (by decide) (by decide) (d + 63)
    have e3' : cal (d + 64) 69 [vR 3 t, vI 0, vI 11] S2 = some (some (vI (nI (numP b n 0 11 (takP b n 9 (numP b n 0 11 (.inr (i + 1))).1)).2)), S3) := e3
    obtain ⟨S4, e4, k4, f4⟩ := tl_es (K := 5) (a := (numP b n 0 11 (.inr (i + 1))).2) (c := (numP b n 0 11 (takP b n 9 (numP b n 0 11 (.inr (i + 1))).1)).2) k3 hX2 (d + 63)
    rw [eb, if_neg (by decide), if_neg (by decide), if_neg (by decide), if_pos (show nI 5 = 5 from rfl), e1', bI_s, e2', bV_s, e3', bI_s]
    exact ⟨S4, e4, k4, FrE_t f0 (FrE_t f1 (FrE_t f2 (FrE_t f3 f4)))⟩
  · have eb : bdP b n 6 (.inr (i + 1)) = (.inr (i + 1), (0, 0)) := rfl
    obtain ⟨S2, e2, k2, f2⟩ := tl_es (K := 6) (a := 0) (c := 0) k0 hX2 (d + 63)
    rw [eb, if_neg (by decide), if_neg (by decide), if_neg (by decide), if_neg (by decide), if_pos (show nI 6 = 6 from rfl)]
    exact ⟨S2, e2, k2, FrE_t f0 f2⟩
  · have eb : bdP b n 7 (.inr (i + 1)) = ((numP b n 1 60 (.inr (i + 1))).1, ((numP b n 1 60 (.inr (i + 1))).2, 0)) := rfl
    obtain ⟨S1, e1, k1, f1⟩ := num_es (lo := 1) (hi := 60) k0 (by decide) (by decide) (d + 63)
    have e1' : cal (d + 64) 69 [vR 3 t, vI 1, vI 60] (wrI S t 8 (nI (i + 1))) = some (some (vI (nI (numP b n 1 60 (.inr (i + 1))).2)), S1) := e1
    obtain ⟨S2, e2, k2, f2⟩ := tl_es (K := 7) (a := (numP b n 1 60 (.inr (i + 1))).2) (c := 0) k1 hX2 (d + 63)
    rw [eb, if_neg (by decide), if_neg (by decide), if_neg (by decide), if_neg (by decide), if_neg (by decide), if_pos (show nI 7 = 7 from rfl), e1', bI_s]
    exact ⟨S2, e2, k2, FrE_t f0 (FrE_t f1 f2)⟩
/-- the laws -/
theorem cl_l {i K : Nat} {S : Mem} (h : ES b n t τ (.inr i) X S) (hK : tK b n i = K) (h2 : K < 2) (hX : txL X K = none) (hX2 : X.1 < 24) (d : Nat) : cal (d + 65) 68 [vR 3 t] S = bV (cal (d + 64) 70 [vR 3 t, vI (nI K)] (wrI S t 8 (nI (i + 1)))) (fun S33 => bV (cal (d + 64) 67 [vR 3 t, vI 37] S33) (fun S34 => bV (cal (d + 64) 89 [vR 5 (ix (rdI S34 t 10)), vI (nI K), vI 0, vI 0] S34) (fun S35 => some (none, S35)))) := by
  rw [cl_h h hK (by omega) (by rw [hX]; exact Bool.and_false _) hX2]
  rcases (show K = 0 ∨ K = 1 by omega) with rfl | rfl
  · rw [if_neg (by decide), if_neg (by decide), if_neg (by decide), if_neg (by decide), if_neg (by decide), if_neg (by decide)]
  · rw [if_neg (by decide), if_neg (by decide), if_neg (by decide), if_neg (by decide), if_neg (by decide), if_neg (by decide)]
theorem cl_lok {i j K : Nat} {v : Env → Int} {S : Mem} (h : ES b n t τ (.inr i) X S) (hK : tK b n i = K) (h2 : K < 2) (hX : txL X K = none) (hX2 : X.1 < 24) (hij : i + 1 < j) (H : COk b n K 71 63 0 (i + 1) j 3 v) (d : Nat) : ∃ S', cal (d + 65) 68 [vR 3 t] S = some (none, S') ∧ ES b n t τ (takP b n 37 (.inr j)) (apX (lwX X K v) K 0 0) S' ∧ FrE t τ S S' := by
  have hi := tK_in (b := b) (n := n) (i := i) (by omega)
  obtain ⟨-, k0, f0⟩ := es_nx h hi
  obtain ⟨S1, e1, k1, f1⟩ := law_ok k0 h2 hij H d
  obtain ⟨S2, e2, k2, f2⟩ := tl_es (K := K) (a := 0) (c := 0) k1 hX2 (d + 63)
  rw [cl_l h hK h2 hX hX2, e1, bV_s]
  exact ⟨S2, e2, k2, FrE_t f0 (FrE_t f1 f2)⟩
theorem cl_lfa {i f k K : Nat} {Y : Tx} {S : Mem} (h : ES b n t τ (.inr i) X S) (hK : tK b n i = K) (h2 : K < 2) (hX : txL X K = none) (hX2 : X.1 < 24) (H : CFa b n K 71 63 0 (i + 1) f k) (d : Nat) : ∃ S', cal (d + 65) 68 [vR 3 t] S = some (none, S') ∧ ES b n t τ (.inl (f, k)) Y S' ∧ FrE t τ S S' := by
  have hi := tK_in (b := b) (n := n) (i := i) (by omega)
  obtain ⟨-, k0, f0⟩ := es_nx h hi
  obtain ⟨S1, e1, k1, f1⟩ := law_fa (Y := X) k0 h2 H d
  obtain ⟨S2, e2, k2, f2⟩ := tl_es (K := K) (a := 0) (c := 0) k1 hX2 (d + 63)
  rw [cl_l h hK h2 hX hX2, e1, bV_s]
  exact ⟨S2, e2, k2, FrE_t f0 (FrE_t f1 f2)⟩
end CY_
