/-! the reference's parser: one is begun -/
noncomputable def LA (r d : Nat) (S : Mem) : Option Res := ev (d + 9) 206 15 [vR 8 r, vU] [] S
def co_ (T r : Nat) (S : Mem) : Nat → Int32 := fun x => rdI S (r + 3) (681 * T + 73 + 2 * x)
def vl_ (T r : Nat) (S : Mem) : Nat → Int32 := fun x => rdI S (r + 3) (681 * T + 73 + 2 * x + 1)
theorem cv_k {T r w : Nat} {S S' : Mem} (f : FrW r T w S S') (hT : T < 4) {x : Nat} (hx : x < w) : co_ T r S' x = co_ T r S x ∧ vl_ T r S' x = vl_ T r S x := ⟨f.2.2.1 _ (by omega), f.2.2.1 _ (by omega)⟩
theorem RD_f {al : Nat → Bool} {T r w w1 w2 : Nat} {S S' : Mem} {v : Env → Int} (H : RD al (co_ T r S) (vl_ T r S) w1 w2 v) (f : FrW r T w S S') (hT : T < 4) (hw : w2 ≤ w) : RD al (co_ T r S') (vl_ T r S') w1 w2 v := RD_cong H (fun x _ h2 => cv_k f hT (by omega))
theorem RB_f {al : Nat → Bool} {T r w w1 w2 : Nat} {S S' : Mem} {v : Env → Bool} (H : RB al (co_ T r S) (vl_ T r S) w1 w2 v) (f : FrW r T w S S') (hT : T < 4) (hw : w2 ≤ w) : RB al (co_ T r S') (vl_ T r S') w1 w2 v := RB_cong H (fun x _ h2 => cv_k f hT (by omega))
theorem em_cv (S : Mem) (r T w : Nat) (a v : Int32) : co_ T r (emM S r T w a v) w = a ∧ vl_ T r (emM S r T w a v) w = v := by
  unfold co_ vl_ emM
  rw [rdI_wrI, if_neg (by omega), rdI_wrI, if_neg (by omega), rdI_wrI, if_pos ⟨rfl, rfl⟩, rdI_wrI, if_neg (by omega), rdI_wrI, if_pos ⟨rfl, rfl⟩]
  exact ⟨rfl, rfl⟩
def askA (L : List Nat) : Bool := match L with
  | [] => false
  | a :: _ => decide (opN L = 41) && (decide (40 ≤ a) || (decide (1 ≤ rkN a) && decide (rkN a ≤ 3)))
theorem askA_s (a : Nat) (L : List Nat) : askA (a :: L) = (decide (opN (a :: L) = 41) && (decide (40 ≤ a) || (decide (1 ≤ rkN a) && decide (rkN a ≤ 3)))) := rfl
section RQ_
variable {b : Nat → Nat} {n law r T : Nat}
theorem la_u (d : Nat) (u : AV) (S : Mem) : ev (d + 9) 206 15 [vR 8 r, u] [] S = LA r d S := (B_X8_summed_15 (d + 8) r u S).trans (B_X8_summed_15 (d + 8) r vU S).symm
theorem la_b {d : Nat} {S S' : Mem} (e18 : rdI S r 18 = 0) (e : cal (d + 8) 201 [vR 8 r] S = some (some (vI 0), S')) : LA r d S = LA r d S' := by
  unfold LA
  rw [B_X8_summed_15, e18, if_pos rfl, e, bI_s, if_pos rfl]
  exact la_u d _ S'
theorem la_bf {d f : Nat} {S S' : Mem} (e18 : rdI S r 18 = 0) (h0 : 0 < f) (h1 : f < 100) (e : cal (d + 8) 201 [vR 8 r] S = some (some (vI (nI f)), S')) : LA r d S = some (some (vI (nI f)), S') := by
  unfold LA
  rw [B_X8_summed_15, e18, if_pos rfl, e, bI_s, if_neg (nI_ne0 h0 (by omega))]
theorem aa_m {S : Mem} {L : List Nat} (e : rdI S r 16 = nI L.length) (h : PiL r L S) (hl : L.length < 160) (d : Nat) : cal (d + 2) 199 [vR 8 r] S = some (some (vI (b2i (askA L))), S) := by
  rw [B_X8_isAskAhead, on_m e h hl, bI_s]
  cases L with
  | nil => rw [if_neg (by decide), q0_t]; rfl
  | cons a L =>
    rw [PiL_s] at h
    rw [List.length_cons] at hl e
    have hr := rkN_le a
    have es : nI (L.length + 1) - 1 = nI L.length := s1_sub (by omega)
    rw [askA_s]
    by_cases z : opN (a :: L) = 41
    · rw [if_pos z, decide_eq_true z, Bool.true_and, e, es, inb_t (by omega) (by decide), gd_t, ix_nI (by omega), h.1]
      by_cases y : 40 ≤ a
      · rw [if_pos (show (40 : Int32) ≤ nI a from nI_le (a := 40) y (by have := h.2.1; omega)), q1_t, decide_eq_true y, Bool.true_or]
      · have l1 : decide ((1 : Int32) ≤ nI (rkN a)) = decide (1 ≤ rkN a) := decide_eq_decide.mpr (nI_leI (a := 1) (by decide) (by omega))
        have l3 : decide (nI (rkN a) ≤ (3 : Int32)) = decide (rkN a ≤ 3) := decide_eq_decide.mpr (nI_leI (b := 3) (by omega) (by decide))
        rw [if_neg (show ¬ (40 : Int32) ≤ nI a from nI_ge (b := 40) (by omega) (by decide)), gd_t, rk_m h.2.1, bI_s, sp_isIn, bI_s, ite_b0, l1, l3, decide_eq_false y, Bool.false_or]
        cases (decide (1 ≤ rkN a) && decide (rkN a ≤ 3))
        · rw [if_pos rfl, q0_t]
        · rw [if_neg (by decide), q1_t]
    · rw [if_neg z, decide_eq_false z, Bool.false_and, q0_t]
/-- what opens one more -/
theorem opn_m {k o w a : Nat} {L : List Nat} {wh : Int32} {S : Mem} (h : RC b n law r T k L o wh w S) (hb : w + L.length ≤ k) (hk : k < tN b n) (hL : L.length < 160) (ho : o < 8) (ha : a < 100) (d : Nat) : ∃ S', cal (d + 2) 200 [vR 8 r, vI (nI a)] S = some (some (vI 0), S') ∧ RC b n law r T (k + 1) (a :: L) (o + 1) wh w S' ∧ FrW r T w S S' := by
  have h' := h
  have e17 : rdI S r 17 = nI o := h.2.2.2.1
  have h1 := RC_17 h (o' := o + 1) (by omega)
  have h2 := RC_pu h1 ha (by omega)
  obtain ⟨S', e, h3, f3⟩ := RC_nx h2 hk d
  have e16 : rdI (wrI S r 17 (nI (o + 1))) r 16 = nI L.length := h1.2.1
  have e16' : rdI (wrI (wrI S r 17 (nI (o + 1))) (r + 5) L.length (nI a)) r 16 = nI L.length := by rw [rdI_wrI, if_neg (by omega)]; exact e16
  refine ⟨S', ?_, h3, FrW_t (FrW_w (w := w) (by unfold Wr; omega)) (FrW_t (FrW_5 (w := w)) (FrW_t (FrW_w (w := w) (by unfold Wr; omega)) (FrW_H f3) (Nat.le_refl _)) (Nat.le_refl _)) (Nat.le_refl _)⟩
  unfold puM at e
  rw [B_X8_opened, e17, if_neg (show ¬ nI o = 8 from nK (y := 8) (by omega) (by decide) (by omega)), nI_1, e16, inb_t hL (by decide), gd_t, ix_nI (by omega), e16', nI_1, e, bV_s]
theorem opf_m {k o w : Nat} {a : Int32} {L : List Nat} {wh : Int32} {S : Mem} (h : RC b n law r T k L o wh w S) (ho : o = 8) (d : Nat) : cal (d + 1) 200 [vR 8 r, vI a] S = some (some (vI 3), S) := by
  rw [B_X8_opened, h.2.2.2.1, ho, if_pos (show nI 8 = 8 from rfl)]
/-- a number or a name -/
theorem bgl_m {k o w : Nat} {a v : Int32} {L : List Nat} {S : Mem} (h : RC b n law r T k L o 0 w S) (hb : w + L.length ≤ k) (hk : k < tN b n) (d : Nat) : ∃ S0, ev (d + 8) 201 81 [vR 8 r, vU] [vI v, vI a, vR 8 r] S = bV (cal (d + 7) 195 [vR 8 r, vI 7] S0) (fun S3 => some (some (vI 0), S3)) ∧ RC b n law r T (k + 1) L o 1 (w + 1) S0 ∧ w + 1 + L.length ≤ k + 1 ∧ FrW r T w S S0 ∧ co_ T r S0 w = a ∧ vl_ T r S0 w = v := by
  have hB := RC_b h
  have h1 := RC_em (a := a) (v := v) h (by omega)
  obtain ⟨S2, e2, h2, f2⟩ := RC_nx h1 hk (d + 6)
  have h3 := RC_18 (wh' := 1) h2
  have fe := FrW_e (r := r) (T := T) (w := w) (a := a) (v := v) (S := S) (by omega)
  have f3 : FrW r T (w + 1) (emM S r T w a v) (wrI S2 r 18 1) := FrW_t (FrW_H f2) (FrW_w (w := w + 1) (by unfold Wr; omega)) (Nat.le_refl _)
  obtain ⟨c1, c2⟩ := em_cv S r T w a v
  obtain ⟨c3, c4⟩ := cv_k f3 hB.2.2.2.1 (x := w) (by omega)
  refine ⟨wrI S2 r 18 1, ?_, h3, by omega, FrW_t fe f3 (by omega), c3.trans c1, c4.trans c2⟩
  rw [B_X8_beginOne_81, em_m h.2.2.2.2.2.2.1 h.2.2.2.2.2.1 hB.2.2.2.1 (by omega), bV_s, e2, bV_s, gd_p isZ_1]
theorem bg_u {d : Nat} {a1 v a : Int32} {S : Mem} : ev (d + 8) 201 81 [vR 8 r, vI a1] [vI v, vI a, vR 8 r] S = ev (d + 8) 201 81 [vR 8 r, vU] [vI v, vI a, vR 8 r] S := (B_X8_beginOne_81 (d + 7) r (vI a1) v a r S).trans (B_X8_beginOne_81 (d + 7) r vU v a r S).symm
theorem lt0_m1 {K : Nat} (h : ¬ (19 ≤ K ∧ K ≤ 24)) : nmV K = -1 := by unfold nmV; rw [if_neg h]
theorem bg_num {k o w : Nat} {L : List Nat} {S : Mem} (h : RC b n law r T k L o 0 w S) (hb : w + L.length ≤ k) (hK : tK b n k = 38) (hv : tV b n k ≤ 9999) (d : Nat) : ∃ S0, cal (d + 8) 201 [vR 8 r] S = bV (cal (d + 7) 195 [vR 8 r, vI 7] S0) (fun S3 => some (some (vI 0), S3)) ∧ RC b n law r T (k + 1) L o 1 (w + 1) S0 ∧ w + 1 + L.length ≤ k + 1 ∧ FrW r T w S S0 ∧ co_ T r S0 w = 0 ∧ vl_ T r S0 w = nI (tV b n k) := by
  have hk := tK_in (b := b) (n := n) (i := k) (by omega)
  have e9 : rdI S r 9 = 1 := (is9 h.1 (c := 1) (K := 38) (by decide) (by decide)).mpr hK
  have hd : isLe (b (tP b n k)) = false ∧ isDg (b (tP b n k)) = true := by
    have hp := tN_lt hk
    unfold tK tk at hK
    rw [if_pos hp] at hK
    by_cases z : isLe (b (tP b n k)) = true
    · rw [if_pos z] at hK
      have hK : wKd b (tP b n k) (eW b n (tP b n k)) = 38 := hK
      have := wKd_lt (b := b) (p := tP b n k) (e := eW b n (tP b n k)); omega
    · refine ⟨bf z, ?_⟩
      have hs := sgK_le (b (tP b n k))
      rw [if_neg z] at hK
      by_cases y : isDg (b (tP b n k)) = true
      · exact y
      · rw [if_neg y] at hK
        by_cases x : two b n (tP b n k) 60 = true
        · rw [if_pos x] at hK; exact absurd hK (show ¬ 26 = 38 by decide)
        · rw [if_neg x] at hK
          by_cases u : two b n (tP b n k) 62 = true
          · rw [if_pos u] at hK; exact absurd hK (show ¬ 28 = 38 by decide)
          · rw [if_neg u] at hK
            have hK : sgK (b (tP b n k)) = 38 := hK
            omega
  obtain ⟨v, v1, v2, v3⟩ := h.1.2.2.2.2.1 (tN_lt hk) hd.1 hd.2
  have ev_ : tV b n k = nuV b (tP b n k) (eN b n (tP b n k) - tP b n k) := by
    unfold tV tk
    rw [hd.1, if_neg (by decide), if_pos hd.2]
  have evv : v = tV b n k := by rw [ev_]; omega
  obtain ⟨S0, e0, h0⟩ := bgl_m (a := 0) (v := nI (tV b n k)) h hb hk d
  refine ⟨S0, ?_, h0⟩
  rw [B_X8_beginOne, e9, if_pos rfl, v2, if_pos (show nI v ≤ 9999 from nI_le (b := 9999) (by omega) (by decide)), B_X8_beginOne_20, nm_m h.1 (d + 2), bI_s, lt0_m1 (by omega), if_pos (by decide), B_X8_beginOne_39, e9, if_pos rfl, B_X8_beginOne_51, e9, if_pos rfl, B_X8_beginOne_65, e9, if_pos rfl, bg_u, v2, evv]
  exact e0
theorem bg_numf {k o w : Nat} {L : List Nat} {S : Mem} (h : RC b n law r T k L o 0 w S) (hK : tK b n k = 38) (hv : ¬ tV b n k ≤ 9999) (d : Nat) : cal (d + 8) 201 [vR 8 r] S = some (some (vI (nI 2)), S) := by
  have hk := tK_in (b := b) (n := n) (i := k) (by omega)
  have e9 : rdI S r 9 = 1 := (is9 h.1 (c := 1) (K := 38) (by decide) (by decide)).mpr hK
  have hd : isLe (b (tP b n k)) = false ∧ isDg (b (tP b n k)) = true := by
    have hp := tN_lt hk
    unfold tK tk at hK
    rw [if_pos hp] at hK
    by_cases z : isLe (b (tP b n k)) = true
    · rw [if_pos z] at hK
      have hK : wKd b (tP b n k) (eW b n (tP b n k)) = 38 := hK
      have := wKd_lt (b := b) (p := tP b n k) (e := eW b n (tP b n k)); omega
    · refine ⟨bf z, ?_⟩
      have hs := sgK_le (b (tP b n k))
      rw [if_neg z] at hK
      by_cases y : isDg (b (tP b n k)) = true
      · exact y
      · rw [if_neg y] at hK
        by_cases x : two b n (tP b n k) 60 = true
        · rw [if_pos x] at hK; exact absurd hK (show ¬ 26 = 38 by decide)
        · rw [if_neg x] at hK
          by_cases u : two b n (tP b n k) 62 = true
          · rw [if_pos u] at hK; exact absurd hK (show ¬ 28 = 38 by decide)
          · rw [if_neg u] at hK
            have hK : sgK (b (tP b n k)) = 38 := hK
            omega
  obtain ⟨v, v1, v2, v3⟩ := h.1.2.2.2.2.1 (tN_lt hk) hd.1 hd.2
  have ev_ : tV b n k = nuV b (tP b n k) (eN b n (tP b n k) - tP b n k) := by
    unfold tV tk
    rw [hd.1, if_neg (by decide), if_pos hd.2]
  rw [B_X8_beginOne, e9, if_pos rfl, v2, if_neg (show ¬ nI v ≤ 9999 from nI_ge (a := 9999) (by omega) (by omega))]; rfl
theorem n9_1 {k : Nat} {S : Mem} (h : RT b n r k S) (hK : ¬ tK b n k = 38) : ¬ rdI S r 9 = 1 := mt (is9 h (c := 1) (K := 38) (by decide) (by decide)).mp hK
theorem isOf_m {k o w K : Nat} {L : List Nat} {wh : Int32} {S : Mem} (h : RC b n law r T k L o wh w S) (hK : 19 ≤ K ∧ K ≤ 24) (d : Nat) : cal d 193 [vR 8 r, vI (nI (K - 19))] S = some (some (vI (b2i (alL law (K - 19)))), S) := by
  have hl := (RC_b h).2.2.2.2.1
  have e14 : rdI S r 14 = nI law := h.2.2.2.2.2.2.2.2.1
  rw [B_X8_isOf, e14]
  have h2 : (law = 0 ∧ nI law = 0 ∧ ¬ nI law = 1) ∨ (law = 1 ∧ nI law = 1 ∧ ¬ nI law = 0) := by
    rcases (show law = 0 ∨ law = 1 by omega) with z | z
    · rw [z]; exact Or.inl ⟨rfl, rfl, by decide⟩
    · rw [z]; exact Or.inr ⟨rfl, rfl, by decide⟩
  rcases (show K - 19 = 0 ∨ K - 19 = 1 ∨ K - 19 = 2 ∨ K - 19 = 3 ∨ K - 19 = 4 ∨ K - 19 = 5 by omega) with z | z | z | z | z | z
  · rw [z, if_pos (by decide), q1_t]; rfl
  · rw [z, if_pos (by decide), q1_t]; rfl
  · rw [z, if_pos (by decide), q1_t]; rfl
  · rw [z, if_neg (by decide), if_neg (by decide)]
    rcases h2 with ⟨y1, y2, y3⟩ | ⟨y1, y2, y3⟩
    · rw [if_pos y2, q1_t, y1]; rfl
    · rw [if_neg y3, q0_t, y1]; rfl
  · rw [z, if_neg (by decide), if_neg (by decide)]
    rcases h2 with ⟨y1, y2, y3⟩ | ⟨y1, y2, y3⟩
    · rw [if_pos y2, q1_t, y1]; rfl
    · rw [if_neg y3, q0_t, y1]; rfl
  · rw [z, if_neg (by decide), if_pos (by decide)]
    rcases h2 with ⟨y1, y2, y3⟩ | ⟨y1, y2, y3⟩
    · rw [if_neg y3, q0_t, y1]; rfl
    · rw [if_pos y2, q1_t, y1]; rfl
theorem nm_n {K : Nat} (h : 19 ≤ K ∧ K ≤ 24) : nmV K = nI (K - 19) := by unfold nmV; rw [if_pos h]
theorem bg_name {k o w : Nat} {L : List Nat} {S : Mem} (h : RC b n law r T k L o 0 w S) (hb : w + L.length ≤ k) (hK : 19 ≤ tK b n k ∧ tK b n k ≤ 24) (hal : alL law (tK b n k - 19) = true) (d : Nat) : ∃ S0, cal (d + 8) 201 [vR 8 r] S = bV (cal (d + 7) 195 [vR 8 r, vI 7] S0) (fun S3 => some (some (vI 0), S3)) ∧ RC b n law r T (k + 1) L o 1 (w + 1) S0 ∧ w + 1 + L.length ≤ k + 1 ∧ FrW r T w S S0 ∧ co_ T r S0 w = 1 ∧ vl_ T r S0 w = nI (tK b n k - 19) := by
  have hk := tK_in (b := b) (n := n) (i := k) (by omega)
  have e9 := n9_1 h.1 (by omega)
  obtain ⟨S0, e0, h0⟩ := bgl_m (a := 1) (v := nI (tK b n k - 19)) h hb hk d
  refine ⟨S0, ?_, h0⟩
  rw [B_X8_beginOne, if_neg e9, B_X8_beginOne_20, nm_m h.1 (d + 2), bI_s, nm_n hK, if_neg (nI_pos (by omega)), isOf_m h hK, bI_s, hal, ite_b0, if_neg (by decide), B_X8_beginOne_39, if_neg e9, if_neg (nI_pos (by omega)), B_X8_beginOne_51, if_neg e9, B_X8_beginOne_65, if_neg e9, bg_u]
  exact e0
theorem bg_namef {k o w : Nat} {L : List Nat} {S : Mem} (h : RC b n law r T k L o 0 w S) (hK : 19 ≤ tK b n k ∧ tK b n k ≤ 24) (hal : alL law (tK b n k - 19) = false) (d : Nat) : cal (d + 8) 201 [vR 8 r] S = some (some (vI (nI 5)), S) := by
  have e9 := n9_1 h.1 (by omega)
  rw [B_X8_beginOne, if_neg e9, B_X8_beginOne_20, nm_m h.1 (d + 2), bI_s, nm_n hK, if_neg (nI_pos (by omega)), isOf_m h hK, bI_s, hal, ite_b0, if_pos rfl]; rfl
/-- the row of words and signs, for what is no number and no name -/
theorem bg_w {k o w : Nat} {L : List Nat} {S : Mem} (h : RC b n law r T k L o 0 w S) (hL : L.length < 160) (h38 : ¬ tK b n k = 38) (hnm : ¬ (19 ≤ tK b n k ∧ tK b n k ≤ 24)) (d : Nat) : cal (d + 8) 201 [vR 8 r] S = if tK b n k = 35 then bI (cal (d + 7) 200 [vR 8 r, vI (nI 40)] S) (fun x2 S1 => some (some (vI x2), S1)) else if tK b n k = 32 then bI (cal (d + 7) 200 [vR 8 r, vI (nI 5)] S) (fun x2 S1 => some (some (vI x2), S1)) else if tK b n k = 10 then bI (cal (d + 7) 200 [vR 8 r, vI (nI 2)] S) (fun x2 S1 => some (some (vI x2), S1)) else if tK b n k = 11 then bI (cal (d + 7) 200 [vR 8 r, vI (nI 4)] S) (fun x2 S1 => some (some (vI x2), S1)) else if tK b n k = 12 then bI (cal (d + 7) 200 [vR 8 r, vI (nI 41)] S) (fun x2 S1 => some (some (vI x2), S1)) else if tK b n k = 18 ∧ askA L = true then bI (cal (d + 7) 200 [vR 8 r, vI (nI 20)] S) (fun x2 S1 => some (some (vI x2), S1)) else some (some (vI (nI 1)), S) := by
  have e9 := n9_1 h.1 h38
  have i40 := is9 h.1 (c := 40) (K := 35) (by decide) (by decide)
  have i45 := is9 h.1 (c := 45) (K := 32) (by decide) (by decide)
  rw [B_X8_beginOne, if_neg e9, B_X8_beginOne_20, nm_m h.1 (d + 2), bI_s, lt0_m1 hnm, if_pos (by decide), B_X8_beginOne_39, if_neg e9, if_pos (by decide)]
  by_cases z1 : tK b n k = 35
  · rw [if_pos (show rdI S r 9 = 40 from i40.mpr z1), if_pos z1]; rfl
  rw [if_neg (show ¬ rdI S r 9 = 40 from mt i40.mp z1), if_neg z1]
  by_cases z2 : tK b n k = 32
  · rw [if_pos (show rdI S r 9 = 45 from i45.mpr z2), if_pos z2]; rfl
  rw [if_neg (show ¬ rdI S r 9 = 45 from mt i45.mp z2), if_neg z2, show d + 7 = (d + 3) + 4 by omega, wd_10, bL_s, isW_m h.1 (by decide), bI_s, ite_b0]
  by_cases z3 : tK b n k = 10
  · rw [if_neg (by rw [decide_eq_true z3]; decide), if_pos z3]; rfl
  rw [if_pos (decide_eq_false z3), if_neg z3, wd_11, bL_s, isW_m h.1 (by decide), bI_s, ite_b0]
  by_cases z4 : tK b n k = 11
  · rw [if_neg (by rw [decide_eq_true z4]; decide), if_pos z4]; rfl
  rw [if_pos (decide_eq_false z4), if_neg z4, wd_12, bL_s, isW_m h.1 (by decide), bI_s, ite_b0]
  by_cases z5 : tK b n k = 12
  · rw [if_neg (by rw [decide_eq_true z5]; decide), if_pos z5]; rfl
  rw [if_pos (decide_eq_false z5), if_neg z5, wd_18, bL_s, isW_m h.1 (by decide), bI_s, ite_b0]
  by_cases z6 : tK b n k = 18
  · rw [if_neg (by rw [decide_eq_true z6]; decide), show d + 3 + 4 = (d + 5) + 2 by omega, aa_m h.2.1 h.2.2.1 hL, bI_s, ite_b0]
    cases g : askA L
    · rw [if_pos rfl, if_neg (fun y => by cases y.2), B_X8_beginOne_235, B_X8_beginOne_236]; rfl
    · rw [if_neg (by decide), if_pos ⟨z6, rfl⟩]
      show bI (cal (d + 5 + 2) 200 [vR 8 r, vI 20] S) (fun x24 S23 => ev (d + 7 + 1) 201 236 [vR 8 r, vI (-1)] [vI x24] S23) = _
      congr 1
      exact funext fun x => funext fun S1 => B_X8_beginOne_236 (d + 7) _ _ x S1
  · rw [if_pos (decide_eq_false z6), if_neg (fun y => z6 y.1), B_X8_beginOne_235, B_X8_beginOne_236]; rfl
end RQ_
