/-! the reference's parser: behind one -/
def cmV (K : Nat) : Int32 := if 25 ≤ K ∧ K ≤ 30 then nI (K - 15) else -1
def btV (K : Nat) (L : List Nat) : Int32 := if 31 ≤ K ∧ K ≤ 34 then nI (K - 25) else if opN L = 41 then (if fcm L = true then (if K = 17 then 21 else if K = 16 then 22 else -1) else cmV K) else -1
def ptV (q : Int32) (K : Nat) (L : List Nat) : Int32 := if q = 40 then (if K = 36 then 0 else -1) else if q = 41 then (if K = 13 ∧ fcm L = true then 42 else -1) else if q = 42 then (if K = 14 then 43 else -1) else if q = 43 then (if K = 15 then 0 else -1) else -1
section RR_
variable {b : Nat → Nat} {n law r T : Nat}
theorem cm_m {k : Nat} {S : Mem} (h : RT b n r k S) (d : Nat) : cal d 202 [vR 8 r] S = some (some (vI (cmV (tK b n k))), S) := by
  have i1 : rdI S r 9 = 60 ↔ tK b n k = 25 := is9 h (c := 60) (by decide) (by decide)
  have i2 : rdI S r 9 = 4 ↔ tK b n k = 26 := is9 h (c := 4) (by decide) (by decide)
  have i3 : rdI S r 9 = 62 ↔ tK b n k = 27 := is9 h (c := 62) (by decide) (by decide)
  have i4 : rdI S r 9 = 5 ↔ tK b n k = 28 := is9 h (c := 5) (by decide) (by decide)
  have i5 : rdI S r 9 = 61 ↔ tK b n k = 29 := is9 h (c := 61) (by decide) (by decide)
  have i6 : rdI S r 9 = 35 ↔ tK b n k = 30 := is9 h (c := 35) (by decide) (by decide)
  rw [B_X8_compareOf]
  by_cases z1 : tK b n k = 25
  · rw [if_pos (i1.mpr z1), z1]; rfl
  rw [if_neg (mt i1.mp z1)]
  by_cases z2 : tK b n k = 26
  · rw [if_pos (i2.mpr z2), z2]; rfl
  rw [if_neg (mt i2.mp z2)]
  by_cases z3 : tK b n k = 27
  · rw [if_pos (i3.mpr z3), z3]; rfl
  rw [if_neg (mt i3.mp z3)]
  by_cases z4 : tK b n k = 28
  · rw [if_pos (i4.mpr z4), z4]; rfl
  rw [if_neg (mt i4.mp z4)]
  by_cases z5 : tK b n k = 29
  · rw [if_pos (i5.mpr z5), z5]; rfl
  rw [if_neg (mt i5.mp z5)]
  by_cases z6 : tK b n k = 30
  · rw [if_pos (i6.mpr z6), z6]; rfl
  rw [if_neg (mt i6.mp z6)]
  unfold cmV
  rw [if_neg (by omega)]
theorem bt_m {k o w : Nat} {L : List Nat} {wh : Int32} {S : Mem} (h : RC b n law r T k L o wh w S) (hL : L.length < 160) (d : Nat) : cal (d + 7) 203 [vR 8 r] S = some (some (vI (btV (tK b n k) L)), S) := by
  have i1 : rdI S r 9 = 43 ↔ tK b n k = 31 := is9 h.1 (c := 43) (by decide) (by decide)
  have i2 : rdI S r 9 = 45 ↔ tK b n k = 32 := is9 h.1 (c := 45) (by decide) (by decide)
  have i3 : rdI S r 9 = 42 ↔ tK b n k = 33 := is9 h.1 (c := 42) (by decide) (by decide)
  have i4 : rdI S r 9 = 47 ↔ tK b n k = 34 := is9 h.1 (c := 47) (by decide) (by decide)
  rw [B_X8_betweenOf]
  unfold btV
  by_cases z1 : tK b n k = 31
  · rw [if_pos (i1.mpr z1), z1]; rfl
  rw [if_neg (mt i1.mp z1)]
  by_cases z2 : tK b n k = 32
  · rw [if_pos (i2.mpr z2), z2]; rfl
  rw [if_neg (mt i2.mp z2)]
  by_cases z3 : tK b n k = 33
  · rw [if_pos (i3.mpr z3), z3]; rfl
  rw [if_neg (mt i3.mp z3)]
  by_cases z4 : tK b n k = 34
  · rw [if_pos (i4.mpr z4), z4]; rfl
  rw [if_neg (mt i4.mp z4), show d + 6 = (d + 5) + 1 by omega, on_m h.2.1 h.2.2.1 hL, bI_s, if_neg (show ¬ (31 ≤ tK b n k ∧ tK b n k ≤ 34) by omega)]
  by_cases y : opN L = 41
  · rw [if_pos y, if_pos y, ic_m h.2.1 h.2.2.1 hL, bI_s, ite_b0]
    cases g : fcm L
    · rw [if_pos rfl, cm_m h.1, bI_s, if_neg (by decide)]
    · rw [if_neg (by decide), if_pos rfl, show d + 5 + 1 = (d + 2) + 4 by omega, wd_17, bL_s, isW_m h.1 (by decide), bI_s, ite_b0]
      by_cases x : tK b n k = 17
      · rw [if_neg (by rw [decide_eq_true x]; decide), if_pos x]
      · rw [if_pos (decide_eq_false x), wd_16, bL_s, isW_m h.1 (by decide), bI_s, ite_b0, if_neg x]
        by_cases x2 : tK b n k = 16
        · rw [if_neg (by rw [decide_eq_true x2]; decide), if_pos x2]
        · rw [if_pos (decide_eq_false x2), if_neg x2]
  · rw [if_neg y, if_neg y]
theorem pt_m {k o w : Nat} {L : List Nat} {wh : Int32} {S : Mem} (h : RC b n law r T k L o wh w S) (hL : L.length < 160) (q : Int32) (d : Nat) : cal (d + 7) 204 [vR 8 r, vI q] S = some (some (vI (ptV q (tK b n k) L)), S) := by
  have i1 : rdI S r 9 = 41 ↔ tK b n k = 36 := is9 h.1 (c := 41) (by decide) (by decide)
  rw [B_X8_partOf]
  unfold ptV
  by_cases q1 : q = 40
  · rw [if_pos q1, if_pos q1]
    by_cases z : tK b n k = 36
    · rw [if_pos (i1.mpr z), if_pos z]
    · rw [if_neg (mt i1.mp z), if_neg z]
  rw [if_neg q1, if_neg q1]
  by_cases q2 : q = 41
  · rw [if_pos q2, if_pos q2, show d + 6 = (d + 2) + 4 by omega, wd_13, bL_s, isW_m h.1 (by decide), bI_s, ite_b0]
    by_cases z : tK b n k = 13
    · rw [if_neg (by rw [decide_eq_true z]; decide), show d + 2 + 4 = (d + 5) + 1 by omega, ic_m h.2.1 h.2.2.1 hL, bI_s, ite_b0]
      cases g : fcm L
      · rw [if_pos rfl, if_neg (fun y => by cases y.2)]
      · rw [if_neg (by decide), if_pos ⟨z, rfl⟩]
    · rw [if_pos (decide_eq_false z), if_neg (fun y => z y.1)]
  rw [if_neg q2, if_neg q2]
  by_cases q3 : q = 42
  · rw [if_pos q3, if_pos q3, show d + 6 = (d + 2) + 4 by omega, wd_14, bL_s, isW_m h.1 (by decide), bI_s, ite_b0]
    by_cases z : tK b n k = 14
    · rw [if_neg (by rw [decide_eq_true z]; decide), if_pos z]
    · rw [if_pos (decide_eq_false z), if_neg z]
  rw [if_neg q3, if_neg q3]
  by_cases q4 : q = 43
  · rw [if_pos q4, if_pos q4, show d + 6 = (d + 2) + 4 by omega, wd_15, bL_s, isW_m h.1 (by decide), bI_s, ite_b0]
    by_cases z : tK b n k = 15
    · rw [if_neg (by rw [decide_eq_true z]; decide), if_pos z]
    · rw [if_pos (decide_eq_false z), if_neg z]
  rw [if_neg q4, if_neg q4]
def lvl (a : Nat) : Nat := if rkN a = 4 then 5 else rkN a
theorem be_op {k o1 w1 o3 w3 a : Nat} {L1 L3 : List Nat} {S1 S3 : Mem} (h : RC b n law r T k L1 o1 1 w1 S1) (hL1 : L1.length < 160) (hb : btV (tK b n k) L1 = nI a) (ha : a < 40) (h3 : RC b n law r T k L3 o3 1 w3 S3) (hs : Stl r (lvl a) S1 S3) (hk : k < tN b n) (hw : w3 + L3.length ≤ k) (hL3 : L3.length < 160) (d : Nat) : ∃ S', cal (d + 8) 205 [vR 8 r] S1 = some (some (vI 1), S') ∧ RC b n law r T (k + 1) (a :: L3) o3 0 w3 S' ∧ FrW r T w3 S3 S' := by
  have hr := rkN_le a
  have h4 := RC_18 (wh' := 0) (RC_pu h3 (a := a) (by omega) (by omega))
  obtain ⟨S', e, h5, f5⟩ := RC_nx h4 hk (d + 6)
  refine ⟨S', ?_, h5, FrW_t (FrW_5 (w := w3)) (FrW_t (FrW_w (w := w3) (by unfold Wr; omega)) (FrW_t (FrW_w (w := w3) (by unfold Wr; omega)) (FrW_H f5) (Nat.le_refl _)) (Nat.le_refl _)) (Nat.le_refl _)⟩
  have e16 : rdI S3 r 16 = nI L3.length := h3.2.1
  have e16' : rdI (wrI S3 (r + 5) L3.length (nI a)) r 16 = nI L3.length := by rw [rdI_wrI, if_neg (by omega)]; exact e16
  have es := hs (d + 6)
  unfold lvl at es
  unfold puM at e
  rw [B_X8_behindOne, bt_m h hL1, bI_s, hb, if_neg (nI_pos (by omega)), rk_m (by omega), bI_s]
  by_cases z : rkN a = 4
  · rw [if_pos z] at es
    have es' : cal (d + 7) 195 [vR 8 r, vI 5] S1 = some (none, S3) := es
    rw [if_pos (show nI (rkN a) = 4 by rw [z]; rfl), es', bV_s, e16, inb_t hL3 (by decide), gd_t, gd_p isZ_0, ix_nI (by omega), e16', nI_1, e, bV_s, gd_p isZ_1]
  · rw [if_neg z] at es
    rw [if_neg (show ¬ nI (rkN a) = 4 from nK (y := 4) (by omega) (by decide) z), rk_m (by omega), bI_s, es, bV_s, e16, inb_t hL3 (by decide), gd_t, gd_p isZ_0, ix_nI (by omega), e16', nI_1, e, bV_s, gd_p isZ_1]
theorem opN_c {q : Nat} {L : List Nat} (hq : 40 ≤ q) : opN (q :: L) = nI q := by unfold opN; rw [fop_s, if_pos hq]
theorem opI_c {q : Nat} {L : List Nat} (hq : 40 ≤ q) : opI (q :: L) = nI L.length := by unfold opI; rw [fop_s, if_pos hq]
/-- then, else -/
theorem be_pt {k o1 w1 o3 w3 q p : Nat} {L1 L : List Nat} {S1 S3 : Mem} (h : RC b n law r T k L1 o1 1 w1 S1) (hL1 : L1.length < 160) (hb : btV (tK b n k) L1 = -1) (hq : opN L1 = nI q) (hp : ptV (nI q) (tK b n k) L1 = nI p) (hp0 : 0 < p) (hp1 : p < 100) (hq40 : 40 ≤ q) (h3 : RC b n law r T k (q :: L) o3 1 w3 S3) (hs : Stl r 1 S1 S3) (hk : k < tN b n) (hL : L.length < 159) (d : Nat) : ∃ S', cal (d + 8) 205 [vR 8 r] S1 = some (some (vI 1), S') ∧ RC b n law r T (k + 1) (p :: L) o3 0 w3 S' ∧ FrW r T w3 S3 S' := by
  have hB := RC_b h3
  obtain ⟨S4, e4, h4, f4⟩ := RC_nx h3 hk (d + 6)
  have hlb := len_b h4
  have h5 := RC_18 (wh' := 0) (RC_pu (RC_dn h4) (a := p) hp1 (by omega))
  have e16 : rdI S4 r 16 = nI (L.length + 1) := h4.2.1
  have es : cal (d + 7) 195 [vR 8 r, vI 1] S1 = some (none, S3) := hs (d + 6)
  have eo : cal (d + 7) 196 [vR 8 r] S4 = some (some (vI (nI L.length)), S4) := by
    have e := oa_m h4.2.1 h4.2.2.1 (by rw [List.length_cons]; omega) (d + 7)
    rw [opI_c hq40] at e
    exact e
  have fin : RC b n law r T (k + 1) (p :: L) o3 0 w3 (wrI (wrI S4 (r + 5) L.length (nI p)) r 18 0) := by
    have g := h5
    unfold puM at g
    obtain ⟨g1, g2, g3, g4, g5, g6, g7, g8, g9, g10, g11, g12, g13⟩ := g
    have rr : ∀ c i, rdI (wrI (wrI S4 (r + 5) L.length (nI p)) r 18 0) c i = rdI (wrI (wrI (wrI (wrI S4 r 16 (nI L.length)) (r + 5) L.length (nI p)) r 16 (nI (L.length + 1))) r 18 0) c i := fun c i => by
      rw [rdI_wrI, rdI_wrI, rdI_wrI, rdI_wrI, rdI_wrI, rdI_wrI]
      by_cases z1 : c = r ∧ i = 18
      · rw [if_pos z1, if_pos z1]
      · rw [if_neg z1, if_neg z1]
        by_cases z2 : c = r ∧ i = 16
        · rw [if_pos z2, if_neg (by omega), z2.1, z2.2, e16]
        · rw [if_neg z2, if_neg z2]
    have rrc : ∀ c, rdI (wrI (wrI S4 (r + 5) L.length (nI p)) r 18 0) c = rdI (wrI (wrI (wrI (wrI S4 r 16 (nI L.length)) (r + 5) L.length (nI p)) r 16 (nI (L.length + 1))) r 18 0) c := fun c => funext (rr c)
    refine ⟨?_, by rw [rr]; exact g2, PiL_k g3 (fun i _ => by rw [rr]), by rw [rr]; exact g4, by rw [rr]; exact g5, by rw [rr]; exact g6, by rw [rr]; exact g7, g8, by rw [rr]; exact g9, g10, g11, g12, g13⟩
    exact RT_w (RT_w h4.1 (by omega) (by omega)) (by omega) (by omega)
  refine ⟨_, ?_, fin, FrW_t (FrW_H f4) (FrW_t (FrW_5 (w := w3)) (FrW_w (w := w3) (by unfold Wr; omega)) (Nat.le_refl _)) (Nat.le_refl _)⟩
  rw [B_X8_behindOne, bt_m h hL1, bI_s, hb, if_pos (by decide), show d + 7 = (d + 6) + 1 by omega, on_m h.2.1 h.2.2.1 hL1, bI_s, hq, show d + 6 + 1 = d + 7 by omega, pt_m h hL1, bI_s, hp, if_pos (nI_pos' (by omega)), es, bV_s, e4, bV_s, if_neg (nI_nle hp0 (by omega)), eo, bI_s, inb_t (by omega) (by decide), gd_t, gd_p isZ_0, gd_p isZ_1, ix_nI (by omega)]
/-- shut: ) and end -/
theorem be_cl {k o1 w1 o3 w3 q : Nat} {L1 L : List Nat} {S1 S3 : Mem} (h : RC b n law r T k L1 o1 1 w1 S1) (hL1 : L1.length < 160) (hb : btV (tK b n k) L1 = -1) (hq : opN L1 = nI q) (hp : ptV (nI q) (tK b n k) L1 = 0) (hq40 : q = 40 ∨ q = 43) (h3 : RC b n law r T k (q :: L) o3 1 w3 S3) (ho : 0 < o3) (hs : Stl r 1 S1 S3) (hk : k < tN b n) (hb3 : w3 + (q :: L).length ≤ k) (d : Nat) : ∃ S', cal (d + 8) 205 [vR 8 r] S1 = bV (cal (d + 7) 195 [vR 8 r, vI 7] S') (fun S11 => some (some (vI 1), S11)) ∧ RC b n law r T (k + 1) L (o3 - 1) 1 (if q = 43 then w3 + 1 else w3) S' ∧ FrW r T w3 S3 S' ∧ (q = 43 → co_ T r S' w3 = 3) := by
  have hB := RC_b h3
  rw [List.length_cons] at hb3
  obtain ⟨S4, e4, h4, f4⟩ := RC_nx h3 hk (d + 6)
  have h5 := RC_dn (RC_17 h4 (o' := o3 - 1) (by omega))
  have e17 : rdI S4 r 17 = nI o3 := h4.2.2.2.1
  have e16 : rdI (wrI S4 r 17 (nI (o3 - 1))) r 16 = nI (L.length + 1) := (RC_17 h4 (o' := o3 - 1) (by omega)).2.1
  have es : cal (d + 7) 195 [vR 8 r, vI 1] S1 = some (none, S3) := hs (d + 6)
  have f5 : FrW r T w3 S3 (wrI (wrI S4 r 17 (nI (o3 - 1))) r 16 (nI L.length)) := FrW_t (FrW_H f4) (FrW_t (FrW_w (w := w3) (by unfold Wr; omega)) (FrW_w (w := w3) (by unfold Wr; omega)) (Nat.le_refl _)) (Nat.le_refl _)
  have head : cal (d + 8) 205 [vR 8 r] S1 = if nI q = 43 then bV (cal (d + 7) 190 [vR 8 r, vI 3, vI 0] (wrI (wrI S4 r 17 (nI (o3 - 1))) r 16 (nI L.length))) (fun S9 => bV (cal (d + 7) 195 [vR 8 r, vI 7] S9) (fun S10 => some (some (vI 1), S10))) else bV (cal (d + 7) 195 [vR 8 r, vI 7] (wrI (wrI S4 r 17 (nI (o3 - 1))) r 16 (nI L.length))) (fun S11 => some (some (vI 1), S11)) := by
    rw [B_X8_behindOne, bt_m h hL1, bI_s, hb, if_pos (by decide), show d + 7 = (d + 6) + 1 by omega, on_m h.2.1 h.2.2.1 hL1, bI_s, hq, show d + 6 + 1 = d + 7 by omega, pt_m h hL1, bI_s, hp, if_pos (by decide), es, bV_s, e4, bV_s, if_pos (by decide), e17, s1_sub ho, e16, s1_sub (by omega), Nat.add_sub_cancel]
    simp only [show ∀ S : Mem, gd (isZ 1) (some (some (vI 1), S)) = some (some (vI 1), S) from fun S => gd_p isZ_1]
  rcases hq40 with z | z
  · refine ⟨_, ?_, by rw [if_neg (by omega)]; exact h5, f5, fun y => by omega⟩
    rw [head, if_neg (show ¬ nI q = 43 by rw [z]; decide)]
  · have h6 := RC_em (a := 3) (v := 0) h5 (by omega)
    have fe := FrW_e (r := r) (T := T) (w := w3) (a := 3) (v := 0) (S := wrI (wrI S4 r 17 (nI (o3 - 1))) r 16 (nI L.length)) (by omega)
    refine ⟨emM (wrI (wrI S4 r 17 (nI (o3 - 1))) r 16 (nI L.length)) r T w3 3 0, ?_, by rw [if_pos z]; exact h6, FrW_t f5 fe (Nat.le_refl _), fun _ => (em_cv _ r T w3 3 0).1⟩
    rw [head, if_pos (show nI q = 43 by rw [z]; rfl), em_m h5.2.2.2.2.2.2.1 h5.2.2.2.2.2.1 hB.2.2.2.1 (by omega), bV_s]
theorem be_no {k o1 w1 : Nat} {L1 : List Nat} {S1 : Mem} (h : RC b n law r T k L1 o1 1 w1 S1) (hL1 : L1.length < 160) (hb : btV (tK b n k) L1 = -1) (hp : ptV (opN L1) (tK b n k) L1 = -1) (d : Nat) : cal (d + 8) 205 [vR 8 r] S1 = some (some (vI 0), S1) := by
  rw [B_X8_behindOne, bt_m h hL1, bI_s, hb, if_pos (by decide), show d + 7 = (d + 6) + 1 by omega, on_m h.2.1 h.2.2.1 hL1, bI_s, show d + 6 + 1 = d + 7 by omega, pt_m h hL1, bI_s, hp, if_neg (by decide), gd_p isZ_0]
/-! the loop, behind one -/
theorem la_w1 {d : Nat} {S S' : Mem} (e18 : rdI S r 18 = 1) (e : cal (d + 8) 205 [vR 8 r] S = some (some (vI 1), S')) : LA r d S = LA r d S' := by
  unfold LA
  rw [B_X8_summed_15, e18, if_neg (by decide), e, bI_s, if_neg (by decide)]
theorem la_7 {d : Nat} {S S4 S3 : Mem} (e18 : rdI S r 18 = 1) (e : cal (d + 8) 205 [vR 8 r] S = bV (cal (d + 7) 195 [vR 8 r, vI 7] S4) (fun S11 => some (some (vI 1), S11))) (hs : Stl r 7 S4 S3) : LA r d S = LA r d S3 := by
  have es : cal (d + 7) 195 [vR 8 r, vI 7] S4 = some (none, S3) := hs (d + 6)
  rw [es, bV_s] at e
  exact la_w1 e18 e
theorem la_b7 {d : Nat} {S S4 S3 : Mem} (e18 : rdI S r 18 = 0) (e : cal (d + 8) 201 [vR 8 r] S = bV (cal (d + 7) 195 [vR 8 r, vI 7] S4) (fun S3 => some (some (vI 0), S3))) (hs : Stl r 7 S4 S3) : LA r d S = LA r d S3 := by
  have es : cal (d + 7) 195 [vR 8 r, vI 7] S4 = some (none, S3) := hs (d + 6)
  rw [es, bV_s] at e
  exact la_b e18 e
theorem la_no {k o1 w1 q d : Nat} {L1 : List Nat} {S1 : Mem} (h : RC b n law r T k L1 o1 1 w1 S1) (hL1 : L1.length < 160) (hb : btV (tK b n k) L1 = -1) (hq : opN L1 = nI q) (hq2 : q < 100) (hp : ptV (nI q) (tK b n k) L1 = -1) : LA r d S1 = some (some (vI (nI 1)), S1) := by
  have e18 : rdI S1 r 18 = 1 := h.2.2.2.2.1
  unfold LA
  rw [B_X8_summed_15, e18, if_neg (by decide), be_no h hL1 hb (by rw [hq]; exact hp), bI_s, if_pos rfl, show d + 8 = (d + 7) + 1 by omega, on_m h.2.1 h.2.2.1 hL1, bI_s, hq, if_neg (nI_pos (by omega))]; rfl
theorem la_en {k o1 w1 d : Nat} {L1 : List Nat} {S1 S3 : Mem} (h : RC b n law r T k L1 o1 1 w1 S1) (hL1 : L1.length < 160) (hb : btV (tK b n k) L1 = -1) (hq : opN L1 = -1) (hs : Stl r 1 S1 S3) : LA r d S1 = some (some (vI 0), S3) := by
  have e18 : rdI S1 r 18 = 1 := h.2.2.2.2.1
  have es : cal (d + 8) 195 [vR 8 r, vI 1] S1 = some (none, S3) := hs (d + 7)
  unfold LA
  rw [B_X8_summed_15, e18, if_neg (by decide), be_no h hL1 hb (by rw [hq]; rfl), bI_s, if_pos rfl, show d + 8 = (d + 7) + 1 by omega, on_m h.2.1 h.2.2.1 hL1, bI_s, hq, if_pos (by decide), show d + 7 + 1 = d + 8 by omega, es, bV_s]
end RR_
