/-! the reference's parser: asks and choices -/
theorem RBz_b {al : Nat → Bool} {co vl : Nat → Int32} {i j : Nat} {v : Env → Bool} : RBz al co vl i j (fun E => b01 (v E)) ↔ RB al co vl i j v := by
  have e : (fun E => decide (b01 (v E) = 1)) = v := funext fun E => by cases v E <;> rfl
  unfold RBz
  rw [e]
theorem rk_0 {h : Nat} (e : rkN h = 0) : 40 ≤ h := by
  unfold rkN at e
  by_cases z : 40 ≤ h
  · exact z
  · rw [if_neg z] at e
    repeat' (split at e)
    all_goals omega
theorem fcm_h {h : Nat} {t : List Nat} (e : rkN h ≤ 3) : fcm (h :: t) = false := by
  rw [fcm_s, if_pos (by omega), decide_eq_false (by omega)]
theorem askA_t {L : List Nat} (ho : opN L = 41) (h : ∃ h t, L = h :: t ∧ rkN h ≤ 3) : askA L = true := by
  obtain ⟨h, t, e, hr⟩ := h
  rw [e] at ho ⊢
  rw [askA_s, decide_eq_true ho, Bool.true_and]
  by_cases z : 40 ≤ h
  · rw [decide_eq_true z, Bool.true_or]
  · have : ¬ rkN h = 0 := fun y => z (rk_0 y)
    rw [decide_eq_true (show 1 ≤ rkN h by omega), decide_eq_true hr]; simp
section RN_
variable {b : Nat → Nat} {n law o : Nat}
theorem CxA_S {i : Nat} {L : List Nat} (hK : ¬ tK b n i = 18) (h : CxA o L) : CxS b n o i L := by
  obtain ⟨h1, h2, h3, x, t, e, hr⟩ := h
  exact ⟨by omega, h2, by rw [e, tpR_s]; omega, fun z => absurd z hK⟩
theorem cm_op {K : Nat} {Q L : List Nat} (hQ : ∀ q ∈ Q, 5 ≤ rkN q) (hC : CxA o L) (hK : 25 ≤ K ∧ K ≤ 30) : btV K (Q ++ L) = nI (K - 15) := by
  obtain ⟨h1, h2, h3, x, t, e, hr⟩ := hC
  unfold btV
  rw [if_neg (by omega), opN_a (fun q hq => by have := hQ q hq; omega), if_pos h3, fcm_a hQ, e, fcm_h hr, if_neg (by decide)]
  unfold cmV
  rw [if_pos hK]
theorem cm_rk {K : Nat} (hK : 25 ≤ K ∧ K ≤ 30) : rkN (K - 15) = 4 ∧ lvl (K - 15) = 5 ∧ ¬ (rkN (K - 15) = 7 ∨ K - 15 = 20) := by
  rcases (show K = 25 ∨ K = 26 ∨ K = 27 ∨ K = 28 ∨ K = 29 ∨ K = 30 by omega) with z | z | z | z | z | z <;> rw [z] <;> decide
/-- behind the first sum of what is asked -/
theorem ra_h {i j r T w : Nat} {L : List Nat} {v : Env → Int} {S : Mem} (hK : ¬ tK b n i = 18) (hj : 25 ≤ tK b n j ∧ tK b n j ≤ 30) (H1 : RPn b n law RDz (CxS b n o i) Ri 2 5 o i j v) (h : RC b n law r T i L o 0 w S) (hw : w + L.length ≤ i) (hC : CxA o L) (d : Nat) : ∃ S' w', LA r d S = LA r d S' ∧ RC b n law r T (j + 1) ((tK b n j - 15) :: L) o 0 w' S' ∧ w' + L.length ≤ j ∧ w < w' ∧ FrW r T w S S' ∧ RD (alL law) (co_ T r S') (vl_ T r S') w w' v := by
  have hB := RC_b h
  have c1 := hC.1
  have c2 := hC.2.1
  obtain ⟨S1, S0, Q, o1, w1, w', g0, g1, g2, g3, g4, g5, g6, g7, g8, g9, g10, -⟩ := H1 r T w L S h hw (CxA_S hK hC) d
  obtain ⟨k1, k2, k3⟩ := cm_rk hj
  have ht : tpR L < 5 := (CxA_S (i := i) hK hC).2.2.1
  have s0 : Stl r 5 S0 S0 := stl_t g5 (by omega) ht (by decide)
  have hjl := tK_in (b := b) (n := n) (i := j) (by omega)
  obtain ⟨S', e, h', f⟩ := be_op g1 (by rw [List.length_append]; omega) (cm_op g3 hC hj) (by omega) g5 (by rw [k2]; exact g4 5 S0 (by decide) (by decide) s0) hjl g6 (by omega) d
  exact ⟨S', w', g0.trans (la_w1 (RC_18e g1) e), h', g6, g7, FrW_t g9 f (by omega), RD_f g10 f hB.2.2.2.1 (Nat.le_refl _)⟩
theorem CxS_c {i a : Nat} {L : List Nat} (hC : CxA o L) (ha : rkN a = 4) : CxS b n o i (a :: L) := ⟨by rw [List.length_cons]; have := hC.1; omega, hC.2.1, by rw [tpR_s]; omega, fun _ => askA_r (by omega)⟩
theorem ra_ok {i j j2 : Nat} {v u : Env → Int} (hK : ¬ tK b n i = 18) (hj : 25 ≤ tK b n j ∧ tK b n j ≤ 30) (H1 : RPn b n law RDz (CxS b n o i) Ri 2 5 o i j v) (H2 : RPn b n law RDz (CxS b n o (j + 1)) Ri 2 5 o (j + 1) j2 u) : RPn b n law RBz (CxA o) Ra (3 + (8 - o)) 3 o i j2 (fun E => b01 (cop (tK b n j) (v E) (u E))) := by
  intro r T w L S h hw hC d
  have hB := RC_b h
  have c1 := hC.1
  have c2 := hC.2.1
  obtain ⟨k1, k2, k3⟩ := cm_rk hj
  obtain ⟨S', w', e', h', b', l', f', C1⟩ := ra_h hK hj H1 h hw hC d
  obtain ⟨S1c, S0c, Qc, o1c, w1c, wc, m0, m1, m2, m3, m4, m5, m6, m7, m8, m9, m10, -⟩ := H2 r T w' _ S' h' (by rw [List.length_cons]; omega) (CxS_c hC k1) d
  rw [List.length_cons] at m6
  have hp := RC_po m5
  have fp := FrW_p m5
  rw [if_neg k3] at hp
  have eL : Qc ++ (tK b n j - 15) :: L = (Qc ++ [tK b n j - 15]) ++ L := by rw [List.append_assoc]; rfl
  refine ⟨S1c, popM S0c r T L.length wc o (tK b n j - 15), Qc ++ [tK b n j - 15], o1c, w1c, wc + 1, e'.trans m0, by rw [← eL]; exact m1, by rw [List.length_append, List.length_singleton]; omega, fun q hq => ?_, fun l S3 l1 l2 hs3 => m4 l S3 l1 (by omega) (stl_p m5 (by omega) (by omega) (Or.inr k3) hs3), hp, by omega, by omega, FrW_t f' m8 (by omega), FrW_t f' (FrW_t m9 fp (by omega)) (by omega), ?_, ?_, ?_⟩
  · rcases List.mem_append.mp hq with y | y
    · have := m3 q y; omega
    · rw [List.mem_singleton.mp y]; omega
  · refine RBz_b.mpr (RB_cop (o := tK b n j - 15) (RD_f (RD_f C1 m9 hB.2.2.2.1 (Nat.le_refl _)) fp hB.2.2.2.1 (by omega)) (RD_f m10 fp hB.2.2.2.1 (Nat.le_refl _)) (by omega) (po_cv S0c r T L.length wc o _))
  · rw [← eL, opN_a (fun q hq => by have := m3 q hq; omega), opN_q (by omega)]; exact hC.2.2.1
  · rw [← eL, fcm_a m3, fcm_s, if_pos (by omega), decide_eq_true k1]
theorem ra_f1 {i f k : Nat} (hK : ¬ tK b n i = 18) (H : RFk b n law (CxS b n o i) o i f k) : RFk b n law (CxA o) o i f k := RFk_m (fun _ hC => CxA_S hK hC) H
theorem ra_f2 {i j : Nat} {v : Env → Int} (hK : ¬ tK b n i = 18) (hj : ¬ (25 ≤ tK b n j ∧ tK b n j ≤ 30)) (hj2 : ¬ (31 ≤ tK b n j ∧ tK b n j ≤ 34)) (H1 : RPn b n law RDz (CxS b n o i) Ri 2 5 o i j v) : RFk b n law (CxA o) o i 1 j := by
  intro r T w L S h hw hC d
  have c1 := hC.1
  have c2 := hC.2.1
  obtain ⟨S1, S0, Q, o1, w1, w', g0, g1, g2, g3, g4, g5, g6, g7, g8, g9, g10, -⟩ := H1 r T w L S h hw (CxA_S hK hC) d
  obtain ⟨-, -, h3, x, t, ex, hr⟩ := hC
  have eo : opN (Q ++ L) = nI 41 := by rw [opN_a (fun q hq => by have := g3 q hq; omega)]; exact h3
  have ef : fcm (Q ++ L) = false := by rw [fcm_a g3, ex, fcm_h hr]
  have hb : btV (tK b n j) (Q ++ L) = -1 := by
    unfold btV
    rw [if_neg hj2, eo, if_pos (by decide), ef, if_neg (by decide)]
    unfold cmV
    rw [if_neg hj]
  have hp : ptV (nI 41) (tK b n j) (Q ++ L) = -1 := by
    unfold ptV
    rw [if_neg (by decide), if_pos (by decide), ef, if_neg (fun z => by cases z.2)]
  exact ⟨S1, g0.trans (la_no g1 (by rw [List.length_append]; omega) hb eo (by decide) hp), RT_8 g1.1, FrW_m g8 (Nat.zero_le _)⟩
theorem ra_f3 {i j f k : Nat} {v : Env → Int} (hK : ¬ tK b n i = 18) (hj : 25 ≤ tK b n j ∧ tK b n j ≤ 30) (H1 : RPn b n law RDz (CxS b n o i) Ri 2 5 o i j v) (H2 : RFk b n law (CxS b n o (j + 1)) o (j + 1) f k) : RFk b n law (CxA o) o i f k := by
  intro r T w L S h hw hC d
  obtain ⟨S', w', e', h', b', l', f', C1⟩ := ra_h hK hj H1 h hw hC d
  obtain ⟨S2, e2, k2, f2⟩ := H2 r T w' _ S' h' (by rw [List.length_cons]; omega) (CxS_c hC (cm_rk hj).1) d
  exact ⟨S2, e'.trans e2, k2, FrW_t (FrW_m f' (Nat.zero_le _)) f2 (Nat.le_refl _)⟩
theorem CxA_n {L : List Nat} (hC : CxA o L) (ho : o < 8) : CxA (o + 1) (20 :: L) := ⟨by rw [List.length_cons]; have := hC.1; omega, by omega, by rw [opN_q (by decide)]; exact hC.2.2.1, 20, L, rfl, by decide⟩
theorem ra_not {i j : Nat} {v : Env → Bool} (hK : tK b n i = 18) (ho : o < 8) (H : RPn b n law RBz (CxA (o + 1)) Ra (3 + (8 - (o + 1))) 3 (o + 1) (i + 1) j (fun E => b01 (v E))) : RPn b n law RBz (CxA o) Ra (3 + (8 - o)) 3 o i j (fun E => b01 (!(v E))) := by
  intro r T w L S h hw hC d
  have hB := RC_b h
  have c1 := hC.1
  have c2 := hC.2.1
  obtain ⟨S', e', h', f'⟩ := opn_l (a := 20) (Or.inr (Or.inr (Or.inr (Or.inr (Or.inr ⟨hK, askA_t hC.2.2.1 hC.2.2.2, rfl⟩))))) h hw (by omega) ho d
  obtain ⟨S1c, S0c, Qc, o1c, w1c, wc, m0, m1, m2, m3, m4, m5, m6, m7, m8, m9, m10, m11⟩ := H r T w _ S' h' (by rw [List.length_cons]; omega) (CxA_n hC ho) d
  rw [List.length_cons] at m6
  have hp := RC_po m5
  have fp := FrW_p m5
  rw [if_pos (Or.inr rfl), Nat.add_sub_cancel] at hp
  have eL : Qc ++ 20 :: L = (Qc ++ [20]) ++ L := by rw [List.append_assoc]; rfl
  refine ⟨S1c, popM S0c r T L.length wc (o + 1) 20, Qc ++ [20], o1c, w1c, wc + 1, e'.trans m0, by rw [← eL]; exact m1, by rw [List.length_append, List.length_singleton]; omega, fun q hq => ?_, fun l S3 l1 l2 hs3 => m4 l S3 l1 l2 (stl_p m5 (by omega) (show l ≤ rkN 20 from l2) (Or.inl (by omega)) hs3), hp, by omega, by omega, FrW_t f' m8 (by omega), FrW_t f' (FrW_t m9 fp (by omega)) (by omega), ?_, Ra_c m11⟩
  · rcases List.mem_append.mp hq with y | y
    · exact m3 q y
    · rw [List.mem_singleton.mp y]; decide
  · exact RBz_b.mpr (RB_not (RB_f (RBz_b.mp m10) fp hB.2.2.2.1 (Nat.le_refl _)) (po_cv S0c r T L.length wc (o + 1) 20))
theorem ra_notf {i f k : Nat} (hK : tK b n i = 18) (ho : o < 8) (H : RFk b n law (CxA (o + 1)) (o + 1) (i + 1) f k) : RFk b n law (CxA o) o i f k := by
  intro r T w L S h hw hC d
  have c1 := hC.1
  obtain ⟨S', e', h', f'⟩ := opn_l (a := 20) (Or.inr (Or.inr (Or.inr (Or.inr (Or.inr ⟨hK, askA_t hC.2.2.1 hC.2.2.2, rfl⟩))))) h hw (by omega) ho d
  obtain ⟨S2, e2, k2, f2⟩ := H r T w _ S' h' (by rw [List.length_cons]; omega) (CxA_n hC ho) d
  exact ⟨S2, e'.trans e2, k2, FrW_t (FrW_m f' (Nat.zero_le _)) f2 (Nat.le_refl _)⟩
theorem ra_deep {i : Nat} (hK : tK b n i = 18) (ho : o = 8) : RFk b n law (CxA o) o i 3 i := r1_f0 (by decide) (by decide) (fun r T w d L S h hC => by
  have hl : L.length < 160 := by have := hC.1; omega
  rw [bg_w h hl (by omega) (by omega), if_neg (by omega), if_neg (by omega), if_neg (by omega), if_neg (by omega), if_neg (by omega), if_pos ⟨hK, askA_t hC.2.2.1 hC.2.2.2⟩, show d + 7 = (d + 6) + 1 by omega, opf_m h ho, bI_s]; rfl)
/-! choices: the pile has 41 above L -/
theorem CxE_c {L : List Nat} (hl : L.length ≤ 6 * o + 2) (ho : o < 8) : CxE (o + 1) (41 :: L) := ⟨by rw [List.length_cons]; omega, by omega, by rw [opN_c (by decide)]; rfl, 41, L, rfl, by decide⟩
theorem CxS_q {i q : Nat} {L : List Nat} (hl : L.length ≤ 6 * o + 2) (ho : o < 8) (hq : q = 42 ∨ q = 43) : CxS b n (o + 1) i (q :: L) := ⟨by rw [List.length_cons]; omega, by omega, by rw [tpR_s]; rcases hq with z | z <;> rw [z] <;> decide, fun _ => askA_o (by omega) (by omega) (by omega)⟩
theorem rc_h1 {i j qb r T w : Nat} {L : List Nat} {v : Env → Bool} {S : Mem} (ho : o < 8) (hqb : qb ≤ 60) (hj : tK b n j = 13) (H : RPn b n law RBz (CxE (o + 1)) Ra qb 1 (o + 1) i j (fun E => b01 (v E))) (h : RC b n law r T i (41 :: L) (o + 1) 0 w S) (hw : w + L.length + 1 ≤ i) (hl : L.length ≤ 6 * o + 2) (d : Nat) : ∃ S' w', LA r d S = LA r d S' ∧ RC b n law r T (j + 1) (42 :: L) (o + 1) 0 w' S' ∧ w' + (42 :: L).length ≤ j + 1 ∧ w < w' ∧ FrW r T w S S' ∧ RB (alL law) (co_ T r S') (vl_ T r S') w w' v := by
  have hB := RC_b h
  obtain ⟨S1, S0, Q, o1, w1, w', g0, g1, g2, g3, g4, g5, g6, g7, g8, g9, g10, g11⟩ := H r T w _ S h (by rw [List.length_cons]; omega) (CxE_c hl ho) d
  have s0 : Stl r 1 S0 S0 := stl_t g5 (by rw [List.length_cons]; omega) (by rw [tpR_s]; decide) (by decide)
  have hjl := tK_in (b := b) (n := n) (i := j) (by omega)
  have eo : opN (Q ++ 41 :: L) = nI 41 := g11.1
  obtain ⟨S', e, h', f⟩ := be_pt (p := 42) g1 (by rw [List.length_append, List.length_cons]; omega) (by unfold btV; rw [hj, if_neg (by decide), eo, if_pos (by decide), g11.2, if_pos rfl, if_neg (by decide), if_neg (by decide)]) eo (by unfold ptV; rw [if_neg (by decide), if_pos (by decide), if_pos ⟨hj, g11.2⟩]; rfl) (by decide) (by decide) (by decide) g5 (g4 1 S0 (by decide) (by decide) s0) hjl (by omega) d
  rw [List.length_cons] at g6
  exact ⟨S', w', g0.trans (la_w1 (RC_18e g1) e), h', by rw [List.length_cons]; omega, g7, FrW_t g9 f (by omega), RB_f (RBz_b.mp g10) f hB.2.2.2.1 (Nat.le_refl _)⟩
theorem rc_h2 {j j2 r T w : Nat} {L : List Nat} {v : Env → Int} {S : Mem} (ho : o < 8) (hj2 : tK b n j2 = 14) (H : RPn b n law RDz (CxS b n (o + 1) j) Ri 2 5 (o + 1) j j2 v) (h : RC b n law r T j (42 :: L) (o + 1) 0 w S) (hw : w + (42 :: L).length ≤ j) (hl : L.length ≤ 6 * o + 2) (d : Nat) : ∃ S' w', LA r d S = LA r d S' ∧ RC b n law r T (j2 + 1) (43 :: L) (o + 1) 0 w' S' ∧ w' + (43 :: L).length ≤ j2 + 1 ∧ w < w' ∧ FrW r T w S S' ∧ RD (alL law) (co_ T r S') (vl_ T r S') w w' v := by
  have hB := RC_b h
  obtain ⟨S1, S0, Q, o1, w1, w', g0, g1, g2, g3, g4, g5, g6, g7, g8, g9, g10, -⟩ := H r T w _ S h hw (CxS_q hl ho (Or.inl rfl)) d
  have s0 : Stl r 1 S0 S0 := stl_t g5 (by rw [List.length_cons]; omega) (by rw [tpR_s]; decide) (by decide)
  have hjl := tK_in (b := b) (n := n) (i := j2) (by omega)
  have eo : opN (Q ++ 42 :: L) = nI 42 := by rw [opN_a (fun q hq => by have := g3 q hq; omega), opN_c (by decide)]
  obtain ⟨S', e, h', f⟩ := be_pt (p := 43) g1 (by rw [List.length_append, List.length_cons]; omega) (by unfold btV; rw [hj2, if_neg (by decide), eo, if_neg (by decide)]) eo (by unfold ptV; rw [if_neg (by decide), if_neg (by decide), if_pos (by decide), if_pos hj2]; rfl) (by decide) (by decide) (by decide) g5 (g4 1 S0 (by decide) (by decide) s0) hjl (by omega) d
  rw [List.length_cons] at g6
  exact ⟨S', w', g0.trans (la_w1 (RC_18e g1) e), h', by rw [List.length_cons]; omega, g7, FrW_t g9 f (by omega), RD_f g10 f hB.2.2.2.1 (Nat.le_refl _)⟩
theorem rc_ok {i j j2 j3 qb : Nat} {v : Env → Bool} {u z : Env → Int} (ho : o < 8) (hqb : qb ≤ 60) (hj : tK b n j = 13) (hj2 : tK b n j2 = 14) (hj3 : tK b n j3 = 15) (H : RPn b n law RBz (CxE (o + 1)) Ra qb 1 (o + 1) i j (fun E => b01 (v E))) (H1 : RPn b n law RDz (CxS b n (o + 1) (j + 1)) Ri 2 5 (o + 1) (j + 1) j2 u) (H2 : RPn b n law RDz (CxS b n (o + 1) (j2 + 1)) Ri 2 5 (o + 1) (j2 + 1) j3 z) : RCh b n law o i (j3 + 1) (fun E => if v E = true then u E else z E) := by
  intro r T w L S h hw hl d
  have hB := RC_b h
  have hT := hB.2.2.2.1
  obtain ⟨Sa, wa, ea, ha, ba, la, fa, Ca⟩ := rc_h1 ho hqb hj H h hw hl d
  obtain ⟨Sb, wb, eb, hb, bb, lb, fb, Cb⟩ := rc_h2 ho hj2 H1 ha ba hl d
  obtain ⟨S1, S0, Q, o1, w1, w', g0, g1, g2, g3, g4, g5, g6, g7, g8, g9, g10, -⟩ := H2 r T wb _ Sb hb bb (CxS_q hl ho (Or.inr rfl)) d
  have s0 : Stl r 1 S0 S0 := stl_t g5 (by rw [List.length_cons]; omega) (by rw [tpR_s]; decide) (by decide)
  have hjl := tK_in (b := b) (n := n) (i := j3) (by omega)
  have eo : opN (Q ++ 43 :: L) = nI 43 := by rw [opN_a (fun q hq => by have := g3 q hq; omega), opN_c (by decide)]
  obtain ⟨S4, e4, h4, f4, c4⟩ := be_cl g1 (by rw [List.length_append, List.length_cons]; omega) (by unfold btV; rw [hj3, if_neg (by decide), eo, if_neg (by decide)]) eo (by unfold ptV; rw [if_neg (by decide), if_neg (by decide), if_neg (by decide), if_pos (by decide), if_pos hj3]) (Or.inr rfl) g5 (by omega) (g4 1 S0 (by decide) (by decide) s0) hjl g6 d
  rw [if_pos rfl, Nat.add_sub_cancel] at h4
  rw [List.length_cons] at g6
  have f04 := FrW_t g9 f4 (by omega)
  exact ⟨S4, w' + 1, fun S3 hs => ea.trans (eb.trans (g0.trans (la_7 (RC_18e g1) e4 hs))), h4, by omega, by omega, FrW_t fa (FrW_t fb f04 (by omega)) (by omega), RD_if (RB_f (RB_f Ca fb hT (Nat.le_refl _)) f04 hT (by omega)) (RD_f Cb f04 hT (Nat.le_refl _)) (RD_f g10 f4 hT (Nat.le_refl _)) (c4 rfl)⟩
theorem rc_f0 {i f k : Nat} (H : RFk b n law (CxE (o + 1)) (o + 1) i f k) : RFk b n law (CxC o) (o + 1) i f k := RFk_m (fun L hC => by
  obtain ⟨L', e, hl, ho⟩ := hC
  rw [e]; exact CxE_c hl ho) H
theorem rc_f1 {i j qb : Nat} {v : Env → Bool} (hqb : qb ≤ 60) (hj : ¬ tK b n j = 13) (hj2 : ¬ (31 ≤ tK b n j ∧ tK b n j ≤ 34)) (hj3 : ¬ tK b n j = 16) (hj4 : ¬ tK b n j = 17) (H : RPn b n law RBz (CxE (o + 1)) Ra qb 1 (o + 1) i j (fun E => b01 (v E))) : RFk b n law (CxC o) (o + 1) i 1 j := by
  intro r T w L0 S h hw hC d
  obtain ⟨L, rfl, hl, ho⟩ := hC
  obtain ⟨S1, S0, Q, o1, w1, w', g0, g1, g2, g3, g4, g5, g6, g7, g8, g9, g10, g11⟩ := H r T w _ S h hw (CxE_c hl ho) d
  have eo : opN (Q ++ 41 :: L) = nI 41 := g11.1
  have hb : btV (tK b n j) (Q ++ 41 :: L) = -1 := by
    unfold btV
    rw [if_neg hj2, eo, if_pos (by decide), g11.2, if_pos rfl, if_neg hj4, if_neg hj3]
  have hp : ptV (nI 41) (tK b n j) (Q ++ 41 :: L) = -1 := by
    unfold ptV
    rw [if_neg (by decide), if_pos (by decide), if_neg (fun z => hj z.1)]
  exact ⟨S1, g0.trans (la_no g1 (by rw [List.length_append, List.length_cons]; omega) hb eo (by decide) hp), RT_8 g1.1, FrW_m g8 (Nat.zero_le _)⟩
theorem rc_f2 {i j qb f k : Nat} {v : Env → Bool} (hqb : qb ≤ 60) (hj : tK b n j = 13) (H : RPn b n law RBz (CxE (o + 1)) Ra qb 1 (o + 1) i j (fun E => b01 (v E))) (H1 : RFk b n law (CxS b n (o + 1) (j + 1)) (o + 1) (j + 1) f k) : RFk b n law (CxC o) (o + 1) i f k := by
  intro r T w L0 S h hw hC d
  obtain ⟨L, rfl, hl, ho⟩ := hC
  rw [List.length_cons] at hw
  obtain ⟨Sa, wa, ea, ha, ba, la, fa, Ca⟩ := rc_h1 ho hqb hj H h (by omega) hl d
  obtain ⟨S2, e2, k2, f2⟩ := H1 r T wa _ Sa ha ba (CxS_q hl ho (Or.inl rfl)) d
  exact ⟨S2, ea.trans e2, k2, FrW_t (FrW_m fa (Nat.zero_le _)) f2 (Nat.le_refl _)⟩
theorem rc_f3 {i j j2 qb : Nat} {v : Env → Bool} {u : Env → Int} (hqb : qb ≤ 60) (hj : tK b n j = 13) (hj2 : ¬ tK b n j2 = 14) (hj3 : ¬ (31 ≤ tK b n j2 ∧ tK b n j2 ≤ 34)) (H : RPn b n law RBz (CxE (o + 1)) Ra qb 1 (o + 1) i j (fun E => b01 (v E))) (H1 : RPn b n law RDz (CxS b n (o + 1) (j + 1)) Ri 2 5 (o + 1) (j + 1) j2 u) : RFk b n law (CxC o) (o + 1) i 1 j2 := by
  intro r T w L0 S h hw hC d
  obtain ⟨L, rfl, hl, ho⟩ := hC
  rw [List.length_cons] at hw
  obtain ⟨Sa, wa, ea, ha, ba, la, fa, Ca⟩ := rc_h1 ho hqb hj H h (by omega) hl d
  obtain ⟨S1, S0, Q, o1, w1, w', g0, g1, g2, g3, g4, g5, g6, g7, g8, g9, g10, -⟩ := H1 r T wa _ Sa ha ba (CxS_q hl ho (Or.inl rfl)) d
  have eo : opN (Q ++ 42 :: L) = nI 42 := by rw [opN_a (fun q hq => by have := g3 q hq; omega), opN_c (by decide)]
  have en : LA r d S1 = some (some (vI (nI 1)), S1) := la_no g1 (by rw [List.length_append, List.length_cons]; omega) (by unfold btV; rw [if_neg hj3, eo, if_neg (by decide)]) eo (by decide) (by unfold ptV; rw [if_neg (by decide), if_neg (by decide), if_pos (by decide), if_neg hj2])
  exact ⟨S1, ea.trans (g0.trans en), RT_8 g1.1, FrW_t (FrW_m fa (Nat.zero_le _)) (FrW_m g8 (Nat.zero_le _)) (Nat.le_refl _)⟩
theorem rc_f4 {i j j2 qb f k : Nat} {v : Env → Bool} {u : Env → Int} (hqb : qb ≤ 60) (hj : tK b n j = 13) (hj2 : tK b n j2 = 14) (H : RPn b n law RBz (CxE (o + 1)) Ra qb 1 (o + 1) i j (fun E => b01 (v E))) (H1 : RPn b n law RDz (CxS b n (o + 1) (j + 1)) Ri 2 5 (o + 1) (j + 1) j2 u) (H2 : RFk b n law (CxS b n (o + 1) (j2 + 1)) (o + 1) (j2 + 1) f k) : RFk b n law (CxC o) (o + 1) i f k := by
  intro r T w L0 S h hw hC d
  obtain ⟨L, rfl, hl, ho⟩ := hC
  rw [List.length_cons] at hw
  obtain ⟨Sa, wa, ea, ha, ba, la, fa, Ca⟩ := rc_h1 ho hqb hj H h (by omega) hl d
  obtain ⟨Sb, wb, eb, hb, bb, lb, fb, Cb⟩ := rc_h2 ho hj2 H1 ha ba hl d
  obtain ⟨S2, e2, k2, f2⟩ := H2 r T wb _ Sb hb bb (CxS_q hl ho (Or.inr rfl)) d
  exact ⟨S2, ea.trans (eb.trans e2), k2, FrW_t (FrW_m (FrW_t fa fb (by omega)) (Nat.zero_le _)) f2 (Nat.le_refl _)⟩
theorem rc_f5 {i j j2 j3 qb : Nat} {v : Env → Bool} {u z : Env → Int} (hqb : qb ≤ 60) (hj : tK b n j = 13) (hj2 : tK b n j2 = 14) (hj3 : ¬ tK b n j3 = 15) (hj4 : ¬ (31 ≤ tK b n j3 ∧ tK b n j3 ≤ 34)) (H : RPn b n law RBz (CxE (o + 1)) Ra qb 1 (o + 1) i j (fun E => b01 (v E))) (H1 : RPn b n law RDz (CxS b n (o + 1) (j + 1)) Ri 2 5 (o + 1) (j + 1) j2 u) (H2 : RPn b n law RDz (CxS b n (o + 1) (j2 + 1)) Ri 2 5 (o + 1) (j2 + 1) j3 z) : RFk b n law (CxC o) (o + 1) i 1 j3 := by
  intro r T w L0 S h hw hC d
  obtain ⟨L, rfl, hl, ho⟩ := hC
  rw [List.length_cons] at hw
  obtain ⟨Sa, wa, ea, ha, ba, la, fa, Ca⟩ := rc_h1 ho hqb hj H h (by omega) hl d
  obtain ⟨Sb, wb, eb, hb, bb, lb, fb, Cb⟩ := rc_h2 ho hj2 H1 ha ba hl d
  obtain ⟨S1, S0, Q, o1, w1, w', g0, g1, g2, g3, g4, g5, g6, g7, g8, g9, g10, -⟩ := H2 r T wb _ Sb hb bb (CxS_q hl ho (Or.inr rfl)) d
  have eo : opN (Q ++ 43 :: L) = nI 43 := by rw [opN_a (fun q hq => by have := g3 q hq; omega), opN_c (by decide)]
  have en : LA r d S1 = some (some (vI (nI 1)), S1) := la_no g1 (by rw [List.length_append, List.length_cons]; omega) (by unfold btV; rw [if_neg hj4, eo, if_neg (by decide)]) eo (by decide) (by unfold ptV; rw [if_neg (by decide), if_neg (by decide), if_neg (by decide), if_pos (by decide), if_neg hj3])
  exact ⟨S1, ea.trans (eb.trans (g0.trans en)), RT_8 g1.1, FrW_t (FrW_m (FrW_t fa fb (by omega)) (Nat.zero_le _)) (FrW_m g8 (Nat.zero_le _)) (Nat.le_refl _)⟩
end RN_
