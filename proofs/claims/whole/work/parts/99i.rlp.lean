/-! the reference's parser: rows of signs, asks, choices -/
def RLk (b : Nat → Nat) (n law : Nat) (D : DTy) (Cx : List Nat → Prop) (R : List Nat → List Nat → Prop) (qb ρ o k j : Nat) (v z : Env → Int) : Prop := ∀ (r T w : Nat) (L : List Nat) (Sb S1 S0 : Mem) (Q : List Nat) (o1 w1 w' : Nat), T < 4 → Cx L → PnS b n law D R qb ρ r T k L o w w' v Sb S1 S0 Q o1 w1 → ∀ d, ∃ S1' S0' Q' o1' w1' w'', LA r d S1 = LA r d S1' ∧ PnS b n law D R qb ρ r T j L o w w'' z Sb S1' S0' Q' o1' w1'
def RLf (b : Nat → Nat) (n law : Nat) (D : DTy) (Cx : List Nat → Prop) (R : List Nat → List Nat → Prop) (qb ρ o k f p : Nat) : Prop := ∀ (r T w : Nat) (L : List Nat) (Sb S1 S0 : Mem) (Q : List Nat) (o1 w1 w' : Nat) (v : Env → Int), T < 4 → Cx L → PnS b n law D R qb ρ r T k L o w w' v Sb S1 S0 Q o1 w1 → ∀ d, ∃ S', LA r d S1 = some (some (vI (nI f)), S') ∧ rdI S' r 8 = nI (tP b n p) ∧ FrW r T 0 Sb S'
/-- what the rows of signs have in common -/
def RLH (b : Nat → Nat) (n : Nat) (Cx : List Nat → Prop) (Cc : Nat → List Nat → Prop) (Rc R : List Nat → List Nat → Prop) (sg : Nat → Bool) (opa : Nat → Nat) (qc ρ : Nat) : Prop := (∀ k L, Cx L → sg (tK b n k) = true → Cc (k + 1) (opa (tK b n k) :: L)) ∧ (∀ Q L K, R Q L → (∀ q ∈ Q, ρ ≤ rkN q) → sg K = true → btV K (Q ++ L) = nI (opa K)) ∧ (∀ K, sg K = true → opa K < 40 ∧ rkN (opa K) = ρ ∧ lvl (opa K) = ρ ∧ ¬ opa K = 20) ∧ (∀ Q K L, sg K = true → Rc Q (opa K :: L) → R (Q ++ [opa K]) L) ∧ (∀ Q L, Rc Q L → R Q L) ∧ (∀ L, Cx L → tpR L < ρ ∧ L.length ≤ 60) ∧ 1 ≤ ρ ∧ ρ < 7 ∧ qc ≤ 30 ∧ ∀ k, sg (tK b n k) = true → k < tN b n
section RL_
variable {b : Nat → Nat} {n law : Nat} {D : DTy} {Cx : List Nat → Prop} {Cc : Nat → List Nat → Prop} {Rc R : List Nat → List Nat → Prop} {sg : Nat → Bool} {opa : Nat → Nat} {qc ρ ρc o : Nat}
theorem RL_stop {k : Nat} {v : Env → Int} : RLk b n law D Cx R (qc + 1) ρ o k k v v := fun r T w L Sb S1 S0 Q o1 w1 w' _ _ h d => ⟨S1, S0, Q, o1, w1, w', rfl, h⟩
/-- a sign, and on to what it is followed by -/
theorem RL_push {k r T w w' o1 w1 : Nat} {L Q : List Nat} {v : Env → Int} {Sb S1 S0 : Mem} (H : RLH b n Cx Cc Rc R sg opa qc ρ) (hC : Cx L) (hs : sg (tK b n k) = true) (h : PnS b n law D R (qc + 1) ρ r T k L o w w' v Sb S1 S0 Q o1 w1) (d : Nat) : ∃ S', LA r d S1 = LA r d S' ∧ RC b n law r T (k + 1) (opa (tK b n k) :: L) o 0 w' S' ∧ w' + (opa (tK b n k) :: L).length ≤ k + 1 ∧ FrW r T w' S0 S' := by
  obtain ⟨g1, g2, g3, g4, g5, g6, g7, g8, g9, g10, g11⟩ := h
  obtain ⟨H1, H2, H3, H4, H5, H6, H7, H8, H9, H10⟩ := H
  obtain ⟨a1, a2, a3, a4⟩ := H3 _ hs
  obtain ⟨c1, c2⟩ := H6 L hC
  have hlen : (Q ++ L).length < 160 := by rw [List.length_append]; omega
  have s0 : Stl r ρ S0 S0 := stl_t g5 (by omega) c1 (by omega)
  obtain ⟨S', e, h', f⟩ := be_op g1 hlen (H2 Q L _ g11 g3 hs) a1 g5 (by rw [a3]; exact g4 ρ S0 H7 (Nat.le_refl _) s0) (H10 k hs) g6 (by omega) d
  exact ⟨S', la_w1 (RC_18e g1) e, h', by rw [List.length_cons]; omega, f⟩
theorem RL_step {k j j2 : Nat} {v u cb z : Env → Int} (H : RLH b n Cx Cc Rc R sg opa qc ρ) (hρ : ρ ≤ ρc) (hDF : DFr D) (hs : sg (tK b n k) = true) (hkj : k + 1 < j) (H1 : RPn b n law D (Cc (k + 1)) Rc qc ρc o (k + 1) j u) (H2 : RLk b n law D Cx R (qc + 1) ρ o j j2 cb z) (hcb : ∀ (co vl : Nat → Int32) (x y y2 : Nat), D (alL law) co vl x y v → D (alL law) co vl y y2 u → co y2 = nI (opa (tK b n k)) → D (alL law) co vl x (y2 + 1) cb) : RLk b n law D Cx R (qc + 1) ρ o k j2 v z := by
  intro r T w L Sb S1 S0 Q o1 w1 w' hT hC h d
  obtain ⟨S', e, h', b', f'⟩ := RL_push H hC hs h d
  obtain ⟨g1, g2, g3, g4, g5, g6, g7, g8, g9, g10, g11⟩ := h
  obtain ⟨K1, K2, K3, K4, K5, K6, K7, K8, K9, K10⟩ := H
  obtain ⟨a1, a2, a3, a4⟩ := K3 _ hs
  obtain ⟨c1, c2⟩ := K6 L hC
  obtain ⟨S1c, S0c, Qc, o1c, w1c, wc, m0, m1, m2, m3, m4, m5, m6, m7, m8, m9, m10, m11⟩ := H1 r T w' _ S' h' b' (K1 k L hC hs) d
  rw [List.length_cons] at m6
  have hp := RC_po m5
  have fp := FrW_p m5
  have hnu : ¬ (rkN (opa (tK b n k)) = 7 ∨ opa (tK b n k) = 20) := by omega
  rw [if_neg hnu] at hp
  have f9 := FrW_t g9 f' (by omega)
  have eL : Qc ++ opa (tK b n k) :: L = (Qc ++ [opa (tK b n k)]) ++ L := by rw [List.append_assoc]; rfl
  have hP : PnS b n law D R (qc + 1) ρ r T j L o w (wc + 1) cb Sb S1c (popM S0c r T L.length wc o (opa (tK b n k))) (Qc ++ [opa (tK b n k)]) o1c w1c := by
    refine ⟨by rw [← eL]; exact m1, by rw [List.length_append, List.length_singleton]; omega, fun q hq => ?_, fun l S3 l1 l2 hs3 => m4 l S3 l1 (by omega) (stl_p m5 (by omega) (by omega) (Or.inr hnu) hs3), hp, by omega, by omega, FrW_t f9 m8 (by omega), FrW_t f9 (FrW_t m9 fp (by omega)) (by omega), ?_, K4 Qc _ L hs m11⟩
    · rcases List.mem_append.mp hq with y | y
      · have := m3 q y; omega
      · rw [List.mem_singleton.mp y]; omega
    · refine hcb _ _ w w' wc ?_ (hDF _ _ _ _ _ _ _ _ _ m10 fp hT (Nat.le_refl _)) (po_cv S0c r T L.length wc o _)
      exact hDF _ _ _ _ _ _ _ _ _ (hDF _ _ _ _ _ _ _ _ _ g10 (FrW_t f' m9 (Nat.le_refl _)) hT (Nat.le_refl _)) fp hT (by omega)
  obtain ⟨S1', S0', Q', o1', w1', w'', e', hP'⟩ := H2 r T w L Sb S1c _ _ o1c w1c (wc + 1) hT hC hP d
  exact ⟨S1', S0', Q', o1', w1', w'', e.trans (m0.trans e'), hP'⟩
theorem RL_stepF {k f p : Nat} (H : RLH b n Cx Cc Rc R sg opa qc ρ) (hs : sg (tK b n k) = true) (H1 : RFk b n law (Cc (k + 1)) o (k + 1) f p) : RLf b n law D Cx R (qc + 1) ρ o k f p := by
  intro r T w L Sb S1 S0 Q o1 w1 w' v hT hC h d
  obtain ⟨S', e, h', b', f'⟩ := RL_push H hC hs h d
  obtain ⟨S2, e2, k2, f2⟩ := H1 r T w' _ S' h' b' (H.1 k L hC hs) d
  exact ⟨S2, e.trans e2, k2, FrW_t (FrW_m h.2.2.2.2.2.2.2.2.1 (Nat.zero_le _)) (FrW_t (FrW_m f' (Nat.zero_le _)) f2 (Nat.le_refl _)) (Nat.le_refl _)⟩
theorem RL_stepG {k j f p : Nat} {u : Env → Int} (H : RLH b n Cx Cc Rc R sg opa qc ρ) (hρ : ρ ≤ ρc) (hDF : DFr D) (hs : sg (tK b n k) = true) (hkj : k + 1 < j) (H1 : RPn b n law D (Cc (k + 1)) Rc qc ρc o (k + 1) j u) (H2 : RLf b n law D Cx R (qc + 1) ρ o j f p) (hcb : ∀ v : Env → Int, ∃ cb : Env → Int, ∀ (co vl : Nat → Int32) (x y y2 : Nat), D (alL law) co vl x y v → D (alL law) co vl y y2 u → co y2 = nI (opa (tK b n k)) → D (alL law) co vl x (y2 + 1) cb) : RLf b n law D Cx R (qc + 1) ρ o k f p := by
  intro r T w L Sb S1 S0 Q o1 w1 w' v hT hC h d
  obtain ⟨cb, hcb⟩ := hcb v
  obtain ⟨S', e, h', b', f'⟩ := RL_push H hC hs h d
  obtain ⟨g1, g2, g3, g4, g5, g6, g7, g8, g9, g10, g11⟩ := h
  obtain ⟨K1, K2, K3, K4, K5, K6, K7, K8, K9, K10⟩ := H
  obtain ⟨a1, a2, a3, a4⟩ := K3 _ hs
  obtain ⟨c1, c2⟩ := K6 L hC
  obtain ⟨S1c, S0c, Qc, o1c, w1c, wc, m0, m1, m2, m3, m4, m5, m6, m7, m8, m9, m10, m11⟩ := H1 r T w' _ S' h' b' (K1 k L hC hs) d
  rw [List.length_cons] at m6
  have hp := RC_po m5
  have fp := FrW_p m5
  have hnu : ¬ (rkN (opa (tK b n k)) = 7 ∨ opa (tK b n k) = 20) := by omega
  rw [if_neg hnu] at hp
  have f9 := FrW_t g9 f' (by omega)
  have eL : Qc ++ opa (tK b n k) :: L = (Qc ++ [opa (tK b n k)]) ++ L := by rw [List.append_assoc]; rfl
  have hP : PnS b n law D R (qc + 1) ρ r T j L o w (wc + 1) cb Sb S1c (popM S0c r T L.length wc o (opa (tK b n k))) (Qc ++ [opa (tK b n k)]) o1c w1c := by
    refine ⟨by rw [← eL]; exact m1, by rw [List.length_append, List.length_singleton]; omega, fun q hq => ?_, fun l S3 l1 l2 hs3 => m4 l S3 l1 (by omega) (stl_p m5 (by omega) (by omega) (Or.inr hnu) hs3), hp, by omega, by omega, FrW_t f9 m8 (by omega), FrW_t f9 (FrW_t m9 fp (by omega)) (by omega), ?_, K4 Qc _ L hs m11⟩
    · rcases List.mem_append.mp hq with y | y
      · have := m3 q y; omega
      · rw [List.mem_singleton.mp y]; omega
    · refine hcb _ _ w w' wc ?_ (hDF _ _ _ _ _ _ _ _ _ m10 fp hT (Nat.le_refl _)) (po_cv S0c r T L.length wc o _)
      exact hDF _ _ _ _ _ _ _ _ _ (hDF _ _ _ _ _ _ _ _ _ g10 (FrW_t f' m9 (Nat.le_refl _)) hT (Nat.le_refl _)) fp hT (by omega)
  obtain ⟨S2, e2, k2, f2⟩ := H2 r T w L Sb S1c _ _ o1c w1c (wc + 1) cb hT hC hP d
  exact ⟨S2, e.trans (m0.trans e2), k2, f2⟩
theorem RX_ok {i k j : Nat} {v z : Env → Int} (H : RLH b n Cx Cc Rc R sg opa qc ρ) (hρ : ρ ≤ ρc) (hC : ∀ L, Cx L → Cc i L) (H1 : RPn b n law D (Cc i) Rc qc ρc o i k v) (H2 : RLk b n law D Cx R (qc + 1) ρ o k j v z) : RPn b n law D Cx R (qc + 1) ρ o i j z := by
  intro r T w L S h hw hc d
  have hB := RC_b h
  obtain ⟨S1, S0, Q, o1, w1, w', g0, g1, g2, g3, g4, g5, g6, g7, g8, g9, g10, g11⟩ := H1 r T w L S h hw (hC L hc) d
  obtain ⟨S1', S0', Q', o1', w1', w'', e', hP'⟩ := H2 r T w L S S1 S0 Q o1 w1 w' hB.2.2.2.1 hc ⟨g1, by omega, fun q hq => by have := g3 q hq; omega, fun l S3 l1 l2 => g4 l S3 l1 (by omega), g5, g6, g7, g8, g9, g10, H.2.2.2.2.1 Q L g11⟩ d
  exact ⟨S1', S0', Q', o1', w1', w'', g0.trans e', hP'⟩
theorem RX_f {i f p : Nat} (hC : ∀ L, Cx L → Cc i L) (H1 : RFk b n law (Cc i) o i f p) : RFk b n law Cx o i f p := fun r T w L S h hw hc d => H1 r T w L S h hw (hC L hc) d
theorem RX_g {i k f p : Nat} {v : Env → Int} (H : RLH b n Cx Cc Rc R sg opa qc ρ) (hρ : ρ ≤ ρc) (hC : ∀ L, Cx L → Cc i L) (H1 : RPn b n law D (Cc i) Rc qc ρc o i k v) (H2 : RLf b n law D Cx R (qc + 1) ρ o k f p) : RFk b n law Cx o i f p := by
  intro r T w L S h hw hc d
  have hB := RC_b h
  obtain ⟨S1, S0, Q, o1, w1, w', g0, g1, g2, g3, g4, g5, g6, g7, g8, g9, g10, g11⟩ := H1 r T w L S h hw (hC L hc) d
  obtain ⟨S', e', k', f'⟩ := H2 r T w L S S1 S0 Q o1 w1 w' v hB.2.2.2.1 hc ⟨g1, by omega, fun q hq => by have := g3 q hq; omega, fun l S3 l1 l2 => g4 l S3 l1 (by omega), g5, g6, g7, g8, g9, g10, H.2.2.2.2.1 Q L g11⟩ d
  exact ⟨S', g0.trans e', k', f'⟩
end RL_
/-- what is asked waits, compared -/
def Ra : List Nat → List Nat → Prop := fun Q L => opN (Q ++ L) = 41 ∧ fcm (Q ++ L) = true
def CxA (o : Nat) (L : List Nat) : Prop := L.length + 1 ≤ 6 * o ∧ o ≤ 8 ∧ opN L = 41 ∧ ∃ h t, L = h :: t ∧ rkN h ≤ 3
def CxB (o : Nat) (L : List Nat) : Prop := L.length + 2 ≤ 6 * o ∧ o ≤ 8 ∧ opN L = 41 ∧ ∃ h t, L = h :: t ∧ rkN h ≤ 1
def CxE (o : Nat) (L : List Nat) : Prop := L.length + 3 ≤ 6 * o ∧ o ≤ 8 ∧ opN L = 41 ∧ ∃ h t, L = h :: t ∧ rkN h = 0
def opP (K : Nat) : Nat := K - 25
def opB_ (K : Nat) : Nat := if K = 17 then 21 else 22
section RM_
variable {b : Nat → Nat} {n law : Nat}
theorem R_pro (o i : Nat) : RLH b n (CxP b n o i) (fun i L => CxO b n o i L ∧ tpR L < 7) Ri Ri sgP opP 0 6 := by
  refine ⟨fun k L hC hs => ?_, fun Q L K _ _ hs => ?_, fun K hs => ?_, fun _ _ _ _ _ => trivial, fun _ _ _ => trivial, fun L hC => ⟨hC.2.2.1, by have := hC.1; have := hC.2.1; omega⟩, by decide, by decide, by decide, fun k hs => tK_in (by have := sgP_e.mp hs; omega)⟩
  · have h1 := hC.1
    refine ⟨⟨by rw [List.length_cons]; omega, hC.2.1, fun _ => askA_r ?_⟩, ?_⟩
    · rcases sgP_e.mp hs with z | z <;> rw [z] <;> decide
    · rw [tpR_s]; rcases sgP_e.mp hs with z | z <;> rw [z] <;> decide
  · rcases sgP_e.mp hs with z | z <;> rw [z] <;> (unfold btV opP; rw [if_pos (by decide)])
  · rcases sgP_e.mp hs with z | z <;> rw [z] <;> decide
theorem R_sum (o i : Nat) : RLH b n (CxS b n o i) (CxP b n o) Ri Ri sgS opP 1 5 := by
  refine ⟨fun k L hC hs => ?_, fun Q L K _ _ hs => ?_, fun K hs => ?_, fun _ _ _ _ _ => trivial, fun _ _ _ => trivial, fun L hC => ⟨hC.2.2.1, by have := hC.1; have := hC.2.1; omega⟩, by decide, by decide, by decide, fun k hs => tK_in (by have := sgS_e.mp hs; omega)⟩
  · have h1 := hC.1
    refine ⟨by rw [List.length_cons]; omega, hC.2.1, ?_, fun _ => askA_r ?_⟩
    · rw [tpR_s]; rcases sgS_e.mp hs with z | z <;> rw [z] <;> decide
    · rcases sgS_e.mp hs with z | z <;> rw [z] <;> decide
  · rcases sgS_e.mp hs with z | z <;> rw [z] <;> (unfold btV opP; rw [if_pos (by decide)])
  · rcases sgS_e.mp hs with z | z <;> rw [z] <;> decide
theorem Ra_c {Q L : List Nat} {a : Nat} (h : Ra Q (a :: L)) : Ra (Q ++ [a]) L := by
  unfold Ra at h ⊢
  rw [List.append_assoc]
  exact h
theorem R_bot (o q : Nat) (hq : q ≤ 30) : RLH b n (CxB o) (fun _ => CxA o) Ra Ra sgB opB_ q 2 := by
  refine ⟨fun k L hC hs => ?_, fun Q L K hR _ hs => ?_, fun K hs => ?_, fun Q K L _ h => Ra_c h, fun _ _ h => h, fun L hC => ⟨?_, by have := hC.1; have := hC.2.1; omega⟩, by decide, by decide, hq, fun k hs => tK_in (by have := sgB_e.mp hs; omega)⟩
  · have h1 := hC.1
    have z := sgB_e.mp hs
    rw [z]
    refine ⟨by rw [List.length_cons]; omega, hC.2.1, ?_, 21, L, rfl, by decide⟩
    show opN (21 :: L) = 41
    rw [opN_q (by decide)]; exact hC.2.2.1
  · rw [sgB_e.mp hs]
    unfold btV
    rw [if_neg (by decide), if_pos hR.1, if_pos hR.2, if_pos rfl]; rfl
  · rw [sgB_e.mp hs]; decide
  · obtain ⟨h, t, e, hr⟩ := hC.2.2.2
    rw [e, tpR_s]; omega
theorem R_eit (o q : Nat) (hq : q ≤ 30) : RLH b n (CxE o) (fun _ => CxB o) Ra Ra sgE opB_ q 1 := by
  refine ⟨fun k L hC hs => ?_, fun Q L K hR _ hs => ?_, fun K hs => ?_, fun Q K L _ h => Ra_c h, fun _ _ h => h, fun L hC => ⟨?_, by have := hC.1; have := hC.2.1; omega⟩, by decide, by decide, hq, fun k hs => tK_in (by have := sgE_e.mp hs; omega)⟩
  · have h1 := hC.1
    have z := sgE_e.mp hs
    rw [z]
    refine ⟨by rw [List.length_cons]; omega, hC.2.1, ?_, 22, L, rfl, by decide⟩
    show opN (22 :: L) = 41
    rw [opN_q (by decide)]; exact hC.2.2.1
  · rw [sgE_e.mp hs]
    unfold btV
    rw [if_neg (by decide), if_pos hR.1, if_pos hR.2, if_neg (by decide), if_pos rfl]; rfl
  · rw [sgE_e.mp hs]; decide
  · obtain ⟨h, t, e, hr⟩ := hC.2.2.2
    rw [e, tpR_s]; omega
/-- one under a row of * and / -/
theorem RFk_m {Cx Cx' : List Nat → Prop} {o i f k : Nat} (h : ∀ L, Cx' L → Cx L) (H : RFk b n law Cx o i f k) : RFk b n law Cx' o i f k := fun r T w L S h1 h2 hc d => H r T w L S h1 h2 (h L hc) d
theorem R1_O {o i j : Nat} {v : Env → Int} (H : ROne b n law o i j v) : RPn b n law RDz (fun L => CxO b n o i L ∧ tpR L < 7) Ri 0 7 o i j v := by
  intro r T w L S h hw hc d
  have h1 := hc.1.1
  have h2 := hc.1.2.1
  obtain ⟨S0, w', g1, g2, g3, g4, g5, g6⟩ := H r T w L S h hw hc.1 d
  exact ⟨S0, S0, [], o, w', w', g1 S0 (stl_t g2 (by omega) hc.2 (by decide)), g2, Nat.le_refl _, fun q hq => (by cases hq), fun _ _ _ _ hs => hs, g2, g3, g4, g5, g5, g6, trivial⟩
end RM_
