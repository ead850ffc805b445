/-! the reference's parser: what is read by one -/
def tpR (L : List Nat) : Nat := match L with
  | [] => 0
  | a :: _ => rkN a
theorem tpR_s (a : Nat) (L : List Nat) : tpR (a :: L) = rkN a := rfl
def CxO (b : Nat → Nat) (n o i : Nat) (L : List Nat) : Prop := L.length ≤ 6 * o + 2 ∧ o ≤ 8 ∧ (tK b n i = 18 → askA L = false)
def CxP (b : Nat → Nat) (n o i : Nat) (L : List Nat) : Prop := L.length ≤ 6 * o + 1 ∧ o ≤ 8 ∧ tpR L < 6 ∧ (tK b n i = 18 → askA L = false)
def CxS (b : Nat → Nat) (n o i : Nat) (L : List Nat) : Prop := L.length ≤ 6 * o ∧ o ≤ 8 ∧ tpR L < 5 ∧ (tK b n i = 18 → askA L = false)
def ROne (b : Nat → Nat) (n law o i j : Nat) (v : Env → Int) : Prop := ∀ (r T w : Nat) (L : List Nat) (S : Mem), RC b n law r T i L o 0 w S → w + L.length ≤ i → CxO b n o i L → ∀ d, ∃ S0 w', (∀ S3, Stl r 7 S0 S3 → LA r d S = LA r d S3) ∧ RC b n law r T j L o 1 w' S0 ∧ w' + L.length ≤ j ∧ w < w' ∧ FrW r T w S S0 ∧ RD (alL law) (co_ T r S0) (vl_ T r S0) w w' v
def RFk (b : Nat → Nat) (n law : Nat) (Cx : List Nat → Prop) (o i f k : Nat) : Prop := ∀ (r T w : Nat) (L : List Nat) (S : Mem), RC b n law r T i L o 0 w S → w + L.length ≤ i → Cx L → ∀ d, ∃ S', LA r d S = some (some (vI (nI f)), S') ∧ rdI S' r 8 = nI (tP b n k) ∧ FrW r T 0 S S'
def DTy : Type := (Nat → Bool) → (Nat → Int32) → (Nat → Int32) → Nat → Nat → (Env → Int) → Prop
def RBz : DTy := fun al co vl i j v => RB al co vl i j (fun E => decide (v E = 1))
def RDz : DTy := fun al co vl i j v => RD al co vl i j v
def DFr (D : DTy) : Prop := ∀ (al : Nat → Bool) (T r w w1 w2 : Nat) (S S' : Mem) (v : Env → Int), D al (co_ T r S) (vl_ T r S) w1 w2 v → FrW r T w S S' → T < 4 → w2 ≤ w → D al (co_ T r S') (vl_ T r S') w1 w2 v
theorem DFr_D : DFr RDz := fun al T r w w1 w2 S S' v H f hT hw => RD_f H f hT hw
theorem DFr_B : DFr RBz := fun al T r w w1 w2 S S' v H f hT hw => RB_f H f hT hw
/-- what waits above L, and what it comes to -/
def PnS (b : Nat → Nat) (n law : Nat) (D : DTy) (R : List Nat → List Nat → Prop) (qb ρ r T j : Nat) (L : List Nat) (o w w' : Nat) (v : Env → Int) (Sb S1 S0 : Mem) (Q : List Nat) (o1 w1 : Nat) : Prop := RC b n law r T j (Q ++ L) o1 1 w1 S1 ∧ Q.length ≤ qb ∧ (∀ q ∈ Q, ρ ≤ rkN q) ∧ (∀ l S3, 1 ≤ l → l ≤ ρ → Stl r l S0 S3 → Stl r l S1 S3) ∧ RC b n law r T j L o 1 w' S0 ∧ w' + L.length ≤ j ∧ w < w' ∧ FrW r T w Sb S1 ∧ FrW r T w Sb S0 ∧ D (alL law) (co_ T r S0) (vl_ T r S0) w w' v ∧ R Q L
def RPn (b : Nat → Nat) (n law : Nat) (D : DTy) (Cx : List Nat → Prop) (R : List Nat → List Nat → Prop) (qb ρ o i j : Nat) (v : Env → Int) : Prop := ∀ (r T w : Nat) (L : List Nat) (S : Mem), RC b n law r T i L o 0 w S → w + L.length ≤ i → Cx L → ∀ d, ∃ S1 S0 Q o1 w1 w', LA r d S = LA r d S1 ∧ PnS b n law D R qb ρ r T j L o w w' v S S1 S0 Q o1 w1
def Ri : List Nat → List Nat → Prop := fun _ _ => True
theorem askA_r {a : Nat} {L : List Nat} (h : 3 < rkN a) : askA (a :: L) = false := by
  have : ¬ 40 ≤ a := fun z => by unfold rkN at h; rw [if_pos z] at h; omega
  rw [askA_s, decide_eq_false this, decide_eq_false (show ¬ rkN a ≤ 3 by omega), Bool.and_false, Bool.or_false, Bool.and_false]
theorem askA_o {q : Nat} {L : List Nat} (hq : 40 ≤ q) (hq2 : q < 100) (h : ¬ q = 41) : askA (q :: L) = false := by
  rw [askA_s, opN_c hq, decide_eq_false (show ¬ nI q = 41 from nK (y := 41) hq2 (by decide) h), Bool.false_and]
theorem stl_t {b : Nat → Nat} {n law r T k o w l : Nat} {L : List Nat} {wh : Int32} {S : Mem} (h : RC b n law r T k L o wh w S) (hL : L.length < 160) (ht : tpR L < l) (hl : l < 100) : Stl r l S S := by
  cases L with
  | nil => exact stl_0 h
  | cons a L =>
    rw [List.length_cons] at hL
    exact stl_1 h (by omega) ht hl
theorem po_cv (S : Mem) (r T p w o a : Nat) : co_ T r (popM S r T p w o a) w = nI a := by
  unfold popM
  by_cases z : rkN a = 7 ∨ a = 20
  · rw [if_pos z]
    have e := (em_cv (wrI S r 16 (nI p)) r T w (nI a) 0).1
    unfold co_ at e ⊢
    rw [rdI_wrI, if_neg (by omega)]; exact e
  · rw [if_neg z]; exact (em_cv _ r T w (nI a) 0).1
theorem opN_q {q : Nat} {L : List Nat} (h : 1 ≤ rkN q) : opN (q :: L) = opN L := by
  have : ¬ 40 ≤ q := fun z => by unfold rkN at h; rw [if_pos z] at h; omega
  unfold opN
  rw [fop_s, if_neg this]
theorem opN_a : ∀ {Q L : List Nat}, (∀ q ∈ Q, 1 ≤ rkN q) → opN (Q ++ L) = opN L
  | [], _, _ => rfl
  | q :: Q, L, h => by
    rw [List.cons_append, opN_q (h q (List.mem_cons_self ..))]
    exact opN_a (fun x hx => h x (List.mem_cons_of_mem _ hx))
theorem fcm_a : ∀ {Q L : List Nat}, (∀ q ∈ Q, 5 ≤ rkN q) → fcm (Q ++ L) = fcm L
  | [], _, _ => rfl
  | q :: Q, L, h => by
    have := h q (List.mem_cons_self ..)
    rw [List.cons_append, fcm_s, if_neg (by omega)]
    exact fcm_a (fun x hx => h x (List.mem_cons_of_mem _ hx))
section RS_
variable {b : Nat → Nat} {n law : Nat}
theorem RC_18e {r T k o w : Nat} {L : List Nat} {wh : Int32} {S : Mem} (h : RC b n law r T k L o wh w S) : rdI S r 18 = wh := h.2.2.2.2.1
theorem r1_num {i o : Nat} (hK : tK b n i = 38) (hv : tV b n i ≤ 9999) : ROne b n law o i (i + 1) (fun _ => ((tV b n i : Nat) : Int)) := by
  intro r T w L S h hw hc d
  obtain ⟨S0, e0, h0, b0, f0, c0, v0⟩ := bg_num h hw hK hv d
  exact ⟨S0, w + 1, fun S3 hs => la_b7 (RC_18e h) e0 hs, h0, b0, by omega, f0, RD_num (alL law) c0 v0 hv⟩
theorem r1_name {i o : Nat} (hK : 19 ≤ tK b n i ∧ tK b n i ≤ 24) (hal : alL law (tK b n i - 19) = true) : ROne b n law o i (i + 1) (fun E => E.1 (tK b n i - 19)) := by
  intro r T w L S h hw hc d
  obtain ⟨S0, e0, h0, b0, f0, c0, v0⟩ := bg_name h hw hK hal d
  exact ⟨S0, w + 1, fun S3 hs => la_b7 (RC_18e h) e0 hs, h0, b0, by omega, f0, RD_name (alL law) c0 v0 (by omega) hal⟩
theorem r1_f0 {i o f : Nat} {Cx : List Nat → Prop} (hf : 0 < f) (hf2 : f < 100) (H : ∀ (r T w d : Nat) (L : List Nat) (S : Mem), RC b n law r T i L o 0 w S → Cx L → cal (d + 8) 201 [vR 8 r] S = some (some (vI (nI f)), S)) : RFk b n law Cx o i f i := fun r T w L S h _ hc d => ⟨S, la_bf (RC_18e h) hf hf2 (H r T w d L S h hc), RT_8 h.1, FrW_r⟩
theorem r1_numf {i o : Nat} (hK : tK b n i = 38) (hv : ¬ tV b n i ≤ 9999) : RFk b n law (CxO b n o i) o i 2 i := r1_f0 (by decide) (by decide) (fun r T w d L S h _ => bg_numf h hK hv d)
theorem r1_namef {i o : Nat} (hK : 19 ≤ tK b n i ∧ tK b n i ≤ 24) (hal : alL law (tK b n i - 19) = false) : RFk b n law (CxO b n o i) o i 5 i := r1_f0 (by decide) (by decide) (fun r T w d L S h _ => bg_namef h hK hal d)
theorem r1_bad {i o : Nat} (hK : ¬ (tK b n i = 10 ∨ tK b n i = 11 ∨ tK b n i = 12 ∨ tK b n i = 32 ∨ tK b n i = 35 ∨ tK b n i = 38)) (hK2 : tK b n i < 19 ∨ 24 < tK b n i) : RFk b n law (CxO b n o i) o i 1 i := r1_f0 (by decide) (by decide) (fun r T w d L S h hc => by
  have hl : L.length < 160 := by have := hc.1; have := hc.2.1; omega
  rw [bg_w h hl (by omega) (by omega), if_neg (by omega), if_neg (by omega), if_neg (by omega), if_neg (by omega), if_neg (by omega), if_neg (fun z => by rw [hc.2.2 z.1] at z; exact absurd z.2 (by decide))])
theorem r1_deep {i o : Nat} (hK : tK b n i = 10 ∨ tK b n i = 11 ∨ tK b n i = 12 ∨ tK b n i = 32 ∨ tK b n i = 35) (ho : o = 8) : RFk b n law (CxO b n o i) o i 3 i := r1_f0 (by decide) (by decide) (fun r T w d L S h hc => by
  have hl : L.length < 160 := by have := hc.1; have := hc.2.1; omega
  have eo : ∀ a : Int32, bI (cal (d + 7) 200 [vR 8 r, vI a] S) (fun x2 S1 => some (some (vI x2), S1)) = some (some (vI (nI 3)), S) := fun a => by
    rw [show d + 7 = (d + 6) + 1 by omega, opf_m h ho, bI_s]; rfl
  rw [bg_w h hl (by omega) (by omega)]
  rcases hK with z | z | z | z | z
  · rw [if_neg (by omega), if_neg (by omega), if_pos z, eo]
  · rw [if_neg (by omega), if_neg (by omega), if_neg (by omega), if_pos z, eo]
  · rw [if_neg (by omega), if_neg (by omega), if_neg (by omega), if_neg (by omega), if_pos z, eo]
  · rw [if_neg (by omega), if_pos z, eo]
  · rw [if_pos z, eo])
/-- one more is opened -/
theorem opn_l {i o a r T w : Nat} {L : List Nat} {S : Mem} (hK : (tK b n i = 35 ∧ a = 40) ∨ (tK b n i = 32 ∧ a = 5) ∨ (tK b n i = 10 ∧ a = 2) ∨ (tK b n i = 11 ∧ a = 4) ∨ (tK b n i = 12 ∧ a = 41) ∨ (tK b n i = 18 ∧ askA L = true ∧ a = 20)) (h : RC b n law r T i L o 0 w S) (hw : w + L.length ≤ i) (hL : L.length < 155) (ho : o < 8) (d : Nat) : ∃ S', LA r d S = LA r d S' ∧ RC b n law r T (i + 1) (a :: L) (o + 1) 0 w S' ∧ FrW r T w S S' := by
  have hk := tK_in (b := b) (n := n) (i := i) (by omega)
  obtain ⟨S', e, h1, f1⟩ := opn_m h hw hk (by omega) ho (a := a) (by omega) (d + 5)
  refine ⟨S', la_b (RC_18e h) ?_, h1, f1⟩
  have e' : cal (d + 7) 200 [vR 8 r, vI (nI a)] S = some (some (vI 0), S') := e
  have hw := bg_w h (by omega) (by omega) (by omega) d
  rw [hw]
  rcases hK with ⟨z, y⟩ | ⟨z, y⟩ | ⟨z, y⟩ | ⟨z, y⟩ | ⟨z, y⟩ | ⟨z, x, y⟩
  · rw [y] at e'; rw [if_pos z, e', bI_s]
  · rw [y] at e'; rw [if_neg (by omega), if_pos z, e', bI_s]
  · rw [y] at e'; rw [if_neg (by omega), if_neg (by omega), if_pos z, e', bI_s]
  · rw [y] at e'; rw [if_neg (by omega), if_neg (by omega), if_neg (by omega), if_pos z, e', bI_s]
  · rw [y] at e'; rw [if_neg (by omega), if_neg (by omega), if_neg (by omega), if_neg (by omega), if_pos z, e', bI_s]
  · rw [y] at e'; rw [if_neg (by omega), if_neg (by omega), if_neg (by omega), if_neg (by omega), if_neg (by omega), if_pos ⟨z, x⟩, e', bI_s]
theorem r1_un {i j o q a : Nat} {v : Env → Int} (hK : (tK b n i = 10 ∧ q = 10 ∧ a = 2) ∨ (tK b n i = 11 ∧ q = 11 ∧ a = 4) ∨ (tK b n i = 32 ∧ q = 41 ∧ a = 5)) (ho : o < 8) (H : ROne b n law (o + 1) (i + 1) j v) : ROne b n law o i j (fun E => uop q E (v E)) := by
  intro r T w L S h hw hc d
  have hl := hc.1
  have hB := RC_b h
  have hr : rkN a = 7 := by rcases hK with ⟨-, -, z⟩ | ⟨-, -, z⟩ | ⟨-, -, z⟩ <;> rw [z] <;> decide
  obtain ⟨S', e, h1, f1⟩ := opn_l (a := a) (by omega) h hw (by omega) ho d
  obtain ⟨S0, w', g1, g2, g3, g4, g5, g6⟩ := H r T w (a :: L) S' h1 (by rw [List.length_cons]; omega) ⟨by rw [List.length_cons]; omega, by omega, fun _ => askA_r (by omega)⟩ d
  rw [List.length_cons] at g3
  have hp := RC_po g2
  have fp := FrW_p g2
  rw [if_pos (Or.inl hr), Nat.add_sub_cancel] at hp
  refine ⟨popM S0 r T L.length w' (o + 1) a, w' + 1, fun S3 hs => e.trans (g1 S3 (stl_p g2 (by omega) (by omega) (Or.inl (by omega)) hs)), hp, by omega, by omega, FrW_t f1 (FrW_t g5 fp (by omega)) (Nat.le_refl _), RD_un (RD_f g6 fp hB.2.2.2.1 (Nat.le_refl _)) (by omega) (po_cv S0 r T L.length w' (o + 1) a)⟩
theorem r1_unf {i o q a f k : Nat} (hK : (tK b n i = 10 ∧ q = 10 ∧ a = 2) ∨ (tK b n i = 11 ∧ q = 11 ∧ a = 4) ∨ (tK b n i = 32 ∧ q = 41 ∧ a = 5)) (ho : o < 8) (H : RFk b n law (CxO b n (o + 1) (i + 1)) (o + 1) (i + 1) f k) : RFk b n law (CxO b n o i) o i f k := by
  intro r T w L S h hw hc d
  have hl := hc.1
  have hr : rkN a = 7 := by rcases hK with ⟨-, -, z⟩ | ⟨-, -, z⟩ | ⟨-, -, z⟩ <;> rw [z] <;> decide
  obtain ⟨S', e, h1, f1⟩ := opn_l (a := a) (by omega) h hw (by omega) ho d
  obtain ⟨S2, g1, g2, g3⟩ := H r T w (a :: L) S' h1 (by rw [List.length_cons]; omega) ⟨by rw [List.length_cons]; omega, by omega, fun _ => askA_r (by omega)⟩ d
  exact ⟨S2, e.trans g1, g2, FrW_t (FrW_m f1 (Nat.zero_le _)) g3 (Nat.le_refl _)⟩
/-- ( -/
theorem r1_pa {i j o : Nat} {v : Env → Int} (hK : tK b n i = 35) (ho : o < 8) (hj : tK b n j = 36) (H : RPn b n law RDz (CxS b n (o + 1) (i + 1)) Ri 2 5 (o + 1) (i + 1) j v) : ROne b n law o i (j + 1) v := by
  intro r T w L S h hw hc d
  have hl := hc.1
  have hB := RC_b h
  obtain ⟨S', e, h1, f1⟩ := opn_l (a := 40) (by omega) h hw (by omega) ho d
  obtain ⟨S1, S0, Q, o1, w1, w', g0, g1, g2, g3, g4, g5, g6, g7, g8, g9, g10, -⟩ := H r T w (40 :: L) S' h1 (by rw [List.length_cons]; omega) ⟨by rw [List.length_cons]; omega, by omega, by rw [tpR_s]; decide, fun _ => askA_o (by decide) (by decide) (by decide)⟩ d
  have hjl := tK_in (b := b) (n := n) (i := j) (by omega)
  have eo : opN (Q ++ 40 :: L) = nI 40 := by rw [opN_a (fun q hq => by have := g3 q hq; omega), opN_c (by decide)]
  have hlen : (Q ++ 40 :: L).length < 160 := by rw [List.length_append, List.length_cons]; omega
  have s0 : Stl r 1 S0 S0 := stl_t g5 (by rw [List.length_cons]; omega) (by rw [tpR_s]; decide) (by decide)
  obtain ⟨S4, e4, h4, f4, -⟩ := be_cl g1 hlen (by unfold btV; rw [hj, if_neg (by decide), eo, if_neg (by decide)]) eo (by unfold ptV; rw [if_pos (by decide), if_pos hj]) (Or.inl rfl) g5 (by omega) (g4 1 S0 (by decide) (by decide) s0) hjl g6 d
  rw [if_neg (by decide), Nat.add_sub_cancel] at h4
  rw [List.length_cons] at g6
  exact ⟨S4, w', fun S3 hs => e.trans (g0.trans (la_7 (RC_18e g1) e4 hs)), h4, by omega, g7, FrW_t f1 (FrW_t g9 f4 (by omega)) (Nat.le_refl _), RD_f g10 f4 hB.2.2.2.1 (Nat.le_refl _)⟩
theorem r1_pag {i j o : Nat} {v : Env → Int} (hK : tK b n i = 35) (ho : o < 8) (hj : ¬ tK b n j = 36) (hj2 : ¬ (31 ≤ tK b n j ∧ tK b n j ≤ 34)) (H : RPn b n law RDz (CxS b n (o + 1) (i + 1)) Ri 2 5 (o + 1) (i + 1) j v) : RFk b n law (CxO b n o i) o i 1 j := by
  intro r T w L S h hw hc d
  have hl := hc.1
  have hB := RC_b h
  obtain ⟨S', e, h1, f1⟩ := opn_l (a := 40) (by omega) h hw (by omega) ho d
  obtain ⟨S1, S0, Q, o1, w1, w', g0, g1, g2, g3, g4, g5, g6, g7, g8, g9, g10, -⟩ := H r T w (40 :: L) S' h1 (by rw [List.length_cons]; omega) ⟨by rw [List.length_cons]; omega, by omega, by rw [tpR_s]; decide, fun _ => askA_o (by decide) (by decide) (by decide)⟩ d
  have eo : opN (Q ++ 40 :: L) = nI 40 := by rw [opN_a (fun q hq => by have := g3 q hq; omega), opN_c (by decide)]
  have hlen : (Q ++ 40 :: L).length < 160 := by rw [List.length_append, List.length_cons]; omega
  have en : LA r d S1 = some (some (vI (nI 1)), S1) := la_no g1 hlen (by unfold btV; rw [if_neg hj2, eo, if_neg (by decide)]) eo (by decide) (by unfold ptV; rw [if_pos (by decide), if_neg hj])
  exact ⟨S1, e.trans (g0.trans en), RT_8 g1.1, FrW_t (FrW_m f1 (Nat.zero_le _)) (FrW_m g8 (Nat.zero_le _)) (Nat.le_refl _)⟩
theorem r1_paf {i o f k : Nat} (hK : tK b n i = 35) (ho : o < 8) (H : RFk b n law (CxS b n (o + 1) (i + 1)) (o + 1) (i + 1) f k) : RFk b n law (CxO b n o i) o i f k := by
  intro r T w L S h hw hc d
  have hl := hc.1
  obtain ⟨S', e, h1, f1⟩ := opn_l (a := 40) (by omega) h hw (by omega) ho d
  obtain ⟨S2, g1, g2, g3⟩ := H r T w (40 :: L) S' h1 (by rw [List.length_cons]; omega) ⟨by rw [List.length_cons]; omega, by omega, by rw [tpR_s]; decide, fun _ => askA_o (by decide) (by decide) (by decide)⟩ d
  exact ⟨S2, e.trans g1, g2, FrW_t (FrW_m f1 (Nat.zero_le _)) g3 (Nat.le_refl _)⟩
/-- if -/
def RCh (b : Nat → Nat) (n law o i j : Nat) (v : Env → Int) : Prop := ∀ (r T w : Nat) (L : List Nat) (S : Mem), RC b n law r T i (41 :: L) (o + 1) 0 w S → w + L.length + 1 ≤ i → L.length ≤ 6 * o + 2 → ∀ d, ∃ S0 w', (∀ S3, Stl r 7 S0 S3 → LA r d S = LA r d S3) ∧ RC b n law r T j L o 1 w' S0 ∧ w' + L.length ≤ j ∧ w < w' ∧ FrW r T w S S0 ∧ RD (alL law) (co_ T r S0) (vl_ T r S0) w w' v
def CxC (o : Nat) (L : List Nat) : Prop := ∃ L', L = 41 :: L' ∧ L'.length ≤ 6 * o + 2 ∧ o < 8
theorem r1_if {i j o : Nat} {v : Env → Int} (hK : tK b n i = 12) (ho : o < 8) (H : RCh b n law o (i + 1) j v) : ROne b n law o i j v := by
  intro r T w L S h hw hc d
  have hl := hc.1
  obtain ⟨S', e, h1, f1⟩ := opn_l (a := 41) (by omega) h hw (by omega) ho d
  obtain ⟨S0, w', g1, g2, g3, g4, g5, g6⟩ := H r T w L S' h1 (by omega) hl d
  exact ⟨S0, w', fun S3 hs => e.trans (g1 S3 hs), g2, g3, g4, FrW_t f1 g5 (Nat.le_refl _), g6⟩
theorem r1_iff {i o f k : Nat} (hK : tK b n i = 12) (ho : o < 8) (H : RFk b n law (CxC o) (o + 1) (i + 1) f k) : RFk b n law (CxO b n o i) o i f k := by
  intro r T w L S h hw hc d
  have hl := hc.1
  obtain ⟨S', e, h1, f1⟩ := opn_l (a := 41) (by omega) h hw (by omega) ho d
  obtain ⟨S2, g1, g2, g3⟩ := H r T w (41 :: L) S' h1 (by rw [List.length_cons]; omega) ⟨L, rfl, hl, ho⟩ d
  exact ⟨S2, e.trans g1, g2, FrW_t (FrW_m f1 (Nat.zero_le _)) g3 (Nat.le_refl _)⟩
end RS_
