/-! the class's parser: states and small methods -/
def CR (b : Nat → Nat) (n law t τ i c : Nat) (S : Mem) : Prop := TkS b n t (tN b n) S ∧ n ≤ 300 ∧ rdI S t 1 = nI n ∧ rdI S t 2 = 0 ∧ rdI S t 3 = -1 ∧ rdI S t 8 = nI i ∧ i ≤ tN b n ∧ rdI S t 9 = nI law ∧ law < 2 ∧ rdI S t 10 = nI τ ∧ τ < 2 ^ 31 ∧ t + 5 ≤ τ ∧ rdI S τ 6 = nI c
def CX (b : Nat → Nat) (n t τ f p : Nat) (S : Mem) : Prop := TkS b n t (tN b n) S ∧ n ≤ 300 ∧ rdI S t 2 = nI f ∧ 0 < f ∧ f < 100 ∧ rdI S t 3 = nI p ∧ rdI S t 8 = nI (tN b n) ∧ rdI S t 10 = nI τ ∧ τ < 2 ^ 31 ∧ t + 5 ≤ τ ∧ ∃ c : Nat, c ≤ 300 ∧ rdI S τ 6 = nI c
/-- what parsing changes: the reader's own numbers, codes from c on -/
def FrU (t τ c : Nat) (S S' : Mem) : Prop := (∀ q, ¬ (q = t ∨ q = τ ∨ q = τ + 6 ∨ q = τ + 7) → rdI S' q = rdI S q) ∧ (∀ j, ¬ (j = 2 ∨ j = 3 ∨ j = 8) → rdI S' t j = rdI S t j) ∧ (∀ j, ¬ j = 6 → rdI S' τ j = rdI S τ j) ∧ (∀ y, y < c → rdI S' (τ + 6) y = rdI S (τ + 6) y ∧ rdI S' (τ + 7) y = rdI S (τ + 7) y) ∧ S'.2 = S.2
theorem FrU_r {t τ c : Nat} {S : Mem} : FrU t τ c S S := ⟨fun _ _ => rfl, fun _ _ => rfl, fun _ _ => rfl, fun _ _ => ⟨rfl, rfl⟩, rfl⟩
theorem FrU_t {t τ c c' : Nat} {S S1 S2 : Mem} (h : FrU t τ c S S1) (h2 : FrU t τ c' S1 S2) (hc : c ≤ c') : FrU t τ c S S2 := ⟨fun q a => (h2.1 q a).trans (h.1 q a), fun j a => (h2.2.1 j a).trans (h.2.1 j a), fun j a => (h2.2.2.1 j a).trans (h.2.2.1 j a), fun y hy => ⟨(h2.2.2.2.1 y (by omega)).1.trans (h.2.2.2.1 y hy).1, (h2.2.2.2.1 y (by omega)).2.trans (h.2.2.2.1 y hy).2⟩, h2.2.2.2.2.trans h.2.2.2.2⟩
theorem FrU_m {t τ c c' : Nat} {S S1 : Mem} (h : FrU t τ c S S1) (hc : c' ≤ c) : FrU t τ c' S S1 := ⟨h.1, h.2.1, h.2.2.1, fun y hy => h.2.2.2.1 y (by omega), h.2.2.2.2⟩
theorem FrU_w {t τ c i : Nat} {v : Int32} {S : Mem} (ht : t + 5 ≤ τ) (hi : i = 2 ∨ i = 3 ∨ i = 8) : FrU t τ c S (wrI S t i v) := ⟨fun q a => funext fun x => by rw [rdI_wrI, if_neg (by omega)], fun j a => by rw [rdI_wrI, if_neg (by omega)], fun j a => by rw [rdI_wrI, if_neg (by omega)], fun y hy => ⟨by rw [rdI_wrI, if_neg (by omega)], by rw [rdI_wrI, if_neg (by omega)]⟩, rfl⟩
def adC (S : Mem) (τ c : Nat) (a v : Int32) : Mem := wrI (wrI (wrI S (τ + 6) c a) (τ + 7) c v) τ 6 (nI (c + 1))
theorem FrU_a {t τ c : Nat} {a v : Int32} {S : Mem} (ht : t + 5 ≤ τ) : FrU t τ c S (adC S τ c a v) := by
  unfold adC
  refine ⟨fun q a => funext fun x => ?_, fun j a => ?_, fun j a => ?_, fun y hy => ⟨?_, ?_⟩, rfl⟩
  all_goals rw [rdI_wrI, if_neg (by omega), rdI_wrI, if_neg (by omega), rdI_wrI, if_neg (by omega)]
theorem TkS_U {b : Nat → Nat} {n t τ c k : Nat} {S S' : Mem} (h : TkS b n t k S) (f : FrU t τ c S S') (ht : t + 5 ≤ τ) : TkS b n t k S' := ⟨by rw [f.2.1 7 (by decide)]; exact h.1, fun j hj => by rw [f.1 (t + 2) (by omega), f.1 (t + 3) (by omega), f.1 (t + 4) (by omega)]; exact h.2 j hj⟩
section CP_
variable {b : Nat → Nat} {n law t τ : Nat}
theorem CR_at {i c k : Nat} {S : Mem} (h : CR b n law t τ i c S) (hk : k ≤ tN b n) : CR b n law t τ k c (wrI S t 8 (nI k)) := by
  obtain ⟨h1, h2, h3, h4, h5, h6, h7, h8, h9, h10, h11, h12, h13⟩ := h
  refine ⟨TkS_U h1 (FrU_w (c := 0) h12 (Or.inr (Or.inr rfl))) h12, h2, ?_, ?_, ?_, ?_, hk, ?_, h9, ?_, h11, h12, ?_⟩
  · rw [rdI_wrI, if_neg (by omega)]; exact h3
  · rw [rdI_wrI, if_neg (by omega)]; exact h4
  · rw [rdI_wrI, if_neg (by omega)]; exact h5
  · rw [rdI_wrI, if_pos ⟨rfl, rfl⟩]
  · rw [rdI_wrI, if_neg (by omega)]; exact h8
  · rw [rdI_wrI, if_neg (by omega)]; exact h10
  · rw [rdI_wrI, if_neg (by omega)]; exact h13
theorem CR_ad {i c : Nat} {a v : Int32} {S : Mem} (h : CR b n law t τ i c S) : CR b n law t τ i (c + 1) (adC S τ c a v) := by
  obtain ⟨h1, h2, h3, h4, h5, h6, h7, h8, h9, h10, h11, h12, h13⟩ := h
  have f := FrU_a (c := c) (a := a) (v := v) (S := S) h12
  have e : ∀ j, ¬ (j = 2 ∨ j = 3 ∨ j = 8) → rdI (adC S τ c a v) t j = rdI S t j := f.2.1
  have e2 : ∀ j, rdI (adC S τ c a v) t j = rdI S t j := fun j => by unfold adC; rw [rdI_wrI, if_neg (by omega), rdI_wrI, if_neg (by omega), rdI_wrI, if_neg (by omega)]
  refine ⟨TkS_U h1 f h12, h2, by rw [e2]; exact h3, by rw [e2]; exact h4, by rw [e2]; exact h5, by rw [e2]; exact h6, h7, by rw [e2]; exact h8, h9, by rw [e2]; exact h10, h11, h12, ?_⟩
  unfold adC
  rw [rdI_wrI, if_pos ⟨rfl, rfl⟩]
theorem kd_c {k : Nat} {S : Mem} (h : TkS b n t (tN b n) S) (hn : n ≤ 300) (e8 : rdI S t 8 = nI k) (hk : k ≤ tN b n) (d : Nat) : cal d 65 [vR 3 t] S = some (some (vI (nI (tK b n k))), S) := by
  have hN := tN_le b n
  rw [B_X3_kind, e8, h.1, if_neg (nI_pos (by omega))]
  by_cases z : k < tN b n
  · rw [if_neg (nI_ge z (by omega)), i300 (by omega), gd_t, ix_nI (by omega), (h.2 k z).1]
  · rw [if_pos (nI_le (by omega) (by omega)), tK_end.mpr (by omega)]; rfl
theorem kr_c {i c : Nat} {S : Mem} (h : CR b n law t τ i c S) (d : Nat) : cal d 65 [vR 3 t] S = some (some (vI (nI (tK b n i))), S) := kd_c h.1 h.2.1 h.2.2.2.2.2.1 h.2.2.2.2.2.2.1 d
theorem kx_c {f p : Nat} {S : Mem} (h : CX b n t τ f p S) (d : Nat) : cal d 65 [vR 3 t] S = some (some (vI 39), S) := by
  have e := kd_c h.1 h.2.1 h.2.2.2.2.2.2.1 (Nat.le_refl _) d
  rw [tK_end.mpr (Nat.le_refl _)] at e
  exact e
theorem CX_k {f p : Nat} {S S' : Mem} (h : CX b n t τ f p S) (g : FrU t τ 0 S S') (e2 : rdI S' t 2 = nI f) (e3 : rdI S' t 3 = nI p) (e8 : rdI S' t 8 = nI (tN b n)) (e6 : ∃ c : Nat, c ≤ 300 ∧ rdI S' τ 6 = nI c) : CX b n t τ f p S' := by
  obtain ⟨h1, h2, h3, h4, h5, h6, h7, h8, h9, h10, h11⟩ := h
  exact ⟨TkS_U h1 g h10, h2, e2, h4, h5, e3, e8, by rw [g.2.1 10 (by decide)]; exact h8, h9, h10, e6⟩
theorem fx_c {f p : Nat} {S : Mem} (h : CX b n t τ f p S) (a : Int32) (d : Nat) : ∃ S', cal d 66 [vR 3 t, vI a] S = some (none, S') ∧ CX b n t τ f p S' ∧ FrU t τ 0 S S' := by
  have h' := h
  obtain ⟨h1, h2, h3, h4, h5, h6, h7, h8, h9, h10, h11⟩ := h
  have g : FrU t τ 0 S (wrI S t 8 (nI (tN b n))) := FrU_w h10 (Or.inr (Or.inr rfl))
  rw [B_X3_fail, h3, if_neg (nI_ne0 h4 (by omega)), h1.1]
  refine ⟨_, rfl, CX_k h' g ?_ ?_ ?_ ?_, g⟩
  · rw [rdI_wrI, if_neg (by omega)]; exact h3
  · rw [rdI_wrI, if_neg (by omega)]; exact h6
  · rw [rdI_wrI, if_pos ⟨rfl, rfl⟩]
  · rw [rdI_wrI, if_neg (by omega)]; exact h11
theorem fl_c {i c f : Nat} {S : Mem} (h : CR b n law t τ i c S) (hc : c ≤ 300) (h0 : 0 < f) (h1 : f < 100) (d : Nat) : ∃ S', cal d 66 [vR 3 t, vI (nI f)] S = some (none, S') ∧ CX b n t τ f (tP b n i) S' ∧ FrU t τ 0 S S' := by
  obtain ⟨g1, g2, g3, g4, g5, g6, g7, g8, g9, g10, g11, g12, g13⟩ := h
  have hN := tN_le b n
  have g : ∀ p : Int32, FrU t τ 0 S (wrI (wrI (wrI S t 2 (nI f)) t 3 p) t 8 (nI (tN b n))) := fun p => FrU_t (FrU_w g12 (Or.inl rfl)) (FrU_t (FrU_w g12 (Or.inr (Or.inl rfl))) (FrU_w (c := 0) g12 (Or.inr (Or.inr rfl))) (Nat.le_refl _)) (Nat.le_refl _)
  have fin : CX b n t τ f (tP b n i) (wrI (wrI (wrI S t 2 (nI f)) t 3 (nI (tP b n i))) t 8 (nI (tN b n))) := by
    refine ⟨TkS_U g1 (g _) g12, g2, ?_, h0, h1, ?_, ?_, ?_, g11, g12, c, hc, ?_⟩
    · rw [rdI_wrI, if_neg (by omega), rdI_wrI, if_neg (by omega), rdI_wrI, if_pos ⟨rfl, rfl⟩]
    · rw [rdI_wrI, if_neg (by omega), rdI_wrI, if_pos ⟨rfl, rfl⟩]
    · rw [rdI_wrI, if_pos ⟨rfl, rfl⟩]
    · rw [rdI_wrI, if_neg (by omega), rdI_wrI, if_neg (by omega), rdI_wrI, if_neg (by omega)]; exact g10
    · rw [rdI_wrI, if_neg (by omega), rdI_wrI, if_neg (by omega), rdI_wrI, if_neg (by omega)]; exact g13
  have w8 : rdI (wrI S t 2 (nI f)) t 8 = nI i := by rw [rdI_wrI, if_neg (by omega)]; exact g6
  have w7 : rdI (wrI S t 2 (nI f)) t 7 = nI (tN b n) := by rw [rdI_wrI, if_neg (by omega)]; exact g1.1
  have w1 : rdI (wrI S t 2 (nI f)) t 1 = nI n := by rw [rdI_wrI, if_neg (by omega)]; exact g3
  have w7' : ∀ p : Int32, rdI (wrI (wrI S t 2 (nI f)) t 3 p) t 7 = nI (tN b n) := fun p => by rw [rdI_wrI, if_neg (by omega)]; exact w7
  rw [B_X3_fail, g4, if_pos rfl, w8, if_neg (nI_pos (by omega)), w7]
  by_cases z : i < tN b n
  · have w4 : rdI (wrI S t 2 (nI f)) (t + 4) i = nI (tP b n i) := by rw [rdI_wrI, if_neg (by omega)]; exact (g1.2 i z).2.2
    rw [if_neg (nI_ge z (by omega)), i300 (by omega), gd_t, ix_nI (by omega), w4, w7']
    exact ⟨_, rfl, fin, g _⟩
  · have en : nI n = nI (tP b n i) := by rw [tN_ge (by omega)]
    rw [if_pos (nI_le (by omega) (by omega)), w1, w7', en]
    exact ⟨_, rfl, fin, g _⟩
theorem tke_c {i c K : Nat} {S : Mem} (h : CR b n law t τ i c S) (hK : tK b n i = K) (hne : ¬ K = 39) (d : Nat) : cal (d + 1) 67 [vR 3 t, vI (nI K)] S = some (none, wrI S t 8 (nI (i + 1))) ∧ CR b n law t τ (i + 1) c (wrI S t 8 (nI (i + 1))) ∧ FrU t τ c S (wrI S t 8 (nI (i + 1))) := by
  have hi : i < tN b n := by
    rcases Nat.lt_or_ge i (tN b n) with z | z
    · exact z
    · have := tK_end.mpr z; omega
  refine ⟨?_, CR_at h (by omega), FrU_w h.2.2.2.2.2.2.2.2.2.2.2.1 (Or.inr (Or.inr rfl))⟩
  rw [B_X3_take, kr_c h, bI_s, if_pos (by rw [hK]), h.2.2.2.2.2.1, nI_1]
theorem tkf_c {i c K : Nat} {S : Mem} (h : CR b n law t τ i c S) (hc : c ≤ 300) (hK : ¬ tK b n i = K) (hK2 : K < 100) (d : Nat) : ∃ S', cal (d + 1) 67 [vR 3 t, vI (nI K)] S = some (none, S') ∧ CX b n t τ 1 (tP b n i) S' ∧ FrU t τ 0 S S' := by
  have hle := tK_le b n i
  obtain ⟨S', e, h1, h2⟩ := fl_c h hc (f := 1) (by decide) (by decide) d
  have e' : cal d 66 [vR 3 t, vI 1] S = some (none, S') := e
  refine ⟨S', ?_, h1, h2⟩
  rw [B_X3_take, kr_c h, bI_s, if_neg (fun z => hK ((nI_eq (by omega) (by omega)).mp z)), e', bV_s]
theorem tkx_c {f p K : Nat} {S : Mem} (h : CX b n t τ f p S) (hK : ¬ K = 39) (hK2 : K < 100) (d : Nat) : ∃ S', cal (d + 1) 67 [vR 3 t, vI (nI K)] S = some (none, S') ∧ CX b n t τ f p S' ∧ FrU t τ 0 S S' := by
  obtain ⟨S', e, h1, h2⟩ := fx_c h 1 d
  refine ⟨S', ?_, h1, h2⟩
  rw [B_X3_take, kx_c h, bI_s, if_neg (show ¬ (39 : Int32) = nI K from fun z => hK ((nI_eq (a := 39) (by decide) (by omega)).mp z).symm), e, bV_s]
theorem ac_c {i c : Nat} {S : Mem} (h : CR b n law t τ i c S) (hc : c < 300) (a v : Int32) (d : Nat) : cal d 90 [vR 5 τ, vI a, vI v] S = some (some (vI (nI c)), adC S τ c a v) := by
  have h13 : rdI S τ 6 = nI c := h.2.2.2.2.2.2.2.2.2.2.2.2
  have w1 : rdI (wrI S (τ + 6) c a) τ 6 = nI c := by rw [rdI_wrI, if_neg (by omega)]; exact h13
  have w2 : rdI (wrI (wrI S (τ + 6) c a) (τ + 7) c v) τ 6 = nI c := by rw [rdI_wrI, if_neg (by omega)]; exact w1
  have w3 : rdI (wrI (wrI (wrI S (τ + 6) c a) (τ + 7) c v) τ 6 (nI (c + 1))) τ 6 = nI (c + 1) := by rw [rdI_wrI, if_pos ⟨rfl, rfl⟩]
  rw [B_X5_addCode, h13, if_pos (show nI c < 300 from nI_lt (b := 300) hc (by decide)), i300 hc, gd_t, ix_nI (by omega), w1, i300 hc, gd_t, ix_nI (by omega), w2, nI_1, w3, s1_sub (by omega)]
  rfl
theorem acx_c {f p : Nat} {S : Mem} (h : CX b n t τ f p S) (a v : Int32) (d : Nat) : ∃ S' w, cal d 90 [vR 5 τ, vI a, vI v] S = some (some (vI w), S') ∧ CX b n t τ f p S' ∧ FrU t τ 0 S S' := by
  have h' := h
  obtain ⟨h1, h2, h3, h4, h5, h6, h7, h8, h9, h10, c, hc, h11⟩ := h
  by_cases z : c < 300
  · have w1 : rdI (wrI S (τ + 6) c a) τ 6 = nI c := by rw [rdI_wrI, if_neg (by omega)]; exact h11
    have w2 : rdI (wrI (wrI S (τ + 6) c a) (τ + 7) c v) τ 6 = nI c := by rw [rdI_wrI, if_neg (by omega)]; exact w1
    have w3 : rdI (wrI (wrI (wrI S (τ + 6) c a) (τ + 7) c v) τ 6 (nI (c + 1))) τ 6 = nI (c + 1) := by rw [rdI_wrI, if_pos ⟨rfl, rfl⟩]
    have g := FrU_m (FrU_a (c := c) (a := a) (v := v) (S := S) h10) (Nat.zero_le _)
    have e2 : ∀ j, rdI (adC S τ c a v) t j = rdI S t j := fun j => by unfold adC; rw [rdI_wrI, if_neg (by omega), rdI_wrI, if_neg (by omega), rdI_wrI, if_neg (by omega)]
    rw [B_X5_addCode, h11, if_pos (show nI c < 300 from nI_lt (b := 300) z (by decide)), i300 z, gd_t, ix_nI (by omega), w1, i300 z, gd_t, ix_nI (by omega), w2, nI_1, w3]
    exact ⟨_, _, rfl, CX_k h' g ((e2 2).trans h3) ((e2 3).trans h6) ((e2 8).trans h7) ⟨c + 1, by omega, w3⟩, g⟩
  · rw [B_X5_addCode, h11, if_neg (show ¬ nI c < 300 from nI_nlt (b := 300) (by omega) (by omega))]
    exact ⟨S, _, rfl, h', FrU_r⟩
theorem jx_c {f p : Nat} {S : Mem} (h : CX b n t τ f p S) (w : Int32) (d : Nat) : ∃ S', cal d 91 [vR 5 τ, vI w] S = some (none, S') ∧ CX b n t τ f p S' ∧ FrU t τ 0 S S' := by
  have h' := h
  obtain ⟨h1, h2, h3, h4, h5, h6, h7, h8, h9, h10, c, hc, h11⟩ := h
  rw [B_X5_jumpHereFrom]
  by_cases z : w < 0
  · rw [if_pos z]; exact ⟨S, rfl, h', FrU_r⟩
  · obtain ⟨j, hj, rfl⟩ := nI_of z
    rw [if_neg z]
    by_cases y : (300 : Int32) ≤ nI j
    · rw [if_pos y]; exact ⟨S, rfl, h', FrU_r⟩
    · have hj3 : j < 300 := by
        rcases Nat.lt_or_ge j 300 with x | x
        · exact x
        · exact absurd (show (300 : Int32) ≤ nI j from nI_le (a := 300) x hj) y
      have g : FrU t τ 0 S (wrI S (τ + 7) j (nI c)) := ⟨fun q a => funext fun x => by rw [rdI_wrI, if_neg (by omega)], fun j a => by rw [rdI_wrI, if_neg (by omega)], fun j a => by rw [rdI_wrI, if_neg (by omega)], fun y hy => absurd hy (Nat.not_lt_zero _), rfl⟩
      rw [if_neg y, i300 hj3, gd_t, ix_nI hj, h11]
      exact ⟨_, rfl, CX_k h' g (by rw [rdI_wrI, if_neg (by omega)]; exact h3) (by rw [rdI_wrI, if_neg (by omega)]; exact h6) (by rw [rdI_wrI, if_neg (by omega)]; exact h7) ⟨c, hc, by rw [rdI_wrI, if_neg (by omega)]; exact h11⟩, g⟩
theorem x10 {f p : Nat} {S : Mem} (h : CX b n t τ f p S) : ix (rdI S t 10) = τ := by rw [h.2.2.2.2.2.2.2.1, ix_nI h.2.2.2.2.2.2.2.2.1]
theorem r10 {i c : Nat} {S : Mem} (h : CR b n law t τ i c S) : ix (rdI S t 10) = τ := by rw [h.2.2.2.2.2.2.2.2.2.1, ix_nI h.2.2.2.2.2.2.2.2.2.2.1]
/-! what is read behind the first fault changes nothing -/
theorem nx_c {f p : Nat} {S : Mem} (h : CX b n t τ f p S) (d : Nat) : ∃ S', cal (d + 1) 75 [vR 3 t, vI 39] S = some (none, S') ∧ CX b n t τ f p S' ∧ FrU t τ 0 S S' := by
  obtain ⟨S', e, h1, h2⟩ := fx_c h 1 d
  refine ⟨S', ?_, h1, h2⟩
  rw [B_X3_readName, if_neg (by decide), if_neg (by decide), e, bV_s]
theorem ox_c {f p : Nat} {S : Mem} (h : CX b n t τ f p S) (o : Int32) (d : Nat) : ∃ S', cal (d + 2) 73 [vR 3 t, vI o] S = some (none, S') ∧ CX b n t τ f p S' ∧ FrU t τ 0 S S' := by
  obtain ⟨S', e, h1, h2⟩ := nx_c h d
  refine ⟨S', ?_, h1, h2⟩
  rw [B_X3_readOne, kx_c h, bI_s, if_neg (by decide), if_neg (by decide), if_neg (by decide), if_neg (by decide), if_neg (by decide), if_neg (by decide), e, bV_s]
theorem px_c {f p : Nat} {S : Mem} (h : CX b n t τ f p S) (o : Int32) (d : Nat) : ∃ S', cal (d + 3) 72 [vR 3 t, vI o] S = some (none, S') ∧ CX b n t τ f p S' ∧ FrU t τ 0 S S' := by
  obtain ⟨S', e, h1, h2⟩ := ox_c h o d
  refine ⟨S', ?_, h1, h2⟩
  rw [B_X3_readProduct, e, bV_s, B_X3_readProduct_7, if_neg (by decide), kx_c h1, bI_s, if_neg (by decide), kx_c h1, bI_s, if_neg (by decide)]
theorem sx_c {f p : Nat} {S : Mem} (h : CX b n t τ f p S) (o : Int32) (d : Nat) : ∃ S', cal (d + 4) 71 [vR 3 t, vI o] S = some (none, S') ∧ CX b n t τ f p S' ∧ FrU t τ 0 S S' := by
  obtain ⟨S', e, h1, h2⟩ := px_c h o d
  refine ⟨S', ?_, h1, h2⟩
  rw [B_X3_readSum, e, bV_s, B_X3_readSum_7, if_neg (by decide), kx_c h1, bI_s, if_neg (by decide), kx_c h1, bI_s, if_neg (by decide)]
end CP_
