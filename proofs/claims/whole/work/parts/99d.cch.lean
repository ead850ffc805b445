/-! choices in the class -/
section CN_
variable {b : Nat → Nat} {n law : Nat}
theorem CD_x {al : Nat → Bool} {S : Mem} {τ p c1 c2 h : Nat} {w : Int32} {v : Env → Int} (H : CD al (rdI S (τ + 6)) (rdI S (τ + 7)) c1 c2 h v) (hp : p < c1 ∨ c2 ≤ p) : CD al (rdI (wrI S (τ + 7) p w) (τ + 6)) (rdI (wrI S (τ + 7) p w) (τ + 7)) c1 c2 h v := CD_cong H (fun x h1 h2 => ⟨by rw [rdI_wrI, if_neg (by omega)], by rw [rdI_wrI, if_neg (by omega)]⟩)
theorem ch_f2 {i j o h f p D : Nat} {v : Env → Int} (hD : 4 ≤ D) (hij : i < j) (hj : tK b n j = 13) (H : COk b n law 77 D o i j h v) (H1 : CFa b n law 71 D o (j + 1) f p) : CFa b n law 76 (D + 1) o i f p := by
  intro t τ c S hR hc d hd
  obtain ⟨d', rfl⟩ : ∃ d', d = d' + 4 + 1 := ⟨d - 5, by omega⟩
  obtain ⟨S1, c1, e1, R1, l1, l2, f1, C1⟩ := H t τ c S hR hc (d' + 4) (by omega)
  have hN := CR_i R1
  have t5 := CR_t5 hR
  obtain ⟨e2, R2, f2⟩ := tke_c R1 hj (by decide) (d' + 3)
  have hN2 := CR_i R2
  have e2' : cal (d' + 4) 67 [vR 3 t, vI 13] S1 = some (none, wrI S1 t 8 (nI (j + 1))) := e2
  have R3 := CR_ad (a := 43) (v := 0) R2
  have f3 := FrU_a (c := c1) (a := 43) (v := 0) (S := wrI S1 t 8 (nI (j + 1))) t5
  obtain ⟨S4, e4, k4, f4⟩ := H1 t τ (c1 + 1) _ R3 (by omega) (d' + 4) (by omega)
  obtain ⟨S5, e5, k5, f5⟩ := ch_x2 (nI o) (nI c1) k4 d'
  refine ⟨S5, ?_, k5, FrU_t (FrU_m (FrU_t (FrU_t f1 f2 (by omega)) f3 (by omega)) (Nat.zero_le _)) (FrU_t f4 f5 (Nat.le_refl _)) (Nat.le_refl _)⟩
  rw [B_X3_readChoice, e1, bV_s, e2', bV_s, r10 R2, ac_c R2 (by omega), bI_s, e4, bV_s]
  exact e5
theorem ch_f3 {i j j2 o h D : Nat} {v w : Env → Int} (hD : 4 ≤ D) (hij : i < j) (hj : tK b n j = 13) (hjj : j + 1 < j2) (hj2 : ¬ tK b n j2 = 14) (H : COk b n law 77 D o i j h v) (H1 : COk b n law 71 D o (j + 1) j2 h w) : CFa b n law 76 (D + 1) o i 1 j2 := by
  intro t τ c S hR hc d hd
  obtain ⟨d', rfl⟩ : ∃ d', d = d' + 4 + 1 := ⟨d - 5, by omega⟩
  obtain ⟨S1, c1, e1, R1, l1, l2, f1, C1⟩ := H t τ c S hR hc (d' + 4) (by omega)
  have hN := CR_i R1
  have t5 := CR_t5 hR
  obtain ⟨e2, R2, f2⟩ := tke_c R1 hj (by decide) (d' + 3)
  have hN2 := CR_i R2
  have e2' : cal (d' + 4) 67 [vR 3 t, vI 13] S1 = some (none, wrI S1 t 8 (nI (j + 1))) := e2
  have R3 := CR_ad (a := 43) (v := 0) R2
  have f3 := FrU_a (c := c1) (a := 43) (v := 0) (S := wrI S1 t 8 (nI (j + 1))) t5
  obtain ⟨S4, c4, e4, R4, m1, m2, f4, C4⟩ := H1 t τ (c1 + 1) _ R3 (by omega) (d' + 4) (by omega)
  have hN4 := CR_i R4
  obtain ⟨S5, e5, k5, f5⟩ := tkf_c (K := 14) R4 (by omega) hj2 (by decide) (d' + 3)
  have e5' : cal (d' + 4) 67 [vR 3 t, vI 14] S4 = some (none, S5) := e5
  obtain ⟨S6, e6, k6, f6⟩ := ch_x3 (nI o) (nI c1) k5 d'
  refine ⟨S6, ?_, k6, FrU_t (FrU_m (FrU_t (FrU_t (FrU_t f1 f2 (by omega)) f3 (by omega)) f4 (by omega)) (Nat.zero_le _)) (FrU_t f5 f6 (Nat.le_refl _)) (Nat.le_refl _)⟩
  rw [B_X3_readChoice, e1, bV_s, e2', bV_s, r10 R2, ac_c R2 (by omega), bI_s, e4, bV_s, e5', bV_s]
  exact e6
/-- up to the second sum -/
theorem ch_h {i j j2 o h D : Nat} {v w : Env → Int} (hD : 4 ≤ D) (hij : i < j) (hj : tK b n j = 13) (hjj : j + 1 < j2) (hj2 : tK b n j2 = 14) (H : COk b n law 77 D o i j h v) (H1 : COk b n law 71 D o (j + 1) j2 h w) (t τ c : Nat) (S : Mem) (hR : CR b n law t τ i c S) (hc : c ≤ i) (d : Nat) (hd : D ≤ d + 4) : ∃ S7 c1 c2, cal (d + 4 + 1) 76 [vR 3 t, vI (nI o)] S = bV (cal (d + 4) 71 [vR 3 t, vI (nI o)] S7) (fun S10 => bV (cal (d + 4) 67 [vR 3 t, vI 15] S10) (fun S11 => bV (cal (d + 4) 91 [vR 5 (ix (rdI S11 t 10)), vI (nI c2)] S11) (fun S12 => some (none, S12)))) ∧ CR b n law t τ (j2 + 1) (c2 + 1) S7 ∧ c < c1 ∧ c1 + 1 < c2 ∧ c2 ≤ c + (j2 - i) ∧ FrU t τ c S S7 ∧ CD (alL law) (rdI S7 (τ + 6)) (rdI S7 (τ + 7)) c c1 h v ∧ CD (alL law) (rdI S7 (τ + 6)) (rdI S7 (τ + 7)) (c1 + 1) c2 h w ∧ rdI S7 (τ + 6) c1 = 43 ∧ rdI S7 (τ + 7) c1 = nI (c2 + 1) ∧ rdI S7 (τ + 6) c2 = 42 := by
  obtain ⟨S1, c1, e1, R1, l1, l2, f1, C1⟩ := H t τ c S hR hc (d + 4) (by omega)
  have hN := CR_i R1
  have t5 := CR_t5 hR
  obtain ⟨e2, R2, f2⟩ := tke_c R1 hj (by decide) (d + 3)
  have hN2 := CR_i R2
  have e2' : cal (d + 4) 67 [vR 3 t, vI 13] S1 = some (none, wrI S1 t 8 (nI (j + 1))) := e2
  have R3 := CR_ad (a := 43) (v := 0) R2
  have f3 := FrU_a (c := c1) (a := 43) (v := 0) (S := wrI S1 t 8 (nI (j + 1))) t5
  obtain ⟨a3, -⟩ := adC_6 (wrI S1 t 8 (nI (j + 1))) τ c1 43 0
  obtain ⟨S4, c2, e4, R4, m1, m2, f4, C4⟩ := H1 t τ (c1 + 1) _ R3 (by omega) (d + 4) (by omega)
  have hN4 := CR_i R4
  obtain ⟨e5, R5, f5⟩ := tke_c R4 hj2 (by decide) (d + 3)
  have hN5 := CR_i R5
  have e5' : cal (d + 4) 67 [vR 3 t, vI 14] S4 = some (none, wrI S4 t 8 (nI (j2 + 1))) := e5
  have R6 := CR_ad (a := 42) (v := 0) R5
  have f6 := FrU_a (c := c2) (a := 42) (v := 0) (S := wrI S4 t 8 (nI (j2 + 1))) t5
  obtain ⟨a6, -⟩ := adC_6 (wrI S4 t 8 (nI (j2 + 1))) τ c2 42 0
  have e7 := jh_c R6 (p := c1) (by omega) (d + 4)
  have R7 := jh_R (p := c1) (v := nI (c2 + 1)) R6
  have f46 := FrU_t f5 f6 (Nat.le_refl _)
  have f14 : FrU t τ c1 S1 S4 := FrU_t (FrU_t f2 f3 (Nat.le_refl _)) f4 (by omega)
  have C1' := CD_f (CD_f C1 f14 (Nat.le_refl _)) f46 (by omega)
  have C4' := CD_f C4 f46 (Nat.le_refl _)
  have b43 : rdI (adC (wrI S4 t 8 (nI (j2 + 1))) τ c2 42 0) (τ + 6) c1 = 43 := by rw [(f46.2.2.2.1 c1 (by omega)).1, (f4.2.2.2.1 c1 (by omega)).1]; exact a3
  refine ⟨_, c1, c2, ?_, R7, l1, m1, by omega, FrU_t f1 (FrU_t (FrU_t f14 f46 (by omega)) (jh_F t5 (Nat.le_refl _)) (Nat.le_refl _)) (by omega), CD_x C1' (Or.inr (Nat.le_refl _)), CD_x C4' (Or.inl (by omega)), ?_, ?_, ?_⟩
  · rw [B_X3_readChoice, e1, bV_s, e2', bV_s, r10 R2, ac_c R2 (by omega), bI_s, e4, bV_s, e5', bV_s, r10 R5, ac_c R5 (by omega), bI_s, r10 R6, e7, bV_s]
  · rw [rdI_wrI, if_neg (by omega)]; exact b43
  · rw [rdI_wrI, if_pos ⟨rfl, rfl⟩]
  · rw [rdI_wrI, if_neg (by omega)]; exact a6
theorem ch_f4 {i j j2 o h f p D : Nat} {v w : Env → Int} (hD : 4 ≤ D) (hij : i < j) (hj : tK b n j = 13) (hjj : j + 1 < j2) (hj2 : tK b n j2 = 14) (H : COk b n law 77 D o i j h v) (H1 : COk b n law 71 D o (j + 1) j2 h w) (H2 : CFa b n law 71 D o (j2 + 1) f p) : CFa b n law 76 (D + 1) o i f p := by
  intro t τ c S hR hc d hd
  obtain ⟨d', rfl⟩ : ∃ d', d = d' + 4 + 1 := ⟨d - 5, by omega⟩
  obtain ⟨S7, c1, c2, e7, R7, l1, l2, l3, f7, -, -, -, -, -⟩ := ch_h hD hij hj hjj hj2 H H1 t τ c S hR hc d' (by omega)
  obtain ⟨S8, e8, k8, f8⟩ := H2 t τ (c2 + 1) S7 R7 (by omega) (d' + 4) (by omega)
  obtain ⟨S9, e9, k9, f9⟩ := ch_x5 (nI c2) k8 d'
  refine ⟨S9, ?_, k9, FrU_t (FrU_m f7 (Nat.zero_le _)) (FrU_t f8 f9 (Nat.le_refl _)) (Nat.le_refl _)⟩
  rw [e7, e8, bV_s]
  exact e9
theorem ch_f5 {i j j2 j3 o h D : Nat} {v w z : Env → Int} (hD : 4 ≤ D) (hij : i < j) (hj : tK b n j = 13) (hjj : j + 1 < j2) (hj2 : tK b n j2 = 14) (hjk : j2 + 1 < j3) (hj3 : ¬ tK b n j3 = 15) (H : COk b n law 77 D o i j h v) (H1 : COk b n law 71 D o (j + 1) j2 h w) (H2 : COk b n law 71 D o (j2 + 1) j3 h z) : CFa b n law 76 (D + 1) o i 1 j3 := by
  intro t τ c S hR hc d hd
  obtain ⟨d', rfl⟩ : ∃ d', d = d' + 4 + 1 := ⟨d - 5, by omega⟩
  obtain ⟨S7, c1, c2, e7, R7, l1, l2, l3, f7, -, -, -, -, -⟩ := ch_h hD hij hj hjj hj2 H H1 t τ c S hR hc d' (by omega)
  obtain ⟨S8, c3, e8, R8, m1, m2, f8, -⟩ := H2 t τ (c2 + 1) S7 R7 (by omega) (d' + 4) (by omega)
  have hN := CR_i R8
  obtain ⟨S9, e9, k9, f9⟩ := tkf_c (K := 15) R8 (by omega) hj3 (by decide) (d' + 3)
  have e9' : cal (d' + 4) 67 [vR 3 t, vI 15] S8 = some (none, S9) := e9
  obtain ⟨S10, e10, k10, f10⟩ := jx_c k9 (nI c2) (d' + 4)
  refine ⟨S10, ?_, k10, FrU_t (FrU_m (FrU_t f7 f8 (by omega)) (Nat.zero_le _)) (FrU_t f9 f10 (Nat.le_refl _)) (Nat.le_refl _)⟩
  rw [e7, e8, bV_s, e9', bV_s, x10 k9, e10, bV_s]
theorem ch_ok {i j j2 j3 o h D : Nat} {v : Env → Bool} {w z : Env → Int} (hD : 4 ≤ D) (hij : i < j) (hj : tK b n j = 13) (hjj : j + 1 < j2) (hj2 : tK b n j2 = 14) (hjk : j2 + 1 < j3) (hj3 : tK b n j3 = 15) (hh : h < 64) (H : COk b n law 77 D o i j h (fun E => b01 (v E))) (H1 : COk b n law 71 D o (j + 1) j2 h w) (H2 : COk b n law 71 D o (j2 + 1) j3 h z) : COk b n law 76 (D + 1) o i (j3 + 1) h (fun E => if v E = true then w E else z E) := by
  intro t τ c S hR hc d hd
  obtain ⟨d', rfl⟩ : ∃ d', d = d' + 4 + 1 := ⟨d - 5, by omega⟩
  have t5 := CR_t5 hR
  obtain ⟨S7, c1, c2, e7, R7, l1, l2, l3, f7, C0, C1, b1, b2, b3⟩ := ch_h hD hij hj hjj hj2 H H1 t τ c S hR hc d' (by omega)
  obtain ⟨S8, c3, e8, R8, m1, m2, f8, C2⟩ := H2 t τ (c2 + 1) S7 R7 (by omega) (d' + 4) (by omega)
  have hN := CR_i R8
  obtain ⟨e9, R9, f9⟩ := tke_c R8 hj3 (by decide) (d' + 3)
  have e9' : cal (d' + 4) 67 [vR 3 t, vI 15] S8 = some (none, wrI S8 t 8 (nI (j3 + 1))) := e9
  have hN9 := CR_i R9
  have e10 := jh_c R9 (p := c2) (by omega) (d' + 4)
  have R10 := jh_R (p := c2) (v := nI c3) R9
  have f79 := FrU_t f8 f9 (by omega)
  have g6 : ∀ x, rdI (wrI (wrI S8 t 8 (nI (j3 + 1))) (τ + 7) c2 (nI c3)) (τ + 6) x = rdI (wrI S8 t 8 (nI (j3 + 1))) (τ + 6) x := fun x => by rw [rdI_wrI, if_neg (by omega)]
  refine ⟨_, c3, ?_, R10, by omega, by omega, FrU_t f7 (FrU_t (FrU_m f79 (show c1 ≤ c2 + 1 by omega)) (jh_F t5 (by omega)) (Nat.le_refl _)) (by omega), CD_if (CD_x (CD_f C0 f79 (by omega)) (Or.inr (by omega))) (CD_x (CD_f C1 f79 (by omega)) (Or.inr (Nat.le_refl _))) (CD_x (CD_f C2 f9 (Nat.le_refl _)) (Or.inl (by omega))) hh ?_ ?_ ?_ ?_⟩
  · rw [e7, e8, bV_s, e9', bV_s, r10 R9, e10, bV_s]
  · rw [g6, (f79.2.2.2.1 c1 (by omega)).1]; exact b1
  · rw [rdI_wrI, if_neg (by omega), (f79.2.2.2.1 c1 (by omega)).2]; exact b2
  · rw [g6, (f79.2.2.2.1 c2 (by omega)).1]; exact b3
  · rw [rdI_wrI, if_pos ⟨rfl, rfl⟩]
end CN_
