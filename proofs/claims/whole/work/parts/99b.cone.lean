/-! the class's parser: what each method reads -/
def dO (o : Nat) : Nat := 7 * (8 - o) + 5
def COk (b : Nat → Nat) (n law mid D o i j h : Nat) (v : Env → Int) : Prop := ∀ (t τ c : Nat) (S : Mem), CR b n law t τ i c S → c ≤ i → ∀ d, D ≤ d → ∃ S' c', cal d mid [vR 3 t, vI (nI o)] S = some (none, S') ∧ CR b n law t τ j c' S' ∧ c < c' ∧ c' ≤ c + (j - i) ∧ FrU t τ c S S' ∧ CD (alL law) (rdI S' (τ + 6)) (rdI S' (τ + 7)) c c' h v
def CFa (b : Nat → Nat) (n law mid D o i f k : Nat) : Prop := ∀ (t τ c : Nat) (S : Mem), CR b n law t τ i c S → c ≤ i → ∀ d, D ≤ d → ∃ S', cal d mid [vR 3 t, vI (nI o)] S = some (none, S') ∧ CX b n t τ f (tP b n k) S' ∧ FrU t τ 0 S S'
theorem CD_f {al : Nat → Bool} {S S' : Mem} {t τ c c1 c2 h : Nat} {v : Env → Int} (H : CD al (rdI S (τ + 6)) (rdI S (τ + 7)) c1 c2 h v) (f : FrU t τ c S S') (hc : c2 ≤ c) : CD al (rdI S' (τ + 6)) (rdI S' (τ + 7)) c1 c2 h v := CD_cong H (fun x _ h2 => f.2.2.2.1 x (by omega))
theorem adC_6 (S : Mem) (τ c : Nat) (a v : Int32) : rdI (adC S τ c a v) (τ + 6) c = a ∧ rdI (adC S τ c a v) (τ + 7) c = v := by
  unfold adC
  rw [rdI_wrI, if_neg (by omega), rdI_wrI, if_neg (by omega), rdI_wrI, if_pos ⟨rfl, rfl⟩, rdI_wrI, if_neg (by omega), rdI_wrI, if_pos ⟨rfl, rfl⟩]
  exact ⟨rfl, rfl⟩
section CQ_
variable {b : Nat → Nat} {n law : Nat}
theorem CR_t5 {t τ i c : Nat} {S : Mem} (h : CR b n law t τ i c S) : t + 5 ≤ τ := h.2.2.2.2.2.2.2.2.2.2.2.1
theorem CR_i {t τ i c : Nat} {S : Mem} (h : CR b n law t τ i c S) : i ≤ tN b n ∧ tN b n ≤ 300 := ⟨h.2.2.2.2.2.2.1, Nat.le_trans (tN_le b n) h.2.1⟩
theorem tK_in {i : Nat} (h : ¬ tK b n i = 39) : i < tN b n := by
  rcases Nat.lt_or_ge i (tN b n) with z | z
  · exact z
  · exact absurd (tK_end.mpr z) h
theorem nK {K : Nat} (hK : K < 100) {y : Nat} (hy : y < 100) (h : ¬ K = y) : ¬ nI K = nI y := fun z => h ((nI_eq (by omega) (by omega)).mp z)
/-! numbers, names -/
theorem nr_c {t τ i c lo hi : Nat} {S : Mem} (h : CR b n law t τ i c S) (hK : tK b n i = 38) (h1 : lo ≤ tV b n i) (h2 : tV b n i ≤ hi) (hh : hi < 2 ^ 31) (d : Nat) : cal (d + 1) 69 [vR 3 t, vI (nI lo), vI (nI hi)] S = some (some (vI (nI (tV b n i))), wrI S t 8 (nI (i + 1))) := by
  have hi' := tK_in (i := i) (b := b) (n := n) (by omega)
  have hN := (CR_i h).2
  have hv : rdI S (t + 3) i = nI (tV b n i) := (h.1.2 i hi').2.1
  have h8 : rdI S t 8 = nI i := h.2.2.2.2.2.1
  rw [B_X3_readNumber, kr_c h, bI_s, hK, if_pos (show nI 38 = 38 from rfl), h8, i300 (by omega), gd_t, ix_nI (by omega), hv, if_neg (nI_nlt h1 (by omega)), if_pos (nI_le h2 hh), nI_1]
theorem nrf_c {t τ i c lo hi : Nat} {S : Mem} (h : CR b n law t τ i c S) (hc : c ≤ 300) (hK : tK b n i = 38) (h1 : ¬ (lo ≤ tV b n i ∧ tV b n i ≤ hi)) (hl : lo < 2 ^ 31) (hh : hi < 2 ^ 31) (d : Nat) : ∃ S', cal (d + 1) 69 [vR 3 t, vI (nI lo), vI (nI hi)] S = some (some (vI 0), S') ∧ CX b n t τ 2 (tP b n i) S' ∧ FrU t τ 0 S S' := by
  have hi' := tK_in (i := i) (b := b) (n := n) (by omega)
  have hN := (CR_i h).2
  have hv : rdI S (t + 3) i = nI (tV b n i) := (h.1.2 i hi').2.1
  have h8 : rdI S t 8 = nI i := h.2.2.2.2.2.1
  have hvl : tV b n i ≤ 10000 := (tk_lt b n (tP b n i)).2.2
  obtain ⟨S', e, k1, k2⟩ := fl_c h hc (f := 2) (by decide) (by decide) d
  have e' : cal d 66 [vR 3 t, vI 2] S = some (none, S') := e
  refine ⟨S', ?_, k1, k2⟩
  rw [B_X3_readNumber, kr_c h, bI_s, hK, if_pos (show nI 38 = 38 from rfl), h8, i300 (by omega), gd_t, ix_nI (by omega), hv]
  by_cases z : lo ≤ tV b n i
  · rw [if_neg (nI_nlt z (by omega)), if_neg (nI_ge (by omega) (by omega)), e', bV_s]
  · rw [if_pos (nI_lt (by omega) hl), e', bV_s]
theorem nrb_c {t τ i c : Nat} {lo hi : Int32} {S : Mem} (h : CR b n law t τ i c S) (hc : c ≤ 300) (hK : ¬ tK b n i = 38) (d : Nat) : ∃ S', cal (d + 1) 69 [vR 3 t, vI lo, vI hi] S = some (some (vI 0), S') ∧ CX b n t τ 1 (tP b n i) S' ∧ FrU t τ 0 S S' := by
  have hl := tK_le b n i
  obtain ⟨S', e, k1, k2⟩ := fl_c h hc (f := 1) (by decide) (by decide) d
  have e' : cal d 66 [vR 3 t, vI 1] S = some (none, S') := e
  refine ⟨S', ?_, k1, k2⟩
  rw [B_X3_readNumber, kr_c h, bI_s, if_neg (show ¬ nI (tK b n i) = 38 from nK (y := 38) (by omega) (by decide) hK), e', bV_s]
theorem nrx_c {t τ f p : Nat} {lo hi : Int32} {S : Mem} (h : CX b n t τ f p S) (d : Nat) : ∃ S', cal (d + 1) 69 [vR 3 t, vI lo, vI hi] S = some (some (vI 0), S') ∧ CX b n t τ f p S' ∧ FrU t τ 0 S S' := by
  obtain ⟨S', e, k1, k2⟩ := fx_c h 1 d
  refine ⟨S', ?_, k1, k2⟩
  rw [B_X3_readNumber, kx_c h, bI_s, if_neg (by decide), e, bV_s]
theorem c1_num {i o h : Nat} (hh : h ≤ 63) (hK : tK b n i = 38) (hv : tV b n i ≤ 9999) : COk b n law 73 (dO o) o i (i + 1) h (fun _ => ((tV b n i : Nat) : Int)) := by
  intro t τ c S hR hc d hd
  obtain ⟨d', rfl⟩ : ∃ d', d = d' + 2 := ⟨d - 2, by unfold dO at hd; omega⟩
  have hi := tK_in (i := i) (b := b) (n := n) (by omega)
  have hN := CR_i hR
  have t5 := CR_t5 hR
  have hR1 := CR_at hR (k := i + 1) (by omega)
  have en : cal (d' + 1) 69 [vR 3 t, vI 0, vI 9999] S = some (some (vI (nI (tV b n i))), wrI S t 8 (nI (i + 1))) := nr_c (lo := 0) (hi := 9999) hR hK (Nat.zero_le _) hv (by decide) d'
  have f := FrU_t (FrU_w (c := c) (i := 8) (v := nI (i + 1)) (S := S) t5 (by omega)) (FrU_a (c := c) (a := 38) (v := nI (tV b n i)) t5) (Nat.le_refl _)
  obtain ⟨a1, a2⟩ := adC_6 (wrI S t 8 (nI (i + 1))) τ c 38 (nI (tV b n i))
  refine ⟨adC (wrI S t 8 (nI (i + 1))) τ c 38 (nI (tV b n i)), c + 1, ?_, CR_ad hR1, by omega, by omega, f, CD_le (CD_num (alL law) a1 a2 hv) hh⟩
  rw [B_X3_readOne, kr_c hR, bI_s, hK, if_neg (by decide), if_neg (by decide), if_neg (by decide), if_neg (by decide), if_neg (by decide), if_pos (show nI 38 = 38 from rfl), en, bI_s, r10 hR, ac_c hR1 (by omega), bI_s]
theorem c1_numf {i o : Nat} (hK : tK b n i = 38) (hv : ¬ tV b n i ≤ 9999) : CFa b n law 73 (dO o) o i 2 i := by
  intro t τ c S hR hc d hd
  obtain ⟨d', rfl⟩ : ∃ d', d = d' + 2 := ⟨d - 2, by unfold dO at hd; omega⟩
  have hN := CR_i hR
  obtain ⟨S1, e1, k1, f1⟩ := nrf_c (lo := 0) (hi := 9999) hR (by omega) hK (fun z => hv z.2) (by decide) (by decide) d'
  have e1' : cal (d' + 1) 69 [vR 3 t, vI 0, vI 9999] S = some (some (vI 0), S1) := e1
  obtain ⟨S2, w, e2, k2, f2⟩ := acx_c k1 38 0 (d' + 1)
  refine ⟨S2, ?_, k2, FrU_t f1 f2 (Nat.le_refl _)⟩
  rw [B_X3_readOne, kr_c hR, bI_s, hK, if_neg (by decide), if_neg (by decide), if_neg (by decide), if_neg (by decide), if_neg (by decide), if_pos (show nI 38 = 38 from rfl), e1', bI_s, r10 hR, e2, bI_s]
theorem one_e {i o t τ c : Nat} {S : Mem} (hR : CR b n law t τ i c S) (hK : ¬ (tK b n i = 10 ∨ tK b n i = 11 ∨ tK b n i = 12 ∨ tK b n i = 32 ∨ tK b n i = 35 ∨ tK b n i = 38)) (d : Nat) : cal (d + 1) 73 [vR 3 t, vI (nI o)] S = bV (cal d 75 [vR 3 t, vI (nI (tK b n i))] S) (fun S35 => some (none, S35)) := by
  have hl := tK_le b n i
  rw [B_X3_readOne, kr_c hR, bI_s, if_neg (show ¬ nI (tK b n i) = 10 from nK (y := 10) (by omega) (by decide) (by omega)), if_neg (show ¬ nI (tK b n i) = 11 from nK (y := 11) (by omega) (by decide) (by omega)), if_neg (show ¬ nI (tK b n i) = 12 from nK (y := 12) (by omega) (by decide) (by omega)), if_neg (show ¬ nI (tK b n i) = 32 from nK (y := 32) (by omega) (by decide) (by omega)), if_neg (show ¬ nI (tK b n i) = 35 from nK (y := 35) (by omega) (by decide) (by omega)), if_neg (show ¬ nI (tK b n i) = 38 from nK (y := 38) (by omega) (by decide) (by omega))]
theorem c1_bad {i o : Nat} (hK : ¬ (tK b n i = 10 ∨ tK b n i = 11 ∨ tK b n i = 12 ∨ tK b n i = 32 ∨ tK b n i = 35 ∨ tK b n i = 38)) (hK2 : tK b n i < 19 ∨ 24 < tK b n i) : CFa b n law 73 (dO o) o i 1 i := by
  intro t τ c S hR hc d hd
  obtain ⟨d', rfl⟩ : ∃ d', d = d' + 2 := ⟨d - 2, by unfold dO at hd; omega⟩
  have hN := CR_i hR
  have hl := tK_le b n i
  obtain ⟨S1, e1, k1, f1⟩ := fl_c hR (f := 1) (by omega) (by decide) (by decide) d'
  have e1' : cal d' 66 [vR 3 t, vI 1] S = some (none, S1) := e1
  refine ⟨S1, ?_, k1, f1⟩
  rw [one_e hR hK, B_X3_readName]
  rcases hK2 with z | z
  · rw [if_pos (show nI (tK b n i) < 19 from nI_lt (b := 19) z (by decide)), e1', bV_s, bV_s]
  · rw [if_neg (show ¬ nI (tK b n i) < 19 from nI_nlt (b := 19) (by omega) (by omega)), if_neg (show ¬ nI (tK b n i) ≤ 24 from nI_ge (a := 24) (by omega) (by omega)), e1', bV_s, bV_s]
theorem law01 {t τ i c : Nat} {S : Mem} (hR : CR b n law t τ i c S) : (law = 0 ∧ rdI S t 9 = 0) ∨ (law = 1 ∧ rdI S t 9 = 1) := by
  have h9 := hR.2.2.2.2.2.2.2.1
  have hl := hR.2.2.2.2.2.2.2.2.1
  rcases (show law = 0 ∨ law = 1 by omega) with z | z
  · exact Or.inl ⟨z, by rw [h9, z]; rfl⟩
  · exact Or.inr ⟨z, by rw [h9, z]; rfl⟩
theorem c1_name {i o h : Nat} (hh : h ≤ 63) (hK : 19 ≤ tK b n i ∧ tK b n i ≤ 24) (hal : alL law (tK b n i - 19) = true) : COk b n law 73 (dO o) o i (i + 1) h (fun E => E.1 (tK b n i - 19)) := by
  intro t τ c S hR hc d hd
  obtain ⟨d', rfl⟩ : ∃ d', d = d' + 2 := ⟨d - 2, by unfold dO at hd; omega⟩
  have hi := tK_in (i := i) (b := b) (n := n) (by omega)
  have hN := CR_i hR
  have t5 := CR_t5 hR
  have hR1 := CR_ad (a := nI (tK b n i)) (v := 0) hR
  have hR2 := CR_at hR1 (k := i + 1) (by omega)
  have f := FrU_t (FrU_a (c := c) (a := nI (tK b n i)) (v := 0) (S := S) t5) (FrU_w (c := c) (i := 8) (v := nI (i + 1)) t5 (by omega)) (Nat.le_refl _)
  obtain ⟨a1, -⟩ := adC_6 S τ c (nI (tK b n i)) 0
  have a1' : rdI (wrI (adC S τ c (nI (tK b n i)) 0) t 8 (nI (i + 1))) (τ + 6) c = nI (19 + (tK b n i - 19)) := by rw [rdI_wrI, if_neg (by omega), a1, show 19 + (tK b n i - 19) = tK b n i by omega]
  refine ⟨wrI (adC S τ c (nI (tK b n i)) 0) t 8 (nI (i + 1)), c + 1, ?_, hR2, by omega, by omega, f, CD_le (CD_name (alL law) a1' (by omega) hal) hh⟩
  have e8 : rdI (adC S τ c (nI (tK b n i)) 0) t 8 = nI i := hR1.2.2.2.2.2.1
  have fin : bI (cal d' 90 [vR 5 (ix (rdI S t 10)), vI (nI (tK b n i)), vI 0] S) (fun _ S5 => some (none, wrI S5 t 8 ((rdI S5 t 8) + 1))) = some (none, wrI (adC S τ c (nI (tK b n i)) 0) t 8 (nI (i + 1))) := by
    rw [r10 hR, ac_c hR (by omega), bI_s, e8, nI_1]
  rw [one_e hR (by omega), B_X3_readName, if_neg (show ¬ nI (tK b n i) < 19 from nI_nlt (b := 19) hK.1 (by omega)), if_pos (show nI (tK b n i) ≤ 24 from nI_le (b := 24) hK.2 (by decide))]
  rcases law01 hR with ⟨z, e9⟩ | ⟨z, e9⟩
  · have h24 : ¬ tK b n i = 24 := fun y => by rw [z, y] at hal; exact absurd hal (by decide)
    rw [e9, if_neg (show ¬ (0 : Int32) = 1 by decide), if_pos (show (0 : Int32) = 0 from rfl), if_neg (show ¬ nI (tK b n i) = 24 from nK (y := 24) (by omega) (by decide) h24), fin, bV_s]
  · have h22 : ¬ tK b n i = 22 := fun y => by rw [z, y] at hal; exact absurd hal (by decide)
    have h23 : ¬ tK b n i = 23 := fun y => by rw [z, y] at hal; exact absurd hal (by decide)
    rw [e9, if_pos rfl, if_neg (show ¬ nI (tK b n i) = 22 from nK (y := 22) (by omega) (by decide) h22), if_neg (show ¬ nI (tK b n i) = 23 from nK (y := 23) (by omega) (by decide) h23), if_neg (show ¬ (1 : Int32) = 0 by decide), fin, bV_s]
theorem c1_namef {i o : Nat} (hK : 19 ≤ tK b n i ∧ tK b n i ≤ 24) (hal : alL law (tK b n i - 19) = false) : CFa b n law 73 (dO o) o i 5 i := by
  intro t τ c S hR hc d hd
  obtain ⟨d', rfl⟩ : ∃ d', d = d' + 2 := ⟨d - 2, by unfold dO at hd; omega⟩
  have hN := CR_i hR
  obtain ⟨S1, e1, k1, f1⟩ := fl_c hR (f := 5) (by omega) (by decide) (by decide) d'
  have e1' : cal d' 66 [vR 3 t, vI 5] S = some (none, S1) := e1
  refine ⟨S1, ?_, k1, f1⟩
  rw [one_e hR (by omega), B_X3_readName, if_neg (show ¬ nI (tK b n i) < 19 from nI_nlt (b := 19) hK.1 (by omega)), if_pos (show nI (tK b n i) ≤ 24 from nI_le (b := 24) hK.2 (by decide))]
  have key : tK b n i - 19 = 0 ∨ tK b n i - 19 = 1 ∨ tK b n i - 19 = 2 ∨ tK b n i = 22 ∨ tK b n i = 23 ∨ tK b n i = 24 := by omega
  rcases law01 hR with ⟨z, e9⟩ | ⟨z, e9⟩
  · have h24 : tK b n i = 24 := by
      rcases key with y | y | y | y | y | y
      · rw [z, y] at hal; exact absurd hal (by decide)
      · rw [z, y] at hal; exact absurd hal (by decide)
      · rw [z, y] at hal; exact absurd hal (by decide)
      · rw [z, y] at hal; exact absurd hal (by decide)
      · rw [z, y] at hal; exact absurd hal (by decide)
      · exact y
    rw [e9, if_neg (show ¬ (0 : Int32) = 1 by decide), if_pos (show (0 : Int32) = 0 from rfl), if_pos (show nI (tK b n i) = 24 by rw [h24]; rfl), e1', bV_s, bV_s]
  · rw [e9, if_pos rfl]
    by_cases y : tK b n i = 22
    · rw [if_pos (show nI (tK b n i) = 22 by rw [y]; rfl), e1', bV_s, bV_s]
    · have h23 : tK b n i = 23 := by
        rcases key with y | y | y | y | y | y
        · rw [z, y] at hal; exact absurd hal (by decide)
        · rw [z, y] at hal; exact absurd hal (by decide)
        · rw [z, y] at hal; exact absurd hal (by decide)
        · contradiction
        · exact y
        · rw [z, y] at hal; exact absurd hal (by decide)
      rw [if_neg (show ¬ nI (tK b n i) = 22 from nK (y := 22) (by omega) (by decide) y), if_pos (show nI (tK b n i) = 23 by rw [h23]; rfl), e1', bV_s, bV_s]
/-! what opens one more -/
theorem ops_c {t τ i c o : Nat} {S : Mem} (hR : CR b n law t τ i c S) (ho : o < 8) (d : Nat) : cal (d + 1) 74 [vR 3 t, vI (nI o)] S = some (some (vI 1), wrI S t 8 (nI (i + 1))) := by
  rw [B_X3_opens, if_pos (show nI o < 8 from nI_lt (b := 8) ho (by decide)), gd_p isZ_1, hR.2.2.2.2.2.1, nI_1]
theorem opf_c {t τ i c o : Nat} {S : Mem} (hR : CR b n law t τ i c S) (hc : c ≤ 300) (ho : 8 ≤ o) (ho2 : o < 100) (d : Nat) : ∃ S', cal (d + 1) 74 [vR 3 t, vI (nI o)] S = some (some (vI 0), S') ∧ CX b n t τ 3 (tP b n i) S' ∧ FrU t τ 0 S S' := by
  obtain ⟨S1, e1, k1, f1⟩ := fl_c hR (f := 3) hc (by decide) (by decide) d
  have e1' : cal d 66 [vR 3 t, vI 3] S = some (none, S1) := e1
  refine ⟨S1, ?_, k1, f1⟩
  rw [B_X3_opens, if_neg (show ¬ nI o < 8 from nI_nlt (b := 8) ho (by omega)), e1', bV_s, gd_p isZ_0]
theorem c1_deep {i o : Nat} (hK : tK b n i = 10 ∨ tK b n i = 11 ∨ tK b n i = 12 ∨ tK b n i = 32 ∨ tK b n i = 35) (ho : 8 ≤ o) (ho2 : o < 100) : CFa b n law 73 (dO o) o i 3 i := by
  intro t τ c S hR hc d hd
  obtain ⟨d', rfl⟩ : ∃ d', d = d' + 2 := ⟨d - 2, by unfold dO at hd; omega⟩
  have hN := CR_i hR
  obtain ⟨S1, e1, k1, f1⟩ := opf_c hR (by omega) ho ho2 d'
  refine ⟨S1, ?_, k1, f1⟩
  rcases hK with z | z | z | z | z
  · rw [B_X3_readOne, kr_c hR, bI_s, z, if_pos (show nI 10 = 10 from rfl), e1, bI_s, if_pos rfl]
  · rw [B_X3_readOne, kr_c hR, bI_s, z, if_neg (by decide), if_pos (show nI 11 = 11 from rfl), e1, bI_s, if_pos rfl]
  · rw [B_X3_readOne, kr_c hR, bI_s, z, if_neg (by decide), if_neg (by decide), if_pos (show nI 12 = 12 from rfl), e1, bI_s, if_pos rfl]
  · rw [B_X3_readOne, kr_c hR, bI_s, z, if_neg (by decide), if_neg (by decide), if_neg (by decide), if_pos (show nI 32 = 32 from rfl), e1, bI_s, if_pos rfl]
  · rw [B_X3_readOne, kr_c hR, bI_s, z, if_neg (by decide), if_neg (by decide), if_neg (by decide), if_neg (by decide), if_pos (show nI 35 = 35 from rfl), e1, bI_s, if_pos rfl]
/-- live, place, -: the row -/
theorem un_r {i o q t τ c : Nat} {S : Mem} (hR : CR b n law t τ i c S) (hK : (tK b n i = 10 ∧ q = 10) ∨ (tK b n i = 11 ∧ q = 11) ∨ (tK b n i = 32 ∧ q = 41)) (ho : o < 8) (d : Nat) : cal (d + 2) 73 [vR 3 t, vI (nI o)] S = bV (cal (d + 1) 73 [vR 3 t, vI (nI (o + 1))] (wrI S t 8 (nI (i + 1)))) (fun S5 => bI (cal (d + 1) 90 [vR 5 (ix (rdI S5 t 10)), vI (nI q), vI 0] S5) (fun _ S6 => some (none, S6))) := by
  rcases hK with ⟨z, rfl⟩ | ⟨z, rfl⟩ | ⟨z, rfl⟩
  · rw [B_X3_readOne, kr_c hR, bI_s, z, if_pos (show nI 10 = 10 from rfl), ops_c hR ho, bI_s, if_neg (by decide), nI_1]; rfl
  · rw [B_X3_readOne, kr_c hR, bI_s, z, if_neg (by decide), if_pos (show nI 11 = 11 from rfl), ops_c hR ho, bI_s, if_neg (by decide), nI_1]; rfl
  · rw [B_X3_readOne, kr_c hR, bI_s, z, if_neg (by decide), if_neg (by decide), if_neg (by decide), if_pos (show nI 32 = 32 from rfl), ops_c hR ho, bI_s, if_neg (by decide), nI_1]; rfl
theorem dO_s {o : Nat} (h : o < 8) : dO o = dO (o + 1) + 7 := by unfold dO; omega
theorem c1_un {i j o q h : Nat} {v : Env → Int} (hK : (tK b n i = 10 ∧ q = 10) ∨ (tK b n i = 11 ∧ q = 11) ∨ (tK b n i = 32 ∧ q = 41)) (ho : o < 8) (hh : h < 64) (hij : i + 1 < j) (H : COk b n law 73 (dO (o + 1)) (o + 1) (i + 1) j h v) : COk b n law 73 (dO o) o i j h (fun E => uop q E (v E)) := by
  intro t τ c S hR hc d hd
  have hd' := dO_s ho
  obtain ⟨d', rfl⟩ : ∃ d', d = d' + 2 := ⟨d - 2, by omega⟩
  have hi := tK_in (i := i) (b := b) (n := n) (by omega)
  have t5 := CR_t5 hR
  have hR1 := CR_at hR (k := i + 1) (by omega)
  obtain ⟨S1, c1, e1, R1, l1, l2, f1, C1⟩ := H t τ c _ hR1 (by omega) (d' + 1) (by omega)
  have hN := CR_i R1
  have fa := FrU_a (c := c1) (a := nI q) (v := 0) (S := S1) t5
  obtain ⟨a1, -⟩ := adC_6 S1 τ c1 (nI q) 0
  refine ⟨adC S1 τ c1 (nI q) 0, c1 + 1, ?_, CR_ad R1, by omega, by omega, FrU_t (FrU_w (c := c) (i := 8) (v := nI (i + 1)) t5 (by omega)) (FrU_t f1 fa (by omega)) (Nat.le_refl _), CD_un (CD_f C1 fa (Nat.le_refl _)) (by omega) a1 hh⟩
  rw [un_r hR hK ho, e1, bV_s, r10 R1, ac_c R1 (by omega), bI_s]
theorem c1_unf {i o q f k : Nat} (hK : (tK b n i = 10 ∧ q = 10) ∨ (tK b n i = 11 ∧ q = 11) ∨ (tK b n i = 32 ∧ q = 41)) (ho : o < 8) (H : CFa b n law 73 (dO (o + 1)) (o + 1) (i + 1) f k) : CFa b n law 73 (dO o) o i f k := by
  intro t τ c S hR hc d hd
  have hd' := dO_s ho
  obtain ⟨d', rfl⟩ : ∃ d', d = d' + 2 := ⟨d - 2, by omega⟩
  have hi := tK_in (i := i) (b := b) (n := n) (by omega)
  have t5 := CR_t5 hR
  have hR1 := CR_at hR (k := i + 1) (by omega)
  obtain ⟨S1, e1, k1, f1⟩ := H t τ c _ hR1 (by omega) (d' + 1) (by omega)
  obtain ⟨S2, w, e2, k2, f2⟩ := acx_c k1 (nI q) 0 (d' + 1)
  refine ⟨S2, ?_, k2, FrU_t (FrU_w (c := 0) (i := 8) (v := nI (i + 1)) t5 (by omega)) (FrU_t f1 f2 (Nat.le_refl _)) (Nat.le_refl _)⟩
  rw [un_r hR hK ho, e1, bV_s, x10 k1, e2, bI_s]
/-- ( -/
theorem pa_r {i o t τ c : Nat} {S : Mem} (hR : CR b n law t τ i c S) (hK : tK b n i = 35) (ho : o < 8) (d : Nat) : cal (d + 2) 73 [vR 3 t, vI (nI o)] S = bV (cal (d + 1) 71 [vR 3 t, vI (nI (o + 1))] (wrI S t 8 (nI (i + 1)))) (fun S5 => bV (cal (d + 1) 67 [vR 3 t, vI 36] S5) (fun S6 => some (none, S6))) := by
  rw [B_X3_readOne, kr_c hR, bI_s, hK, if_neg (by decide), if_neg (by decide), if_neg (by decide), if_neg (by decide), if_pos (show nI 35 = 35 from rfl), ops_c hR ho, bI_s, if_neg (by decide), nI_1]
theorem c1_pa {i j o h : Nat} {v : Env → Int} (hK : tK b n i = 35) (ho : o < 8) (hij : i + 1 < j) (hj : tK b n j = 36) (H : COk b n law 71 (dO (o + 1) + 2) (o + 1) (i + 1) j h v) : COk b n law 73 (dO o) o i (j + 1) h v := by
  intro t τ c S hR hc d hd
  have hd' := dO_s ho
  obtain ⟨d', rfl⟩ : ∃ d', d = d' + 2 := ⟨d - 2, by omega⟩
  have hi := tK_in (i := i) (b := b) (n := n) (by omega)
  have t5 := CR_t5 hR
  have hR1 := CR_at hR (k := i + 1) (by omega)
  obtain ⟨S1, c1, e1, R1, l1, l2, f1, C1⟩ := H t τ c _ hR1 (by omega) (d' + 1) (by omega)
  obtain ⟨e2, R2, f2⟩ := tke_c R1 hj (by decide) d'
  have e2' : cal (d' + 1) 67 [vR 3 t, vI 36] S1 = some (none, wrI S1 t 8 (nI (j + 1))) := e2
  refine ⟨_, c1, ?_, R2, by omega, by omega, FrU_t (FrU_w (c := c) (i := 8) (v := nI (i + 1)) t5 (by omega)) (FrU_t f1 f2 (by omega)) (Nat.le_refl _), CD_f C1 f2 (Nat.le_refl _)⟩
  rw [pa_r hR hK ho, e1, bV_s, e2', bV_s]
theorem c1_paf {i o f k : Nat} (hK : tK b n i = 35) (ho : o < 8) (H : CFa b n law 71 (dO (o + 1) + 2) (o + 1) (i + 1) f k) : CFa b n law 73 (dO o) o i f k := by
  intro t τ c S hR hc d hd
  have hd' := dO_s ho
  obtain ⟨d', rfl⟩ : ∃ d', d = d' + 2 := ⟨d - 2, by omega⟩
  have hi := tK_in (i := i) (b := b) (n := n) (by omega)
  have t5 := CR_t5 hR
  have hR1 := CR_at hR (k := i + 1) (by omega)
  obtain ⟨S1, e1, k1, f1⟩ := H t τ c _ hR1 (by omega) (d' + 1) (by omega)
  obtain ⟨S2, e2, k2, f2⟩ := tkx_c (K := 36) k1 (by decide) (by decide) d'
  have e2' : cal (d' + 1) 67 [vR 3 t, vI 36] S1 = some (none, S2) := e2
  refine ⟨S2, ?_, k2, FrU_t (FrU_w (c := 0) (i := 8) (v := nI (i + 1)) t5 (by omega)) (FrU_t f1 f2 (Nat.le_refl _)) (Nat.le_refl _)⟩
  rw [pa_r hR hK ho, e1, bV_s, e2', bV_s]
theorem c1_pag {i j o h : Nat} {v : Env → Int} (hK : tK b n i = 35) (ho : o < 8) (hij : i + 1 < j) (hj : ¬ tK b n j = 36) (H : COk b n law 71 (dO (o + 1) + 2) (o + 1) (i + 1) j h v) : CFa b n law 73 (dO o) o i 1 j := by
  intro t τ c S hR hc d hd
  have hd' := dO_s ho
  obtain ⟨d', rfl⟩ : ∃ d', d = d' + 2 := ⟨d - 2, by omega⟩
  have hi := tK_in (i := i) (b := b) (n := n) (by omega)
  have t5 := CR_t5 hR
  have hR1 := CR_at hR (k := i + 1) (by omega)
  obtain ⟨S1, c1, e1, R1, l1, l2, f1, C1⟩ := H t τ c _ hR1 (by omega) (d' + 1) (by omega)
  have hN := CR_i R1
  obtain ⟨S2, e2, k2, f2⟩ := tkf_c R1 (by omega) hj (by decide) d'
  have e2' : cal (d' + 1) 67 [vR 3 t, vI 36] S1 = some (none, S2) := e2
  refine ⟨S2, ?_, k2, FrU_t (FrU_w (c := 0) (i := 8) (v := nI (i + 1)) t5 (by omega)) (FrU_t (FrU_m f1 (Nat.zero_le _)) f2 (Nat.le_refl _)) (Nat.le_refl _)⟩
  rw [pa_r hR hK ho, e1, bV_s, e2', bV_s]
/-- if -/
theorem if_r {i o t τ c : Nat} {S : Mem} (hR : CR b n law t τ i c S) (hK : tK b n i = 12) (ho : o < 8) (d : Nat) : cal (d + 2) 73 [vR 3 t, vI (nI o)] S = bV (cal (d + 1) 76 [vR 3 t, vI (nI (o + 1))] (wrI S t 8 (nI (i + 1)))) (fun S6 => some (none, S6)) := by
  rw [B_X3_readOne, kr_c hR, bI_s, hK, if_neg (by decide), if_neg (by decide), if_pos (show nI 12 = 12 from rfl), ops_c hR ho, bI_s, if_neg (by decide), nI_1]
theorem c1_if {i j o h : Nat} {v : Env → Int} (hK : tK b n i = 12) (ho : o < 8) (hij : i + 1 < j) (H : COk b n law 76 (dO (o + 1) + 6) (o + 1) (i + 1) j h v) : COk b n law 73 (dO o) o i j h v := by
  intro t τ c S hR hc d hd
  have hd' := dO_s ho
  obtain ⟨d', rfl⟩ : ∃ d', d = d' + 2 := ⟨d - 2, by omega⟩
  have hi := tK_in (i := i) (b := b) (n := n) (by omega)
  have t5 := CR_t5 hR
  have hR1 := CR_at hR (k := i + 1) (by omega)
  obtain ⟨S1, c1, e1, R1, l1, l2, f1, C1⟩ := H t τ c _ hR1 (by omega) (d' + 1) (by omega)
  refine ⟨S1, c1, ?_, R1, by omega, by omega, FrU_t (FrU_w (c := c) (i := 8) (v := nI (i + 1)) t5 (by omega)) f1 (by omega), C1⟩
  rw [if_r hR hK ho, e1, bV_s]
theorem c1_iff {i o f k : Nat} (hK : tK b n i = 12) (ho : o < 8) (H : CFa b n law 76 (dO (o + 1) + 6) (o + 1) (i + 1) f k) : CFa b n law 73 (dO o) o i f k := by
  intro t τ c S hR hc d hd
  have hd' := dO_s ho
  obtain ⟨d', rfl⟩ : ∃ d', d = d' + 2 := ⟨d - 2, by omega⟩
  have hi := tK_in (i := i) (b := b) (n := n) (by omega)
  have t5 := CR_t5 hR
  have hR1 := CR_at hR (k := i + 1) (by omega)
  obtain ⟨S1, e1, k1, f1⟩ := H t τ c _ hR1 (by omega) (d' + 1) (by omega)
  refine ⟨S1, ?_, k1, FrU_t (FrU_w (c := 0) (i := 8) (v := nI (i + 1)) t5 (by omega)) f1 (Nat.le_refl _)⟩
  rw [if_r hR hK ho, e1, bV_s]
end CQ_
