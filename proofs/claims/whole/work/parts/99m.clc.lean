/-! the class reads clauses: what is asked of a state -/
def CV (b : Nat → Nat) (n : Nat) (x9 : Int32) (t τ i c : Nat) (S : Mem) : Prop := TkS b n t (tN b n) S ∧ n ≤ 300 ∧ rdI S t 1 = nI n ∧ rdI S t 2 = 0 ∧ rdI S t 3 = -1 ∧ rdI S t 8 = nI i ∧ i ≤ tN b n ∧ rdI S t 9 = x9 ∧ 0 < 2 ∧ rdI S t 10 = nI τ ∧ τ < 2 ^ 31 ∧ t + 5 ≤ τ ∧ rdI S τ 6 = nI c
section CU_
variable {b : Nat → Nat} {n : Nat} {x9 : Int32} {t τ : Nat}
theorem CR_atv {i c k : Nat} {S : Mem} (h : CV b n x9 t τ i c S) (hk : k ≤ tN b n) : CV b n x9 t τ k c (wrI S t 8 (nI k)) := by
  obtain ⟨h1, h2, h3, h4, h5, h6, h7, h8, h9, h10, h11, h12, h13⟩ := h
  refine ⟨TkS_U h1 (FrU_w (c := 0) h12 (Or.inr (Or.inr rfl))) h12, h2, ?_, ?_, ?_, ?_, hk, ?_, h9, ?_, h11, h12, ?_⟩
  · rw [rdI_wrI, if_neg (by omega)]; exact h3
  · rw [rdI_wrI, if_neg (by omega)]; exact h4
  · rw [rdI_wrI, if_neg (by omega)]; exact h5
  · rw [rdI_wrI, if_pos ⟨rfl, rfl⟩]
  · rw [rdI_wrI, if_neg (by omega)]; exact h8
  · rw [rdI_wrI, if_neg (by omega)]; exact h10
  · rw [rdI_wrI, if_neg (by omega)]; exact h13
theorem kr_cv {i c : Nat} {S : Mem} (h : CV b n x9 t τ i c S) (d : Nat) : cal d 65 [vR 3 t] S = some (some (vI (nI (tK b n i))), S) := kd_c h.1 h.2.1 h.2.2.2.2.2.1 h.2.2.2.2.2.2.1 d
theorem fl_cv {i c f : Nat} {S : Mem} (h : CV b n x9 t τ i c S) (hc : c ≤ 300) (h0 : 0 < f) (h1 : f < 100) (d : Nat) : ∃ S', cal d 66 [vR 3 t, vI (nI f)] S = some (none, S') ∧ CX b n t τ f (tP b n i) S' ∧ FrU t τ 0 S S' := by
  obtain ⟨g1, g2, g3, g4, g5, g6, g7, g8, g9, g10, g11, g12, g13⟩ := h
  have hN := tN_le b n
  have g : ∀ p : Int32, FrU t τ 0 S (wrI (wrI (wrI S t 2 (nI f)) t 3 p) t 8 (nI (tN b n))) := fun p => FrU_t (FrU_w g12 (Or.inl rfl)) (FrU_t (FrU_w g12 (Or.inr (Or.inl rfl))) (FrU_w (c := 0) g12 (Or.inr (Or.inr rfl))) (Nat.le_refl _)) (Nat.le_refl _)
  have fin : CX b n t τ f (tP b n i) (wrI (wrI (wrI S t 2 (nI f)) t 3 (nI (tP b n i))) t 8 (nI (tN b n))) := by
    refine ⟨TkS_U g1 (g _) g12, g2, ?_, h0, h1, ?_, ?_, ?_, g11, g12, c, hc, ?_⟩
    · rw [rdI_wrI, if_neg (by omega), rdI_wrI, if_neg (by omega), rdI_wrI, if_pos ⟨rfl, rfl⟩]
    · rw [rdI_wrI, if_neg (by omega), rdI_wrI, if_pos ⟨rfl, rfl⟩]
    · rw [rdI_wrI, if_pos ⟨rfl, rfl⟩]
    · rw [rdI_wrI, if_neg (by omega), rdI_wrI, if_neg (by omega), rdI_wrI, if_neg (by omega)]; exact g10
    · rw [rdI_wrI, if_neg (by omega), rdI_wrI, if_neg (by omega), rdI_wrI, if_neg (by omega)]; exact g13
  have w8 : rdI (wrI S t 2 (nI f)) t 8 = nI i := by rw [rdI_wrI, if_neg (by omega)]; exact g6
  have w7 : rdI (wrI S t 2 (nI f)) t 7 = nI (tN b n) := by rw [rdI_wrI, if_neg (by omega)]; exact g1.1
  have w1 : rdI (wrI S t 2 (nI f)) t 1 = nI n := by rw [rdI_wrI, if_neg (by omega)]; exact g3
  have w7' : ∀ p : Int32, rdI (wrI (wrI S t 2 (nI f)) t 3 p) t 7 = nI (tN b n) := fun p => by rw [rdI_wrI, if_neg (by omega)]; exact w7
  rw [B_X3_fail, g4, if_pos rfl, w8, if_neg (nI_pos (by omega)), w7]
  by_cases z : i < tN b n
  · have w4 : rdI (wrI S t 2 (nI f)) (t + 4) i = nI (tP b n i) := by rw [rdI_wrI, if_neg (by omega)]; exact (g1.2 i z).2.2
    rw [if_neg (nI_ge z (by omega)), i300 (by omega), gd_t, ix_nI (by omega), w4, w7']
    exact ⟨_, rfl, fin, g _⟩
  · have en : nI n = nI (tP b n i) := by rw [tN_ge (by omega)]
    rw [if_pos (nI_le (by omega) (by omega)), w1, w7', en]
    exact ⟨_, rfl, fin, g _⟩
theorem tke_cv {i c K : Nat} {S : Mem} (h : CV b n x9 t τ i c S) (hK : tK b n i = K) (hne : ¬ K = 39) (d : Nat) : cal (d + 1) 67 [vR 3 t, vI (nI K)] S = some (none, wrI S t 8 (nI (i + 1))) ∧ CV b n x9 t τ (i + 1) c (wrI S t 8 (nI (i + 1))) ∧ FrU t τ c S (wrI S t 8 (nI (i + 1))) := by
  have hi : i < tN b n := by
    rcases Nat.lt_or_ge i (tN b n) with z | z
    · exact z
    · have := tK_end.mpr z; omega
  refine ⟨?_, CR_atv h (by omega), FrU_w h.2.2.2.2.2.2.2.2.2.2.2.1 (Or.inr (Or.inr rfl))⟩
  rw [B_X3_take, kr_cv h, bI_s, if_pos (by rw [hK]), h.2.2.2.2.2.1, nI_1]
theorem tkf_cv {i c K : Nat} {S : Mem} (h : CV b n x9 t τ i c S) (hc : c ≤ 300) (hK : ¬ tK b n i = K) (hK2 : K < 100) (d : Nat) : ∃ S', cal (d + 1) 67 [vR 3 t, vI (nI K)] S = some (none, S') ∧ CX b n t τ 1 (tP b n i) S' ∧ FrU t τ 0 S S' := by
  have hle := tK_le b n i
  obtain ⟨S', e, h1, h2⟩ := fl_cv h hc (f := 1) (by decide) (by decide) d
  have e' : cal d 66 [vR 3 t, vI 1] S = some (none, S') := e
  refine ⟨S', ?_, h1, h2⟩
  rw [B_X3_take, kr_cv h, bI_s, if_neg (fun z => hK ((nI_eq (by omega) (by omega)).mp z)), e', bV_s]
theorem r10v {i c : Nat} {S : Mem} (h : CV b n x9 t τ i c S) : ix (rdI S t 10) = τ := by rw [h.2.2.2.2.2.2.2.2.2.1, ix_nI h.2.2.2.2.2.2.2.2.2.2.1]
theorem CR_iv {i c : Nat} {S : Mem} (h : CV b n x9 t τ i c S) : i ≤ tN b n ∧ tN b n ≤ 300 := ⟨h.2.2.2.2.2.2.1, Nat.le_trans (tN_le b n) h.2.1⟩
theorem nr_cv {i c lo hi : Nat} {S : Mem} (h : CV b n x9 t τ i c S) (hK : tK b n i = 38) (h1 : lo ≤ tV b n i) (h2 : tV b n i ≤ hi) (hh : hi < 2 ^ 31) (d : Nat) : cal (d + 1) 69 [vR 3 t, vI (nI lo), vI (nI hi)] S = some (some (vI (nI (tV b n i))), wrI S t 8 (nI (i + 1))) := by
  have hi' := tK_in (i := i) (b := b) (n := n) (by omega)
  have hN := (CR_iv h).2
  have hv : rdI S (t + 3) i = nI (tV b n i) := (h.1.2 i hi').2.1
  have h8 : rdI S t 8 = nI i := h.2.2.2.2.2.1
  rw [B_X3_readNumber, kr_cv h, bI_s, hK, if_pos (show nI 38 = 38 from rfl), h8, i300 (by omega), gd_t, ix_nI (by omega), hv, if_neg (nI_nlt h1 (by omega)), if_pos (nI_le h2 hh), nI_1]
theorem nrf_cv {i c lo hi : Nat} {S : Mem} (h : CV b n x9 t τ i c S) (hc : c ≤ 300) (hK : tK b n i = 38) (h1 : ¬ (lo ≤ tV b n i ∧ tV b n i ≤ hi)) (hl : lo < 2 ^ 31) (hh : hi < 2 ^ 31) (d : Nat) : ∃ S', cal (d + 1) 69 [vR 3 t, vI (nI lo), vI (nI hi)] S = some (some (vI 0), S') ∧ CX b n t τ 2 (tP b n i) S' ∧ FrU t τ 0 S S' := by
  have hi' := tK_in (i := i) (b := b) (n := n) (by omega)
  have hN := (CR_iv h).2
  have hv : rdI S (t + 3) i = nI (tV b n i) := (h.1.2 i hi').2.1
  have h8 : rdI S t 8 = nI i := h.2.2.2.2.2.1
  have hvl : tV b n i ≤ 10000 := (tk_lt b n (tP b n i)).2.2
  obtain ⟨S', e, k1, k2⟩ := fl_cv h hc (f := 2) (by decide) (by decide) d
  have e' : cal d 66 [vR 3 t, vI 2] S = some (none, S') := e
  refine ⟨S', ?_, k1, k2⟩
  rw [B_X3_readNumber, kr_cv h, bI_s, hK, if_pos (show nI 38 = 38 from rfl), h8, i300 (by omega), gd_t, ix_nI (by omega), hv]
  by_cases z : lo ≤ tV b n i
  · rw [if_neg (nI_nlt z (by omega)), if_neg (nI_ge (by omega) (by omega)), e', bV_s]
  · rw [if_pos (nI_lt (by omega) hl), e', bV_s]
theorem nrb_cv {i c : Nat} {lo hi : Int32} {S : Mem} (h : CV b n x9 t τ i c S) (hc : c ≤ 300) (hK : ¬ tK b n i = 38) (d : Nat) : ∃ S', cal (d + 1) 69 [vR 3 t, vI lo, vI hi] S = some (some (vI 0), S') ∧ CX b n t τ 1 (tP b n i) S' ∧ FrU t τ 0 S S' := by
  have hl := tK_le b n i
  obtain ⟨S', e, k1, k2⟩ := fl_cv h hc (f := 1) (by decide) (by decide) d
  have e' : cal d 66 [vR 3 t, vI 1] S = some (none, S') := e
  refine ⟨S', ?_, k1, k2⟩
  rw [B_X3_readNumber, kr_cv h, bI_s, if_neg (show ¬ nI (tK b n i) = 38 from nK (y := 38) (by omega) (by decide) hK), e', bV_s]
end CU_
/-! what a clause asks of the tokens, pure -/
abbrev Rho : Type := (Nat × Nat) ⊕ Nat
def numP (b : Nat → Nat) (n lo hi : Nat) (ρ : Rho) : Rho × Nat := match ρ with
  | .inl e => (.inl e, 0)
  | .inr i => if tK b n i = 38 then (if lo ≤ tV b n i ∧ tV b n i ≤ hi then (.inr (i + 1), tV b n i) else (.inl (2, i), 0)) else (.inl (1, i), 0)
def takP (b : Nat → Nat) (n K : Nat) (ρ : Rho) : Rho := match ρ with
  | .inl e => .inl e
  | .inr i => if tK b n i = K then .inr (i + 1) else .inl (1, i)
def twP (b : Nat → Nat) (n A w B : Nat) (ρ : Rho) : Rho × (Nat × Nat) := ((numP b n 0 B (takP b n w (numP b n 0 A ρ).1)).1, ((numP b n 0 A ρ).2, (numP b n 0 B (takP b n w (numP b n 0 A ρ).1)).2))
def bdP (b : Nat → Nat) (n K : Nat) (ρ : Rho) : Rho × (Nat × Nat) := if K = 2 then ((numP b n 0 999 ρ).1, ((numP b n 0 999 ρ).2, 0)) else if K = 3 then ((numP b n 0 191 ρ).1, ((numP b n 0 191 ρ).2, 0)) else if K = 4 then twP b n 999 8 191 ρ else if K = 5 then twP b n 11 9 11 ρ else if K = 6 then (ρ, (0, 0)) else ((numP b n 1 60 ρ).1, ((numP b n 1 60 ρ).2, 0))
def apX (X : Tx) (K a c : Nat) : Tx := (X.1 + 1, (fun k => if k = X.1 then K else X.2.1 k, (fun k => if k = X.1 then a else X.2.2.1 k, (fun k => if k = X.1 then c else X.2.2.2.1 k, X.2.2.2.2))))
def lwX (X : Tx) (l : Nat) (v : Env → Int) : Tx := (X.1, (X.2.1, (X.2.2.1, (X.2.2.2.1, fun l' => if l' = l then some v else X.2.2.2.2 l'))))
/-! the class's text while it is read -/
def FrE (t τ : Nat) (S S' : Mem) : Prop := (∀ q, ¬ (q = t ∨ (τ ≤ q ∧ q < τ + 8)) → rdI S' q = rdI S q) ∧ (∀ j, j = 1 ∨ j = 7 ∨ j = 10 → rdI S' t j = rdI S t j) ∧ S'.2 = S.2
theorem FrE_r {t τ : Nat} {S : Mem} : FrE t τ S S := ⟨fun _ _ => rfl, fun _ _ => rfl, rfl⟩
theorem FrE_t {t τ : Nat} {S S1 S2 : Mem} (h : FrE t τ S S1) (h2 : FrE t τ S1 S2) : FrE t τ S S2 := ⟨fun q a => (h2.1 q a).trans (h.1 q a), fun j a => (h2.2.1 j a).trans (h.2.1 j a), h2.2.2.trans h.2.2⟩
theorem FrE_U {t τ c : Nat} {S S' : Mem} (h : FrU t τ c S S') : FrE t τ S S' := ⟨fun q a => h.1 q (by omega), fun j a => h.2.1 j (by omega), h.2.2.2.2⟩
theorem FrE_w {t τ j i : Nat} {v : Int32} {S : Mem} (ht : t + 5 ≤ τ) (hj : j < 8) : FrE t τ S (wrI S (τ + j) i v) := ⟨fun q a => funext fun x => by rw [rdI_wrI, if_neg (by omega)], fun y _ => by rw [rdI_wrI, if_neg (by omega)], rfl⟩
theorem FrE_9 {t τ : Nat} {v : Int32} {S : Mem} : FrE t τ S (wrI S t 9 v) := ⟨fun q a => funext fun x => by rw [rdI_wrI, if_neg (by omega)], fun y _ => by rw [rdI_wrI, if_neg (by omega)], rfl⟩
def LcC (S : Mem) (τ l c : Nat) (o : Option (Env → Int)) : Prop := match o with
  | none => rdI S (τ + 4) l = 0 ∧ rdI S (τ + 5) l = 0
  | some v => ∃ i j : Nat, i < j ∧ j ≤ c ∧ rdI S (τ + 4) l = nI i ∧ rdI S (τ + 5) l = nI j ∧ CD (alL l) (rdI S (τ + 6)) (rdI S (τ + 7)) i j 3 v
theorem LcC_k {S S' : Mem} {τ l c c' : Nat} {o : Option (Env → Int)} (h : LcC S τ l c o) (e4 : rdI S' (τ + 4) l = rdI S (τ + 4) l) (e5 : rdI S' (τ + 5) l = rdI S (τ + 5) l) (ec : ∀ y, y < c → rdI S' (τ + 6) y = rdI S (τ + 6) y ∧ rdI S' (τ + 7) y = rdI S (τ + 7) y) (hc : c ≤ c') : LcC S' τ l c' o := by
  cases o with
  | none => exact ⟨e4.trans h.1, e5.trans h.2⟩
  | some v =>
    obtain ⟨i, j, h1, h2, h3, h4, h5⟩ := h
    exact ⟨i, j, h1, by omega, e4.trans h3, e5.trans h4, CD_cong h5 (fun x _ a => ec x (by omega))⟩
theorem LcC_L {S : Mem} {τ l c : Nat} {o : Option (Env → Int)} (h : LcC S τ l c o) (hc : c ≤ 300) : LC S τ l o := by
  cases o with
  | none => exact ⟨0, 0, by omega, by omega, h.1, h.2, Nat.le_refl _⟩
  | some v =>
    obtain ⟨i, j, h1, h2, h3, h4, h5⟩ := h
    exact ⟨i, j, _, _, h1, by omega, h3, h4, fun x _ _ => ⟨rfl, rfl⟩, h5⟩
def TX (S : Mem) (τ c : Nat) (X : Tx) : Prop := X.1 ≤ 24 ∧ rdI S τ 0 = nI X.1 ∧ (∀ k, k < X.1 → rdI S (τ + 1) k = nI (X.2.1 k) ∧ rdI S (τ + 2) k = nI (X.2.2.1 k) ∧ rdI S (τ + 3) k = nI (X.2.2.2.1 k)) ∧ ∀ l, l < 2 → LcC S τ l c (txL X l)
theorem TX_U {S S' : Mem} {t τ c : Nat} {X : Tx} (h : TX S τ c X) (f : FrU t τ c S S') (ht : t + 5 ≤ τ) : TX S' τ c X := by
  obtain ⟨h1, h2, h3, h4⟩ := h
  refine ⟨h1, by rw [f.2.2.1 0 (by decide)]; exact h2, fun k hk => ?_, fun l hl => LcC_k (h4 l hl) (by rw [f.1 (τ + 4) (by omega)]) (by rw [f.1 (τ + 5) (by omega)]) f.2.2.2.1 (Nat.le_refl _)⟩
  rw [f.1 (τ + 1) (by omega), f.1 (τ + 2) (by omega), f.1 (τ + 3) (by omega)]; exact h3 k hk
def ES (b : Nat → Nat) (n t τ : Nat) (ρ : Rho) (X : Tx) (S : Mem) : Prop := match ρ with
  | .inl e => CX b n t τ e.1 (tP b n e.2) S ∧ ∃ m : Nat, m ≤ 24 ∧ rdI S τ 0 = nI m
  | .inr i => ∃ (x9 : Int32) (c : Nat), CV b n x9 t τ i c S ∧ c ≤ i ∧ TX S τ c X
section CW_
variable {b : Nat → Nat} {n t τ : Nat} {X : Tx}
theorem ES_x {f k : Nat} {S S' : Mem} (h : CX b n t τ f (tP b n k) S') (fr : FrU t τ 0 S S') (hm : ∃ m : Nat, m ≤ 24 ∧ rdI S τ 0 = nI m) : ES b n t τ (.inl (f, k)) X S' := by
  obtain ⟨m, m1, m2⟩ := hm
  exact ⟨h, m, m1, by rw [fr.2.2.1 0 (by decide)]; exact m2⟩
theorem ES_m {ρ : Rho} {S : Mem} (h : ES b n t τ ρ X S) : ∃ m : Nat, m ≤ 24 ∧ rdI S τ 0 = nI m := by
  cases ρ with
  | inl e => exact h.2
  | inr i =>
    obtain ⟨x9, c, h1, h2, h3⟩ := h
    exact ⟨X.1, h3.1, h3.2.1⟩
theorem ES_10 {ρ : Rho} {S : Mem} (h : ES b n t τ ρ X S) : ix (rdI S t 10) = τ ∧ t + 5 ≤ τ := by
  cases ρ with
  | inl e => exact ⟨x10 h.1, h.1.2.2.2.2.2.2.2.2.2.1⟩
  | inr i =>
    obtain ⟨x9, c, h1, h2, h3⟩ := h
    exact ⟨r10v h1, h1.2.2.2.2.2.2.2.2.2.2.2.1⟩
theorem num_es {ρ : Rho} {lo hi : Nat} {S : Mem} (h : ES b n t τ ρ X S) (hl : lo < 2 ^ 31) (hh : hi < 2 ^ 31) (d : Nat) : ∃ S', cal (d + 1) 69 [vR 3 t, vI (nI lo), vI (nI hi)] S = some (some (vI (nI (numP b n lo hi ρ).2)), S') ∧ ES b n t τ (numP b n lo hi ρ).1 X S' ∧ FrE t τ S S' := by
  have hm := ES_m h
  cases ρ with
  | inl e =>
    obtain ⟨S', e1, k1, k2⟩ := nrx_c (lo := nI lo) (hi := nI hi) h.1 d
    exact ⟨S', e1, ES_x k1 k2 hm, FrE_U k2⟩
  | inr i =>
    obtain ⟨x9, c, h1, h2, h3⟩ := h
    have ht := h1.2.2.2.2.2.2.2.2.2.2.2.1
    have hN := CR_iv h1
    by_cases z : tK b n i = 38
    · by_cases y : lo ≤ tV b n i ∧ tV b n i ≤ hi
      · have hi' := tK_in (i := i) (b := b) (n := n) (by omega)
        have e : numP b n lo hi (.inr i) = (.inr (i + 1), tV b n i) := by
          unfold numP
          dsimp only
          rw [if_pos z, if_pos y]
        rw [e]
        have fu : FrU t τ c S (wrI S t 8 (nI (i + 1))) := FrU_w ht (Or.inr (Or.inr rfl))
        exact ⟨_, nr_cv h1 z y.1 y.2 hh d, ⟨x9, c, CR_atv h1 (by omega), by omega, TX_U h3 fu ht⟩, FrE_U fu⟩
      · have e : numP b n lo hi (.inr i) = (.inl (2, i), 0) := by
          unfold numP
          dsimp only
          rw [if_pos z, if_neg y]
        rw [e]
        obtain ⟨S', e1, k1, k2⟩ := nrf_cv h1 (by omega) z y hl hh d
        exact ⟨S', e1, ES_x k1 k2 hm, FrE_U k2⟩
    · have e : numP b n lo hi (.inr i) = (.inl (1, i), 0) := by
        unfold numP
        dsimp only
        rw [if_neg z]
      rw [e]
      obtain ⟨S', e1, k1, k2⟩ := nrb_cv (lo := nI lo) (hi := nI hi) h1 (by omega) z d
      exact ⟨S', e1, ES_x k1 k2 hm, FrE_U k2⟩
theorem tak_es {ρ : Rho} {K : Nat} {S : Mem} (h : ES b n t τ ρ X S) (hK : ¬ K = 39) (hK2 : K < 100) (d : Nat) : ∃ S', cal (d + 1) 67 [vR 3 t, vI (nI K)] S = some (none, S') ∧ ES b n t τ (takP b n K ρ) X S' ∧ FrE t τ S S' := by
  have hm := ES_m h
  cases ρ with
  | inl e =>
    obtain ⟨S', e1, k1, k2⟩ := tkx_c h.1 hK hK2 d
    exact ⟨S', e1, ES_x k1 k2 hm, FrE_U k2⟩
  | inr i =>
    obtain ⟨x9, c, h1, h2, h3⟩ := h
    have ht := h1.2.2.2.2.2.2.2.2.2.2.2.1
    have hN := CR_iv h1
    by_cases z : tK b n i = K
    · have e : takP b n K (.inr i) = .inr (i + 1) := if_pos z
      rw [e]
      obtain ⟨e1, k1, k2⟩ := tke_cv h1 z hK d
      exact ⟨_, e1, ⟨x9, c, k1, by omega, TX_U h3 k2 ht⟩, FrE_U k2⟩
    · have e : takP b n K (.inr i) = .inl (1, i) := if_neg z
      rw [e]
      obtain ⟨S', e1, k1, k2⟩ := tkf_cv h1 (by omega) z hK2 d
      exact ⟨S', e1, ES_x k1 k2 hm, FrE_U k2⟩
/-- a clause is added -/
def acM (S : Mem) (τ m : Nat) (K a c : Int32) : Mem := wrI (wrI (wrI (wrI S (τ + 1) m K) (τ + 2) m a) (τ + 3) m c) τ 0 (nI (m + 1))
theorem add_e {m : Nat} {S : Mem} (e : rdI S τ 0 = nI m) (hm : m < 24) (K a c : Int32) (d : Nat) : cal d 89 [vR 5 τ, vI K, vI a, vI c] S = some (none, acM S τ m K a c) := by
  have w : ∀ (S : Mem) (j : Nat) (x : Int32), 0 < j → rdI (wrI S (τ + j) m x) τ 0 = rdI S τ 0 := fun S j x hj => by rw [rdI_wrI, if_neg (by omega)]
  rw [B_X5_addClause, e, if_neg (show ¬ (24 : Int32) ≤ nI m from nI_ge (b := 24) hm (by decide)), inb_t hm (by decide), gd_t, ix_nI (by omega), w S 1 K (by omega), e, inb_t hm (by decide), gd_t, ix_nI (by omega), w _ 2 a (by omega), w S 1 K (by omega), e, inb_t hm (by decide), gd_t, ix_nI (by omega), w _ 3 c (by omega), w _ 2 a (by omega), w S 1 K (by omega), e, nI_1]
  rfl
theorem add_f {m : Nat} {K a c : Int32} {S : Mem} (ht : t + 5 ≤ τ) : FrE t τ S (acM S τ m K a c) := FrE_t (FrE_w (j := 1) ht (by omega)) (FrE_t (FrE_w (j := 2) ht (by omega)) (FrE_t (FrE_w (j := 3) ht (by omega)) (FrE_w (j := 0) ht (by omega))))
theorem ac_t {m : Nat} {K a c : Int32} {S : Mem} (ht : t + 5 ≤ τ) (q : Nat) (hq : q < τ ∨ τ + 3 < q) : rdI (acM S τ m K a c) q = rdI S q := funext fun x => by
  unfold acM
  rw [rdI_wrI, if_neg (by omega), rdI_wrI, if_neg (by omega), rdI_wrI, if_neg (by omega), rdI_wrI, if_neg (by omega)]
theorem ac_0 {m x : Nat} {K a c : Int32} {S : Mem} (hx : ¬ x = 0) : rdI (acM S τ m K a c) τ x = rdI S τ x := by
  unfold acM
  rw [rdI_wrI, if_neg (by omega), rdI_wrI, if_neg (by omega), rdI_wrI, if_neg (by omega), rdI_wrI, if_neg (by omega)]
theorem TkS_e {k : Nat} {S S' : Mem} (h : TkS b n t k S) (e7 : rdI S' t 7 = rdI S t 7) (e2 : rdI S' (t + 2) = rdI S (t + 2)) (e3 : rdI S' (t + 3) = rdI S (t + 3)) (e4 : rdI S' (t + 4) = rdI S (t + 4)) : TkS b n t k S' := ⟨e7.trans h.1, fun j hj => by rw [e2, e3, e4]; exact h.2 j hj⟩
theorem CV_e {x9 : Int32} {i c : Nat} {S S' : Mem} (h : CV b n x9 t τ i c S) (et : rdI S' t = rdI S t) (e2 : rdI S' (t + 2) = rdI S (t + 2)) (e3 : rdI S' (t + 3) = rdI S (t + 3)) (e4 : rdI S' (t + 4) = rdI S (t + 4)) (e6 : rdI S' τ 6 = rdI S τ 6) : CV b n x9 t τ i c S' := by
  obtain ⟨h1, h2, h3, h4, h5, h6, h7, h8, h9, h10, h11, h12, h13⟩ := h
  exact ⟨TkS_e h1 (by rw [et]) e2 e3 e4, h2, by rw [et]; exact h3, by rw [et]; exact h4, by rw [et]; exact h5, by rw [et]; exact h6, h7, by rw [et]; exact h8, h9, by rw [et]; exact h10, h11, h12, e6.trans h13⟩
theorem CX_e {f p : Nat} {S S' : Mem} (h : CX b n t τ f p S) (et : rdI S' t = rdI S t) (e2 : rdI S' (t + 2) = rdI S (t + 2)) (e3 : rdI S' (t + 3) = rdI S (t + 3)) (e4 : rdI S' (t + 4) = rdI S (t + 4)) (e6 : rdI S' τ 6 = rdI S τ 6) : CX b n t τ f p S' := by
  obtain ⟨h1, h2, h3, h4, h5, h6, h7, h8, h9, h10, h11⟩ := h
  exact ⟨TkS_e h1 (by rw [et]) e2 e3 e4, h2, by rw [et]; exact h3, h4, h5, by rw [et]; exact h6, by rw [et]; exact h7, by rw [et]; exact h8, h9, h10, by rw [e6]; exact h11⟩
theorem add_es {ρ : Rho} {K a c : Nat} {S : Mem} (h : ES b n t τ ρ X S) (hm : ∀ i, ρ = .inr i → X.1 < 24) (d : Nat) : ∃ S', cal d 89 [vR 5 τ, vI (nI K), vI (nI a), vI (nI c)] S = some (none, S') ∧ ES b n t τ ρ (apX X K a c) S' ∧ FrE t τ S S' := by
  have ht := (ES_10 h).2
  cases ρ with
  | inl e =>
    obtain ⟨h1, m, m1, m2⟩ := h
    by_cases z : m < 24
    · exact ⟨_, add_e m2 z _ _ _ d, ⟨CX_e h1 (ac_t ht _ (by omega)) (ac_t ht _ (by omega)) (ac_t ht _ (by omega)) (ac_t ht _ (by omega)) (ac_0 (by decide)), m + 1, by omega, by unfold acM; rw [rdI_wrI, if_pos ⟨rfl, rfl⟩]⟩, add_f ht⟩
    · refine ⟨S, ?_, ⟨h1, m, m1, m2⟩, FrE_r⟩
      rw [B_X5_addClause, m2, if_pos (show (24 : Int32) ≤ nI m from nI_le (a := 24) (by omega) (by omega))]
  | inr i =>
    obtain ⟨x9, q, h1, h2, h3, h4, h5, h6⟩ := h
    have hX := hm i rfl
    refine ⟨_, add_e h4 hX _ _ _ d, ⟨x9, q, CV_e h1 (ac_t ht _ (by omega)) (ac_t ht _ (by omega)) (ac_t ht _ (by omega)) (ac_t ht _ (by omega)) (ac_0 (by decide)), h2, by show X.1 + 1 ≤ 24; omega, by unfold acM; rw [rdI_wrI, if_pos ⟨rfl, rfl⟩]; rfl, fun k hk => ?_, fun l hl => LcC_k (h6 l hl) (by rw [ac_t ht _ (by omega)]) (by rw [ac_t ht _ (by omega)]) (fun y _ => by rw [ac_t ht (τ + 6) (by omega), ac_t ht (τ + 7) (by omega)]; exact ⟨rfl, rfl⟩) (Nat.le_refl _)⟩, add_f ht⟩
    have hk : k < X.1 + 1 := hk
    show rdI (acM S τ X.1 (nI K) (nI a) (nI c)) (τ + 1) k = nI (if k = X.1 then K else X.2.1 k) ∧ rdI (acM S τ X.1 (nI K) (nI a) (nI c)) (τ + 2) k = nI (if k = X.1 then a else X.2.2.1 k) ∧ rdI (acM S τ X.1 (nI K) (nI a) (nI c)) (τ + 3) k = nI (if k = X.1 then c else X.2.2.2.1 k)
    by_cases z : k = X.1
    · rw [if_pos z, if_pos z, if_pos z, z]
      unfold acM
      refine ⟨?_, ?_, ?_⟩
      · rw [rdI_wrI, if_neg (by omega), rdI_wrI, if_neg (by omega), rdI_wrI, if_neg (by omega), rdI_wrI, if_pos ⟨rfl, rfl⟩]
      · rw [rdI_wrI, if_neg (by omega), rdI_wrI, if_neg (by omega), rdI_wrI, if_pos ⟨rfl, rfl⟩]
      · rw [rdI_wrI, if_neg (by omega), rdI_wrI, if_pos ⟨rfl, rfl⟩]
    · rw [if_neg z, if_neg z, if_neg z]
      obtain ⟨g1, g2, g3⟩ := h5 k (by omega)
      unfold acM
      refine ⟨?_, ?_, ?_⟩
      · rw [rdI_wrI, if_neg (by omega), rdI_wrI, if_neg (by omega), rdI_wrI, if_neg (by omega), rdI_wrI, if_neg (by omega)]; exact g1
      · rw [rdI_wrI, if_neg (by omega), rdI_wrI, if_neg (by omega), rdI_wrI, if_neg (by omega), rdI_wrI, if_neg (by omega)]; exact g2
      · rw [rdI_wrI, if_neg (by omega), rdI_wrI, if_neg (by omega), rdI_wrI, if_neg (by omega), rdI_wrI, if_neg (by omega)]; exact g3
end CW_
