/-! the reference reads clauses: steps -/
def RO (b : Nat → Nat) (n r : Nat) (ρ : Rho) (x : Int32) (S : Mem) : Prop := match ρ with
  | .inl e => x = nI e.1 ∧ 0 < e.1 ∧ e.1 < 100 ∧ rdI S r 8 = nI (tP b n e.2)
  | .inr j => x = 0 ∧ RT b n r j S ∧ j ≤ tN b n
def FrB (r lo hi : Nat) (S S' : Mem) : Prop := (∀ c, ¬ (c = r ∨ c = r + 3) → rdI S' c = rdI S c) ∧ (∀ i, ¬ (i = 7 ∨ i = 8 ∨ i = 9 ∨ i = 10) → rdI S' r i = rdI S r i) ∧ (∀ i, ¬ (lo ≤ i ∧ i < hi) → rdI S' (r + 3) i = rdI S (r + 3) i) ∧ S'.2.2 = S.2.2
theorem FrB_r {r lo hi : Nat} {S : Mem} : FrB r lo hi S S := ⟨fun _ _ => rfl, fun _ _ => rfl, fun _ _ => rfl, rfl⟩
theorem FrB_t {r lo hi : Nat} {S S1 S2 : Mem} (h : FrB r lo hi S S1) (h2 : FrB r lo hi S1 S2) : FrB r lo hi S S2 := ⟨fun c a => (h2.1 c a).trans (h.1 c a), fun i a => (h2.2.1 i a).trans (h.2.1 i a), fun i a => (h2.2.2.1 i a).trans (h.2.2.1 i a), h2.2.2.2.trans h.2.2.2⟩
theorem FrB_m {r lo hi lo' hi' : Nat} {S S1 : Mem} (h : FrB r lo hi S S1) (h1 : lo' ≤ lo) (h2 : hi ≤ hi') : FrB r lo' hi' S S1 := ⟨h.1, h.2.1, fun i a => h.2.2.1 i (by omega), h.2.2.2⟩
theorem FrB_H {r lo hi : Nat} {S S' : Mem} (h : FrH r S S') : FrB r lo hi S S' := ⟨fun c a => h.1 c (by omega), fun i a => h.2.1 i a, fun i _ => by rw [h.1 (r + 3) (by omega)], h.2.2⟩
theorem FrB_w {r lo hi i : Nat} {v : Int32} {S : Mem} (h1 : lo ≤ i) (h2 : i < hi) : FrB r lo hi S (wrI S (r + 3) i v) := ⟨fun c a => funext fun x => by rw [rdI_wrI, if_neg (by omega)], fun j a => by rw [rdI_wrI, if_neg (by omega)], fun j a => by rw [rdI_wrI, if_neg (by omega)], rfl⟩
section CZ_
variable {b : Nat → Nat} {n r : Nat}
theorem nv_m {k : Nat} {S : Mem} (h : RT b n r k S) (hK : tK b n k = 38) : ∃ v : Nat, v < 2000000 ∧ rdI S r 10 = nI v ∧ min 10000 v = tV b n k := by
  have hk := tK_in (b := b) (n := n) (i := k) (by omega)
  have hd : isLe (b (tP b n k)) = false ∧ isDg (b (tP b n k)) = true := by
    have hp := tN_lt hk
    unfold tK tk at hK
    rw [if_pos hp] at hK
    by_cases z : isLe (b (tP b n k)) = true
    · rw [if_pos z] at hK
      have hK : wKd b (tP b n k) (eW b n (tP b n k)) = 38 := hK
      have := wKd_lt (b := b) (p := tP b n k) (e := eW b n (tP b n k)); omega
    · refine ⟨bf z, ?_⟩
      have hs := sgK_le (b (tP b n k))
      rw [if_neg z] at hK
      by_cases y : isDg (b (tP b n k)) = true
      · exact y
      · rw [if_neg y] at hK
        by_cases x : two b n (tP b n k) 60 = true
        · rw [if_pos x] at hK; exact absurd hK (show ¬ 26 = 38 by decide)
        · rw [if_neg x] at hK
          by_cases u : two b n (tP b n k) 62 = true
          · rw [if_pos u] at hK; exact absurd hK (show ¬ 28 = 38 by decide)
          · rw [if_neg u] at hK
            have hK : sgK (b (tP b n k)) = 38 := hK
            omega
  obtain ⟨v, v1, v2, v3⟩ := h.2.2.2.2.1 (tN_lt hk) hd.1 hd.2
  have ev_ : tV b n k = nuV b (tP b n k) (eN b n (tP b n k) - tP b n k) := by
    unfold tV tk
    rw [hd.1, if_neg (by decide), if_pos hd.2]
  exact ⟨v, v1, v2, by rw [ev_]; exact v3⟩
theorem numP_1 {i lo hi : Nat} (z : tK b n i = 38) (y : lo ≤ tV b n i ∧ tV b n i ≤ hi) : numP b n lo hi (.inr i) = (.inr (i + 1), tV b n i) := by
  unfold numP
  dsimp only
  rw [if_pos z, if_pos y]
theorem numP_2 {i lo hi : Nat} (z : tK b n i = 38) (y : ¬ (lo ≤ tV b n i ∧ tV b n i ≤ hi)) : numP b n lo hi (.inr i) = (.inl (2, i), 0) := by
  unfold numP
  dsimp only
  rw [if_pos z, if_neg y]
theorem numP_3 {i lo hi : Nat} (z : ¬ tK b n i = 38) : numP b n lo hi (.inr i) = (.inl (1, i), 0) := by
  unfold numP
  dsimp only
  rw [if_neg z]
theorem fig_m {A i lo hi : Nat} {S : Mem} (hA : A < 2724) (h : RT b n r i S) (hh : hi < 10000) (hl : lo < 10000) (d : Nat) : ∃ S' x, cal (d + 2) 207 [vR 8 r, vI (nI A), vI (nI lo), vI (nI hi)] S = some (some (vI x), S') ∧ RO b n r (numP b n lo hi (.inr i)).1 x S' ∧ FrB r A (A + 1) S S' ∧ (∀ j, (numP b n lo hi (.inr i)).1 = .inr j → rdI S' (r + 3) A = nI (numP b n lo hi (.inr i)).2) := by
  have e9 : rdI S r 9 = 1 ↔ tK b n i = 38 := is9 h (c := 1) (K := 38) (by decide) (by decide)
  by_cases z : tK b n i = 38
  · have hi' := tK_in (b := b) (n := n) (i := i) (by omega)
    obtain ⟨v, v1, v2, v3⟩ := nv_m h z
    have e9' : rdI S r 9 = 1 := e9.mpr z
    have hin : (decide (nI lo ≤ rdI S r 10) && decide (rdI S r 10 ≤ nI hi)) = decide (lo ≤ tV b n i ∧ tV b n i ≤ hi) := by
      rw [v2, Bool.decide_and]
      congr 1
      · exact decide_eq_decide.mpr ((nI_leI (by omega) (by omega)).trans (by omega))
      · exact decide_eq_decide.mpr ((nI_leI (by omega) (by omega)).trans (by omega))
    have row : cal (d + 2) 207 [vR 8 r, vI (nI A), vI (nI lo), vI (nI hi)] S = if decide (lo ≤ tV b n i ∧ tV b n i ≤ hi) = false then some (some (vI 2), S) else bV (cal (d + 1) 183 [vR 8 r] (wrI S (r + 3) A (nI v))) (fun S3 => some (some (vI 0), S3)) := by
      rw [B_X8_figure, e9', if_pos rfl, sp_isIn, bI_s, ite_b0, hin, i27 hA, gd_t, ix_nI (by omega), v2]
    by_cases y : lo ≤ tV b n i ∧ tV b n i ≤ hi
    · rw [numP_1 z y]
      obtain ⟨S', e1, k1, f1⟩ := nx_m (RT_w (v := nI v) h (c := r + 3) (i := A) (by omega) (by omega)) d
      refine ⟨S', 0, ?_, ⟨rfl, k1, by omega⟩, FrB_t (FrB_w (Nat.le_refl _) (by omega)) (FrB_H f1), fun j _ => ?_⟩
      · rw [row, if_neg (by rw [decide_eq_true y]; decide), e1, bV_s]
      · rw [f1.1 (r + 3) (by omega), rdI_wrI, if_pos ⟨rfl, rfl⟩]
        show nI v = nI (tV b n i)
        rw [show v = tV b n i by omega]
    · rw [numP_2 z y]
      refine ⟨S, 2, ?_, ⟨rfl, by omega, by omega, RT_8 h⟩, FrB_r, fun j q => by cases q⟩
      rw [row, if_pos (decide_eq_false y)]
  · rw [numP_3 z]
    refine ⟨S, 1, ?_, ⟨rfl, by omega, by omega, RT_8 h⟩, FrB_r, fun j q => by cases q⟩
    rw [B_X8_figure, if_neg (mt e9.mp z)]
theorem takP_1 {i K : Nat} (z : tK b n i = K) : takP b n K (.inr i) = .inr (i + 1) := if_pos z
theorem takP_2 {i K : Nat} (z : ¬ tK b n i = K) : takP b n K (.inr i) = .inl (1, i) := if_neg z
theorem two_m {A i B1 w B2 : Nat} {S : Mem} (hA : A + 2 < 2724) (h : RT b n r i S) (h1 : B1 < 10000) (hw : w < 25) (h2 : B2 < 10000) (d : Nat) : ∃ S' x, cal (d + 3) 209 [vR 8 r, vI (nI A), vI (nI B1), vL (lN (cwK w)), vI (nI B2)] S = some (some (vI x), S') ∧ RO b n r (twP b n B1 w B2 (.inr i)).1 x S' ∧ FrB r (A + 1) (A + 3) S S' ∧ (∀ j, (twP b n B1 w B2 (.inr i)).1 = .inr j → rdI S' (r + 3) (A + 1) = nI (twP b n B1 w B2 (.inr i)).2.1 ∧ rdI S' (r + 3) (A + 2) = nI (twP b n B1 w B2 (.inr i)).2.2) := by
  have ea : nI A + 1 = nI (A + 1) := nI_1 A
  have ea2 : nI A + 2 = nI (A + 2) := nI_add A 2
  obtain ⟨S1, x1, e1, k1, f1, v1⟩ := fig_m (A := A + 1) (lo := 0) (hi := B1) (by omega) h h1 (by decide) d
  have e1' : cal (d + 2) 207 [vR 8 r, vI (nI A + 1), vI 0, vI (nI B1)] S = some (some (vI x1), S1) := by rw [ea]; exact e1
  unfold twP
  rw [show d + 3 = (d + 2) + 1 by omega, B_X8_twoClause, e1', bI_s]
  dsimp only
  cases hρ : (numP b n 0 B1 (.inr i)).1 with
  | inl e =>
    rw [hρ] at k1
    obtain ⟨q1, q2, q3, q4⟩ := k1
    refine ⟨S1, x1, ?_, ⟨q1, q2, q3, q4⟩, FrB_m f1 (by omega) (by omega), fun j q => by cases q⟩
    rw [q1, if_neg (nI_ne0 q2 (by omega))]
  | inr j1 =>
    rw [hρ] at k1 v1
    obtain ⟨q1, q2, q3⟩ := k1
    rw [q1, if_pos rfl, isW_m q2 hw, bI_s, ite_b0]
    by_cases z : tK b n j1 = w
    · have hj1 := tK_in (b := b) (n := n) (i := j1) (by omega)
      obtain ⟨S2, e2, k2, f2⟩ := nx_m q2 (d + 1)
      have e2' : cal (d + 2) 183 [vR 8 r] S1 = some (none, S2) := e2
      obtain ⟨S3, x3, e3, k3, f3, v3⟩ := fig_m (A := A + 2) (lo := 0) (hi := B2) (by omega) k2 h2 (by decide) d
      have e3' : cal (d + 2) 207 [vR 8 r, vI (nI A + 2), vI 0, vI (nI B2)] S2 = some (some (vI x3), S3) := by rw [ea2]; exact e3
      rw [takP_1 z]
      refine ⟨S3, x3, ?_, k3, FrB_t (FrB_m f1 (by omega) (by omega)) (FrB_t (FrB_H f2) (FrB_m f3 (by omega) (by omega))), fun j q => ⟨?_, v3 j q⟩⟩
      · rw [if_neg (by rw [decide_eq_true z]; decide), e2', bV_s, e3', bI_s]
      · rw [f3.2.2.1 _ (by omega), f2.1 (r + 3) (by omega)]; exact v1 j1 rfl
    · rw [takP_2 z]
      refine ⟨S1, 1, ?_, ⟨rfl, by omega, by omega, RT_8 q2⟩, FrB_m f1 (by omega) (by omega), fun j q => by cases q⟩
      rw [if_pos (decide_eq_false z)]
theorem bd_m {A i K : Nat} {S : Mem} (hA : A + 2 < 2724) (h : RT b n r i S) (hi : i ≤ tN b n) (h2 : 2 ≤ K) (h7 : K ≤ 7) (d : Nat) : ∃ S' x, cal (d + 5) 210 [vR 8 r, vI (nI K), vI (nI A)] S = some (some (vI x), S') ∧ RO b n r (bdP b n K (.inr i)).1 x S' ∧ FrB r (A + 1) (A + 3) S S' ∧ (∀ j, (bdP b n K (.inr i)).1 = .inr j → (¬ K = 6 → rdI S' (r + 3) (A + 1) = nI (bdP b n K (.inr i)).2.1) ∧ (K = 4 ∨ K = 5 → rdI S' (r + 3) (A + 2) = nI (bdP b n K (.inr i)).2.2)) := by
  have ea : nI A + 1 = nI (A + 1) := nI_1 A
  rw [show d + 5 = (d + 4) + 1 by omega, B_X8_body, ea]
  rcases (show K = 2 ∨ K = 3 ∨ K = 4 ∨ K = 5 ∨ K = 6 ∨ K = 7 by omega) with rfl | rfl | rfl | rfl | rfl | rfl
  · have eb : bdP b n 2 (.inr i) = ((numP b n 0 999 (.inr i)).1, ((numP b n 0 999 (.inr i)).2, 0)) := rfl
    obtain ⟨S1, x1, e1, k1, f1, v1⟩ := fig_m (A := A + 1) (lo := 0) (hi := 999) (by omega) h (by decide) (by decide) (d + 2)
    have e1' : cal (d + 4) 207 [vR 8 r, vI (nI (A + 1)), vI 0, vI 999] S = some (some (vI x1), S1) := e1
    rw [eb, if_pos (show nI 2 = 2 from rfl), e1', bI_s]
    exact ⟨S1, x1, rfl, k1, FrB_m f1 (by omega) (by omega), fun j q => ⟨fun _ => v1 j q, fun z => by omega⟩⟩
  · have eb : bdP b n 3 (.inr i) = ((numP b n 0 191 (.inr i)).1, ((numP b n 0 191 (.inr i)).2, 0)) := rfl
    obtain ⟨S1, x1, e1, k1, f1, v1⟩ := fig_m (A := A + 1) (lo := 0) (hi := 191) (by omega) h (by decide) (by decide) (d + 2)
    have e1' : cal (d + 4) 207 [vR 8 r, vI (nI (A + 1)), vI 0, vI 191] S = some (some (vI x1), S1) := e1
    rw [eb, if_neg (by decide), if_pos (show nI 3 = 3 from rfl), e1', bI_s]
    exact ⟨S1, x1, rfl, k1, FrB_m f1 (by omega) (by omega), fun j q => ⟨fun _ => v1 j q, fun z => by omega⟩⟩
  · have eb : bdP b n 4 (.inr i) = twP b n 999 8 191 (.inr i) := rfl
    obtain ⟨S1, x1, e1, k1, f1, v1⟩ := two_m (B1 := 999) (w := 8) (B2 := 191) hA h (by decide) (by decide) (by decide) (d + 1)
    have e1' : cal (d + 4) 209 [vR 8 r, vI (nI A), vI 999, vL (lN (cwK 8)), vI 191] S = some (some (vI x1), S1) := e1
    rw [eb, if_neg (by decide), if_neg (by decide), if_pos (show nI 4 = 4 from rfl), wd_8, bL_s, e1', bI_s]
    exact ⟨S1, x1, rfl, k1, f1, fun j q => ⟨fun _ => (v1 j q).1, fun _ => (v1 j q).2⟩⟩
  · have eb : bdP b n 5 (.inr i) = twP b n 11 9 11 (.inr i) := rfl
    obtain ⟨S1, x1, e1, k1, f1, v1⟩ := two_m (B1 := 11) (w := 9) (B2 := 11) hA h (by decide) (by decide) (by decide) (d + 1)
    have e1' : cal (d + 4) 209 [vR 8 r, vI (nI A), vI 11, vL (lN (cwK 9)), vI 11] S = some (some (vI x1), S1) := e1
    rw [eb, if_neg (by decide), if_neg (by decide), if_neg (by decide), if_pos (show nI 5 = 5 from rfl), wd_9, bL_s, e1', bI_s]
    exact ⟨S1, x1, rfl, k1, f1, fun j q => ⟨fun _ => (v1 j q).1, fun _ => (v1 j q).2⟩⟩
  · have eb : bdP b n 6 (.inr i) = (.inr i, (0, 0)) := rfl
    rw [eb, if_neg (by decide), if_neg (by decide), if_neg (by decide), if_neg (by decide), if_pos (show nI 6 = 6 from rfl)]
    exact ⟨S, 0, rfl, ⟨rfl, h, hi⟩, FrB_r, fun j q => ⟨fun z => absurd rfl z, fun z => by omega⟩⟩
  · have eb : bdP b n 7 (.inr i) = ((numP b n 1 60 (.inr i)).1, ((numP b n 1 60 (.inr i)).2, 0)) := rfl
    obtain ⟨S1, x1, e1, k1, f1, v1⟩ := fig_m (A := A + 1) (lo := 1) (hi := 60) (by omega) h (by decide) (by decide) (d + 2)
    have e1' : cal (d + 4) 207 [vR 8 r, vI (nI (A + 1)), vI 1, vI 60] S = some (some (vI x1), S1) := e1
    rw [eb, if_neg (by decide), if_neg (by decide), if_neg (by decide), if_neg (by decide), if_neg (by decide), if_pos (show nI 7 = 7 from rfl), e1', bI_s]
    exact ⟨S1, x1, rfl, k1, FrB_m f1 (by omega) (by omega), fun j q => ⟨fun _ => v1 j q, fun z => by omega⟩⟩
end CZ_
