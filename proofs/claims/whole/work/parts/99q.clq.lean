/-! the reference reads a clause, whole -/
theorem numP_j {b : Nat → Nat} {n lo hi j : Nat} {ρ : Rho} (h : (numP b n lo hi ρ).1 = .inr j) : ∃ i, ρ = .inr i ∧ j = i + 1 ∧ lo ≤ (numP b n lo hi ρ).2 ∧ (numP b n lo hi ρ).2 ≤ hi ∧ tK b n i = 38 := by
  cases ρ with
  | inl e => cases h
  | inr i =>
    by_cases z : tK b n i = 38
    · by_cases y : lo ≤ tV b n i ∧ tV b n i ≤ hi
      · rw [numP_1 z y] at h ⊢
        exact ⟨i, rfl, (Sum.inr.inj h).symm, y.1, y.2, z⟩
      · rw [numP_2 z y] at h; cases h
    · rw [numP_3 z] at h; cases h
theorem takP_j {b : Nat → Nat} {n K j : Nat} {ρ : Rho} (h : takP b n K ρ = .inr j) : ∃ i, ρ = .inr i ∧ j = i + 1 ∧ tK b n i = K := by
  cases ρ with
  | inl e => cases h
  | inr i =>
    by_cases z : tK b n i = K
    · rw [takP_1 z] at h
      exact ⟨i, rfl, (Sum.inr.inj h).symm, z⟩
    · rw [takP_2 z] at h; cases h
theorem twP_j {b : Nat → Nat} {n A w B j i : Nat} (h : (twP b n A w B (.inr i)).1 = .inr j) : i ≤ j ∧ (twP b n A w B (.inr i)).2.1 ≤ A ∧ (twP b n A w B (.inr i)).2.2 ≤ B := by
  obtain ⟨i1, e1, f1, -, g1, -⟩ := numP_j h
  obtain ⟨i2, e2, f2, -⟩ := takP_j e1
  obtain ⟨i3, e3, f3, -, g3, -⟩ := numP_j e2
  have := Sum.inr.inj e3
  exact ⟨by omega, g3, g1⟩
theorem bdP_j {b : Nat → Nat} {n K j i : Nat} (h2 : 2 ≤ K) (h7 : K ≤ 7) (h : (bdP b n K (.inr i)).1 = .inr j) : i ≤ j ∧ (K = 2 → (bdP b n K (.inr i)).2.1 < 1000) ∧ (K = 3 → (bdP b n K (.inr i)).2.1 < 192) ∧ (K = 4 → (bdP b n K (.inr i)).2.1 < 1000 ∧ (bdP b n K (.inr i)).2.2 < 192) ∧ (K = 5 → (bdP b n K (.inr i)).2.1 < 12 ∧ (bdP b n K (.inr i)).2.2 < 12) ∧ (K = 7 → 1 ≤ (bdP b n K (.inr i)).2.1 ∧ (bdP b n K (.inr i)).2.1 ≤ 60) := by
  rcases (show K = 2 ∨ K = 3 ∨ K = 4 ∨ K = 5 ∨ K = 6 ∨ K = 7 by omega) with rfl | rfl | rfl | rfl | rfl | rfl
  · have eb : bdP b n 2 (.inr i) = ((numP b n 0 999 (.inr i)).1, ((numP b n 0 999 (.inr i)).2, 0)) := rfl
    rw [eb] at h ⊢
    obtain ⟨i1, e1, f1, -, g1, -⟩ := numP_j h
    have := Sum.inr.inj e1
    exact ⟨by omega, fun _ => Nat.lt_succ_of_le g1, fun z => by omega, fun z => by omega, fun z => by omega, fun z => by omega⟩
  · have eb : bdP b n 3 (.inr i) = ((numP b n 0 191 (.inr i)).1, ((numP b n 0 191 (.inr i)).2, 0)) := rfl
    rw [eb] at h ⊢
    obtain ⟨i1, e1, f1, -, g1, -⟩ := numP_j h
    have := Sum.inr.inj e1
    exact ⟨by omega, fun z => by omega, fun _ => Nat.lt_succ_of_le g1, fun z => by omega, fun z => by omega, fun z => by omega⟩
  · have eb : bdP b n 4 (.inr i) = twP b n 999 8 191 (.inr i) := rfl
    rw [eb] at h ⊢
    obtain ⟨g1, g2, g3⟩ := twP_j h
    exact ⟨g1, fun z => by omega, fun z => by omega, fun _ => ⟨by omega, by omega⟩, fun z => by omega, fun z => by omega⟩
  · have eb : bdP b n 5 (.inr i) = twP b n 11 9 11 (.inr i) := rfl
    rw [eb] at h ⊢
    obtain ⟨g1, g2, g3⟩ := twP_j h
    exact ⟨g1, fun z => by omega, fun z => by omega, fun z => by omega, fun _ => ⟨by omega, by omega⟩, fun z => by omega⟩
  · have eb : bdP b n 6 (.inr i) = (.inr i, (0, 0)) := rfl
    rw [eb] at h ⊢
    have := Sum.inr.inj h
    exact ⟨by omega, fun z => by omega, fun z => by omega, fun z => by omega, fun z => by omega, fun z => by omega⟩
  · have eb : bdP b n 7 (.inr i) = ((numP b n 1 60 (.inr i)).1, ((numP b n 1 60 (.inr i)).2, 0)) := rfl
    rw [eb] at h ⊢
    obtain ⟨i1, e1, f1, g0, g1, -⟩ := numP_j h
    have := Sum.inr.inj e1
    exact ⟨by omega, fun z => by omega, fun z => by omega, fun z => by omega, fun z => by omega, fun _ => ⟨g0, g1⟩⟩
section DB_
variable {b : Nat → Nat} {n r T : Nat} {X : Tx}
theorem srV_k {K : Nat} (h : K ≤ 7) : srV K = nI K := if_pos h
theorem lt1_k {K : Nat} (h : K ≤ 7) : (1 : Int32) < nI K ↔ 2 ≤ K := by
  constructor
  · intro z
    rcases Nat.lt_or_ge K 2 with y | y
    · rcases (show K = 0 ∨ K = 1 by omega) with rfl | rfl
      · exact absurd z (by decide)
      · exact absurd z (by decide)
    · exact y
  · intro z
    exact nI_lt (a := 1) (by omega) (by omega)
theorem le0_k {K : Nat} (h : K ≤ 7) : (0 : Int32) ≤ nI K := nI_le (a := 0) (Nat.zero_le _) (by omega)
theorem cm_f1 {i : Nat} {S : Mem} (h : RT b n r i S) (hK : 7 < tK b n i) (d : Nat) : cal (d + 12) 212 [vR 8 r] S = some (some (vI 1), S) := by
  have es : cal (d + 11) 211 [vR 8 r] S = some (some (vI (srV (tK b n i))), S) := sr_m h (d + 5)
  have e : srV (tK b n i) = -1 := if_neg (by omega)
  rw [show d + 12 = (d + 11) + 1 by omega, B_X8_clause, es, bI_s, e, if_neg (by decide)]
theorem cm_f4 {i : Nat} {S : Mem} (h : RK b n r T i X S) (hK : tK b n i < 2) (hX : (txL X (tK b n i)).isSome = true) (d : Nat) : cal (d + 12) 212 [vR 8 r] S = some (some (vI 4), S) := by
  obtain ⟨h1, h12, hT, hi0, h19, w, h13, hw, hY⟩ := h
  have es : cal (d + 11) 211 [vR 8 r] S = some (some (vI (srV (tK b n i))), S) := sr_m h1 (d + 5)
  rw [show d + 12 = (d + 11) + 1 by omega, B_X8_clause, es, bI_s, srV_k (by omega), if_pos (le0_k (by omega)), if_neg (mt (lt1_k (by omega)).mp (by omega)), h19, has_k X hK, bI_s, hX, if_neg (by decide)]
theorem cm_f6 {i : Nat} {S : Mem} (h : RK b n r T i X S) (hK : tK b n i ≤ 7) (hX : (decide (tK b n i < 2) && (txL X (tK b n i)).isSome) = false) (hX2 : X.1 = 24) (d : Nat) : cal (d + 12) 212 [vR 8 r] S = some (some (vI 6), S) := by
  obtain ⟨h1, h12, hT, hi0, h19, w, h13, hw, hY⟩ := h
  have es : cal (d + 11) 211 [vR 8 r] S = some (some (vI (srV (tK b n i))), S) := sr_m h1 (d + 5)
  have e0 : rdI S (r + 3) (681 * T) = 24 := by rw [hY.2.1, hX2]; rfl
  rw [show d + 12 = (d + 11) + 1 by omega, B_X8_clause, es, bI_s, srV_k hK, if_pos (le0_k hK)]
  by_cases z : 2 ≤ tK b n i
  · rw [if_pos ((lt1_k hK).mpr z), h12, i27 (by omega), gd_t, ix_nI (by omega), e0, if_pos rfl]
  · have hX' : (txL X (tK b n i)).isSome = false := by
      rw [decide_eq_true (by omega), Bool.true_and] at hX; exact hX
    rw [if_neg (mt (lt1_k hK).mp z), h19, has_k X (by omega), bI_s, hX', if_pos (show b2i false = 0 from rfl), h12, i27 (by omega), gd_t, ix_nI (by omega), e0, if_pos rfl]
/-- all but the laws -/
theorem cm_n {i K : Nat} {S : Mem} (h : RK b n r T i X S) (hK : tK b n i = K) (h2 : 2 ≤ K) (h7 : K ≤ 7) (hX2 : X.1 < 24) (d : Nat) : ∃ S' x, cal (d + 12) 212 [vR 8 r] S = some (some (vI x), S') ∧ RS b n r T (takP b n 37 (bdP b n K (.inr (i + 1))).1) (apX X K (bdP b n K (.inr (i + 1))).2.1 (bdP b n K (.inr (i + 1))).2.2) x S' ∧ FrG r T S S' := by
  obtain ⟨h1, h12, hT, hi0, h19, w, h13, hw, hY⟩ := h
  have hi := tK_in (b := b) (n := n) (i := i) (by omega)
  have es : cal (d + 11) 211 [vR 8 r] S = some (some (vI (srV (tK b n i))), S) := sr_m h1 (d + 5)
  obtain ⟨S1, e1, k1, f1⟩ := nx_m (RT_w (v := nI K) h1 (c := r) (i := 14) (by omega) (by omega)) (d + 10)
  have e1' : cal (d + 11) 183 [vR 8 r] (wrI S r 14 (nI K)) = some (none, S1) := e1
  have w1 : ∀ j, ¬ (j = 7 ∨ j = 8 ∨ j = 9 ∨ j = 10) → ¬ j = 14 → rdI S1 r j = rdI S r j := fun j a1 a2 => by rw [f1.2.1 j a1, rdI_wrI, if_neg (by omega)]
  have w3 : rdI S1 (r + 3) = rdI S (r + 3) := by
    rw [f1.1 (r + 3) (by omega)]
    exact funext fun y => by rw [rdI_wrI, if_neg (by omega)]
  have k2 : RT b n r (i + 1) (wrI S1 (r + 3) (681 * T + 1 + 3 * X.1) (nI K)) := RT_w k1 (by omega) (by omega)
  obtain ⟨S3, x, e3, k3, f3, v3⟩ := bd_m (A := 681 * T + 1 + 3 * X.1) (K := K) (by omega) k2 (by omega) h2 h7 (d + 6)
  have e3' : cal (d + 11) 210 [vR 8 r, vI (nI K), vI (nI (681 * T + 1 + 3 * X.1))] (wrI S1 (r + 3) (681 * T + 1 + 3 * X.1) (nI K)) = some (some (vI x), S3) := e3
  have e0 := hY.2.1
  have s12 : rdI S1 r 12 = nI (681 * T) := by rw [w1 12 (by omega) (by omega)]; exact h12
  have row : cal (d + 12) 212 [vR 8 r] S = kCl (d + 11) r x S3 := by
    rw [show d + 12 = (d + 11) + 1 by omega, B_X8_clause, es, bI_s, hK, srV_k h7, if_pos (le0_k h7), if_pos ((lt1_k h7).mpr h2), h12, i27 (by omega), gd_t, ix_nI (by omega), e0, if_neg (show ¬ nI X.1 = 24 from fun z => by have := (nI_eq (b := 24) (by omega) (by decide)).mp z; omega), if_pos ((lt1_k h7).mpr h2), e1', bV_s, s12, a_e, i27 (by omega), gd_t, ix_nI (by omega), e3', bI_s]
    rfl
  have fA : FrG r T S S3 := FrG_t (FrG_w (by unfold WgT; omega)) (FrG_t (FrG_H f1) (FrG_t (FrG_3 (by omega) (by omega)) (FrG_B f3 (by omega) (by omega))))
  rw [row]
  cases hρ : (bdP b n K (.inr (i + 1))).1 with
  | inl e =>
    rw [hρ] at k3
    obtain ⟨q1, q2, q3, q4⟩ := k3
    exact ⟨S3, x, kCl_f (by rw [q1]; exact nI_ne0 q2 (by omega)) _, ⟨q1, q2, q3, q4⟩, fA⟩
  | inr j =>
    rw [hρ] at k3
    obtain ⟨q1, q2, q3⟩ := k3
    obtain ⟨v1, v2⟩ := v3 j hρ
    have hj := bdP_j h2 h7 hρ
    have g12 : rdI S3 r 12 = nI (681 * T) := by rw [f3.2.1 12 (by omega), rdI_wrI, if_neg (by omega)]; exact s12
    have g3 : ∀ y, ¬ (681 * T + 1 + 3 * X.1 ≤ y ∧ y < 681 * T + 1 + 3 * X.1 + 3) → rdI S3 (r + 3) y = rdI S (r + 3) y := fun y a => by rw [f3.2.2.1 y (by omega), rdI_wrI, if_neg (by omega), w3]
    obtain ⟨S4, x4, e4, k4, f4, c4⟩ := kCl_m q2 q3 hT g12 (by rw [g3 _ (by omega)]; exact e0) (d + 10)
    have e4' : kCl (d + 11) r 0 S3 = some (some (vI x4), S4) := e4
    have fB : FrG r T S S4 := FrG_t fA (FrG_B f4 (by omega) (by omega))
    have hr : ∀ j, ¬ (j = 7 ∨ j = 8 ∨ j = 9 ∨ j = 10) → ¬ j = 14 → rdI S4 r j = rdI S r j := fun j a1 a2 => by rw [f4.2.1 j a1, f3.2.1 j a1, rdI_wrI, if_neg (by omega), w1 j a1 a2]
    rw [q1]
    refine ⟨S4, x4, e4', ?_, fB⟩
    cases hτ : takP b n 37 (.inr j) with
    | inl e =>
      rw [hτ] at k4
      exact k4
    | inr j' =>
      rw [hτ] at k4
      obtain ⟨p1, p2, p3⟩ := k4
      obtain ⟨j2, u1, u2, -⟩ := takP_j hτ
      have u1 := Sum.inr.inj u1
      refine ⟨p1, p2, by rw [hr 12 (by omega) (by omega)]; exact h12, hT, p3, by rw [hr 19 (by omega) (by omega)]; exact h19, w, by rw [hr 13 (by omega) (by omega)]; exact h13, by omega, TY_n hY hX2 c4 (fun y a1 a2 a3 => by rw [f4.2.2.1 y (by omega), g3 y a2]) ?_ h2 h7 (fun z => ?_) (fun z => ?_) (Nat.le_refl _)⟩
      · show rdI S4 (r + 3) (681 * T + 1 + 3 * X.1) = nI K
        rw [f4.2.2.1 _ (by omega), f3.2.2.1 _ (by omega), rdI_wrI, if_pos ⟨rfl, rfl⟩]
      · rw [f4.2.2.1 _ (by omega)]; exact v1 z
      · rw [f4.2.2.1 _ (by omega)]; exact v2 z
/-- the laws: up to the sum -/
theorem cm_lh {i K : Nat} {S : Mem} (h : RK b n r T i X S) (hK : tK b n i = K) (h2 : K < 2) (hX : txL X K = none) (hX2 : X.1 < 24) (d : Nat) : ∃ S3 w, cal (d + 12) 212 [vR 8 r] S = bI (cal (d + 9) 206 [vR 8 r] S3) (fun x S4 => kCl (d + 11) r x (wrI S4 (r + 3) (681 * T + 1 + 3 * X.1 + 2) (rdI S4 r 13))) ∧ RT b n r (i + 1) S3 ∧ rdI S3 r 12 = nI (681 * T) ∧ T < 4 ∧ rdI S3 r 13 = nI w ∧ rdI S3 r 14 = nI K ∧ w ≤ i + 1 ∧ (∀ v, rdI S3 r 19 = nI (mkX (lwX X K v))) ∧ TY S r T w X ∧ (∀ y, ¬ (681 * T + 1 + 3 * X.1 ≤ y ∧ y < 681 * T + 1 + 3 * X.1 + 2) → rdI S3 (r + 3) y = rdI S (r + 3) y) ∧ rdI S3 (r + 3) (681 * T + 1 + 3 * X.1) = nI K ∧ rdI S3 (r + 3) (681 * T + 1 + 3 * X.1 + 1) = nI w ∧ FrG r T S S3 := by
  obtain ⟨h1, h12, hT, hi0, h19, w, h13, hw, hY⟩ := h
  have hi := tK_in (b := b) (n := n) (i := i) (by omega)
  have es : cal (d + 11) 211 [vR 8 r] S = some (some (vI (srV (tK b n i))), S) := sr_m h1 (d + 5)
  have R0 : RT b n r i (wrI (wrI S r 19 (nI (mkX X) ||| shlI 1 (nI K))) r 14 (nI K)) := RT_w (RT_w h1 (by omega) (by omega)) (by omega) (by omega)
  obtain ⟨S1, e1, k1, f1⟩ := nx_m R0 (d + 10)
  have e1' : cal (d + 11) 183 [vR 8 r] (wrI (wrI S r 19 (nI (mkX X) ||| shlI 1 (nI K))) r 14 (nI K)) = some (none, S1) := e1
  have w1 : ∀ j, ¬ (j = 7 ∨ j = 8 ∨ j = 9 ∨ j = 10) → ¬ j = 14 → ¬ j = 19 → rdI S1 r j = rdI S r j := fun j a1 a2 a3 => by rw [f1.2.1 j a1, rdI_wrI, if_neg (by omega), rdI_wrI, if_neg (by omega)]
  have w14 : rdI S1 r 14 = nI K := by rw [f1.2.1 14 (by omega), rdI_wrI, if_pos ⟨rfl, rfl⟩]
  have w19 : rdI S1 r 19 = nI (mkX X) ||| shlI 1 (nI K) := by rw [f1.2.1 19 (by omega), rdI_wrI, if_neg (by omega), rdI_wrI, if_pos ⟨rfl, rfl⟩]
  have w3 : rdI S1 (r + 3) = rdI S (r + 3) := by
    rw [f1.1 (r + 3) (by omega)]
    exact funext fun y => by rw [rdI_wrI, if_neg (by omega), rdI_wrI, if_neg (by omega)]
  have e0 := hY.2.1
  have s12 : rdI S1 r 12 = nI (681 * T) := by rw [w1 12 (by omega) (by omega) (by omega)]; exact h12
  have s13 : rdI (wrI S1 (r + 3) (681 * T + 1 + 3 * X.1) (nI K)) r 13 = nI w := by rw [rdI_wrI, if_neg (by omega), w1 13 (by omega) (by omega) (by omega)]; exact h13
  have ea : nI (681 * T + 1 + 3 * X.1) + 1 = nI (681 * T + 1 + 3 * X.1 + 1) := nI_1 _
  have ea2 : nI (681 * T + 1 + 3 * X.1) + 2 = nI (681 * T + 1 + 3 * X.1 + 2) := nI_add _ 2
  have nK : ∀ y : Nat, 2 ≤ y → y ≤ 7 → ¬ nI K = nI y := fun y y1 y2 z => by have := (nI_eq (by omega) (by omega)).mp z; omega
  have body : cal (d + 11) 210 [vR 8 r, vI (nI K), vI (nI (681 * T + 1 + 3 * X.1))] (wrI S1 (r + 3) (681 * T + 1 + 3 * X.1) (nI K)) = bI (cal (d + 9) 206 [vR 8 r] (wrI (wrI S1 (r + 3) (681 * T + 1 + 3 * X.1) (nI K)) (r + 3) (681 * T + 1 + 3 * X.1 + 1) (nI w))) (fun x S4 => some (some (vI x), wrI S4 (r + 3) (681 * T + 1 + 3 * X.1 + 2) (rdI S4 r 13))) := by
    rw [show d + 11 = (d + 10) + 1 by omega, B_X8_body, if_neg (show ¬ nI K = 2 from nK 2 (by omega) (by omega)), if_neg (show ¬ nI K = 3 from nK 3 (by omega) (by omega)), if_neg (show ¬ nI K = 4 from nK 4 (by omega) (by omega)), if_neg (show ¬ nI K = 5 from nK 5 (by omega) (by omega)), if_neg (show ¬ nI K = 6 from nK 6 (by omega) (by omega)), if_neg (show ¬ nI K = 7 from nK 7 (by omega) (by omega)), show d + 10 = (d + 9) + 1 by omega, B_X8_lawClause, ea, ea2, i27 (by omega), gd_t, i27 (by omega), ix_nI (by omega), ix_nI (by omega), s13]
    cases cal (d + 9) 206 [vR 8 r] (wrI (wrI S1 (r + 3) (681 * T + 1 + 3 * X.1) (nI K)) (r + 3) (681 * T + 1 + 3 * X.1 + 1) (nI w)) with
    | none => rfl
    | some q =>
      obtain ⟨o, S4⟩ := q
      rcases o with _ | a
      · rfl
      · rcases a with a | a
        · rfl
        · rfl
  refine ⟨_, w, ?_, RT_w (RT_w (v := nI K) k1 (c := r + 3) (i := 681 * T + 1 + 3 * X.1) (by omega) (by omega)) (c := r + 3) (i := 681 * T + 1 + 3 * X.1 + 1) (v := nI w) (by omega) (by omega), ?_, hT, ?_, ?_, by omega, fun v => ?_, hY, fun y a => ?_, ?_, ?_, ?_⟩
  · rw [show d + 12 = (d + 11) + 1 by omega, B_X8_clause, es, bI_s, hK, srV_k (by omega), if_pos (le0_k (by omega)), if_neg (mt (lt1_k (by omega)).mp (by omega)), h19, has_k X h2, bI_s, hX, if_pos (show b2i (Option.isSome (none : Option (Env → Int))) = 0 from rfl), h12, i27 (by omega), gd_t, ix_nI (by omega), e0, if_neg (show ¬ nI X.1 = 24 from fun z => by have := (nI_eq (b := 24) (by omega) (by decide)).mp z; omega), if_neg (mt (lt1_k (by omega)).mp (by omega)), h19, e1', bV_s, s12, a_e, i27 (by omega), gd_t, ix_nI (by omega), body]
    cases cal (d + 9) 206 [vR 8 r] (wrI (wrI S1 (r + 3) (681 * T + 1 + 3 * X.1) (nI K)) (r + 3) (681 * T + 1 + 3 * X.1 + 1) (nI w)) with
    | none => rfl
    | some q =>
      obtain ⟨o, S4⟩ := q
      rcases o with _ | a
      · rfl
      · rcases a with a | a
        · rfl
        · rfl
  · rw [rdI_wrI, if_neg (by omega), rdI_wrI, if_neg (by omega)]; exact s12
  · rw [rdI_wrI, if_neg (by omega)]; exact s13
  · rw [rdI_wrI, if_neg (by omega), rdI_wrI, if_neg (by omega)]; exact w14
  · rw [rdI_wrI, if_neg (by omega), rdI_wrI, if_neg (by omega), w19]; exact mk_k X h2 hX
  · rw [rdI_wrI, if_neg (by omega), rdI_wrI, if_neg (by omega), w3]
  · rw [rdI_wrI, if_neg (by omega), rdI_wrI, if_pos ⟨rfl, rfl⟩]
  · rw [rdI_wrI, if_pos ⟨rfl, rfl⟩]
  · exact FrG_t (FrG_w (by unfold WgT; omega)) (FrG_t (FrG_w (by unfold WgT; omega)) (FrG_t (FrG_H f1) (FrG_t (FrG_3 (by omega) (by omega)) (FrG_3 (by omega) (by omega)))))
theorem cm_lok {i j K : Nat} {v : Env → Int} {S : Mem} (h : RK b n r T i X S) (hK : tK b n i = K) (h2 : K < 2) (hX : txL X K = none) (hX2 : X.1 < 24) (hij : i + 1 < j) (hj : j ≤ tN b n) (H : SOk b n K (i + 1) j v) (d : Nat) : ∃ S' x, cal (d + 12) 212 [vR 8 r] S = some (some (vI x), S') ∧ RS b n r T (takP b n 37 (.inr j)) (apX (lwX X K v) K 0 0) x S' ∧ FrG r T S S' := by
  have hn : n ≤ 300 := h.1.1.1
  have hN := tN_le b n
  obtain ⟨S3, w, row, g1, g2, hT, g3, g4, g5, g6, hY, g7, g8, g9, fA⟩ := cm_lh h hK h2 hX hX2 d
  obtain ⟨S4, w', e4, k4, k13, kw, kj, f4, kR⟩ := H r T w S3 g1 g2 hT g3 g4 g5 d
  have q1 : RT b n r j (wrI S4 (r + 3) (681 * T + 1 + 3 * X.1 + 2) (nI w')) := RT_w k4 (by omega) (by omega)
  have c12 : rdI (wrI S4 (r + 3) (681 * T + 1 + 3 * X.1 + 2) (nI w')) r 12 = nI (681 * T) := by rw [rdI_wrI, if_neg (by omega), f4.2.1 12 (by unfold Wr; omega)]; exact g2
  have c0 : rdI (wrI S4 (r + 3) (681 * T + 1 + 3 * X.1 + 2) (nI w')) (r + 3) (681 * T) = nI X.1 := by rw [rdI_wrI, if_neg (by omega), f4.2.2.1 _ (by omega), g7 _ (by omega)]; exact hY.2.1
  obtain ⟨S6, x6, e6, k6, f6, c6⟩ := kCl_m q1 hj hT c12 c0 (d + 10)
  have e6' : kCl (d + 11) r 0 (wrI S4 (r + 3) (681 * T + 1 + 3 * X.1 + 2) (nI w')) = some (some (vI x6), S6) := e6
  have fB : FrG r T S S6 := FrG_t fA (FrG_t (FrG_W f4) (FrG_t (FrG_3 (by omega) (by omega)) (FrG_B f6 (by omega) (by omega))))
  have y6 : ∀ y, ¬ y = 681 * T → ¬ y = 681 * T + 1 + 3 * X.1 + 2 → rdI S6 (r + 3) y = rdI S4 (r + 3) y := fun y a1 a2 => by rw [f6.2.2.1 y (by omega), rdI_wrI, if_neg (by omega)]
  have hr : ∀ j, ¬ Wr j → rdI S6 r j = rdI S3 r j := fun j a => by rw [f6.2.1 j (fun z => a (by unfold Wr; omega)), rdI_wrI, if_neg (by omega), f4.2.1 j a]
  refine ⟨S6, x6, by rw [row, e4, bI_s, k13, e6'], ?_, fB⟩
  cases hτ : takP b n 37 (.inr j) with
  | inl e =>
    rw [hτ] at k6
    exact k6
  | inr j' =>
    rw [hτ] at k6
    obtain ⟨p1, p2, p3⟩ := k6
    obtain ⟨j2, u1, u2, -⟩ := takP_j hτ
    have u1 := Sum.inr.inj u1
    refine ⟨p1, p2, by rw [hr 12 (by unfold Wr; omega)]; exact g2, hT, p3, by rw [hr 19 (by unfold Wr; omega)]; exact g6 v, w', ?_, by omega, TY_l hY hX2 c6 (fun y a1 a2 a3 => by rw [y6 y a1 (by omega), f4.2.2.1 y (by omega), g7 y (by omega)]) ?_ h2 hX ?_ ?_ kw ?_⟩
    · rw [f6.2.1 13 (by omega), rdI_wrI, if_neg (by omega)]; exact k13
    · show rdI S6 (r + 3) (681 * T + 1 + 3 * X.1) = nI K
      rw [y6 _ (by omega) (by omega), f4.2.2.1 _ (by omega)]; exact g8
    · rw [y6 _ (by omega) (by omega), f4.2.2.1 _ (by omega)]; exact g9
    · rw [f6.2.2.1 _ (by omega), rdI_wrI, if_pos ⟨rfl, rfl⟩]
    · exact RD_cong kR (fun x _ hx => ⟨y6 _ (by omega) (by omega), y6 _ (by omega) (by omega)⟩)
theorem cm_lfa {i f k K : Nat} {Y : Tx} {S : Mem} (h : RK b n r T i X S) (hK : tK b n i = K) (h2 : K < 2) (hX : txL X K = none) (hX2 : X.1 < 24) (f0 : 0 < f) (f1 : f < 100) (H : SFa b n K (i + 1) f k) (d : Nat) : ∃ S' x, cal (d + 12) 212 [vR 8 r] S = some (some (vI x), S') ∧ RS b n r T (.inl (f, k)) Y x S' ∧ FrG r T S S' := by
  obtain ⟨S3, w, row, g1, g2, hT, g3, g4, g5, g6, hY, g7, g8, g9, fA⟩ := cm_lh h hK h2 hX hX2 d
  obtain ⟨S4, e4, k8, f4⟩ := H r T w S3 g1 g2 hT g3 g4 g5 d
  exact ⟨_, nI f, by rw [row, e4, bI_s, kCl_f (nI_ne0 f0 (by omega))], ⟨rfl, f0, f1, by rw [rdI_wrI, if_neg (by omega)]; exact k8⟩, FrG_t fA (FrG_t (FrG_W f4) (FrG_3 (by omega) (by omega)))⟩
end DB_
