/-! text(): class and reference alike -/
def tpB (p : Tp) (i : Nat) : Nat := ix (p.2.1 i)
theorem tpB_e {p : Tp} (h : TpI p) {i : Nat} (hi : i < p.1) : p.2.1 i = nI (tpB p i) ∧ tpB p i < 256 := by
  obtain ⟨k, hk, e⟩ := h.2 i hi
  unfold tpB
  rw [e, ix_nI (by omega)]
  exact ⟨rfl, hk⟩
def zTe (Z : Zs) (X : Tx) : Zs := ((Z.1.1, (Z.1.2.1, ((zT Z + 1, zX Z), Z.1.2.2.2))), (Z.2.1, (fun j => if j = zT Z then X else zTx Z j, (0, (Z.2.2.2.2.1, (0, -1))))))
def zFl (Z : Zs) (f p : Int32) : Zs := zTp Z (0, (Z.2.2.2.2.1, (f, p)))
theorem zTe_I {Z : Zs} {X : Tx} (I : ZI Z) (h4 : zT Z < 4) (hX : TxI X) : ZI (zTe Z X) := by
  obtain ⟨h1, h2, h3, h5, h6⟩ := I
  obtain ⟨g1, g2, g3, g4, g5, g6, g7⟩ := h1
  refine ⟨⟨g1, g2, g3, show zT Z + 1 ≤ 4 by omega, ?_, g6, g7⟩, h2, ?_, fun j hj => ?_, Nat.zero_le _, fun i hi => absurd hi (Nat.not_lt_zero i)⟩
  · rcases g5 with y | ⟨y, hy, e⟩
    · exact Or.inl y
    · refine Or.inr ⟨y, ?_, e⟩
      have hy : y < zT Z := hy
      show y < zT Z + 1
      omega
  · show Z.2.1.2.2.1.1 ≤ zT Z + 1
    omega
  · have hj : j < zT Z + 1 := hj
    show TxI (if j = zT Z then X else zTx Z j)
    by_cases z : j = zT Z
    · rw [if_pos z]; exact hX
    · rw [if_neg z]; exact h5 j (by omega)
theorem zFl_I {Z : Zs} {f p : Int32} (I : ZI Z) : ZI (zFl Z f p) := ZI_tp I ⟨Nat.zero_le _, fun i hi => absurd hi (Nat.not_lt_zero i)⟩
theorem ClR_te {S S' : Mem} {x : Nat} {Z : Zs} {X : Tx} (h : ClR S x Z) (h4 : zT Z < 4) (e : ∀ q, ¬ (x + 1 ≤ q ∧ q < x + 6) → ¬ (x + 16 + 468 + 10 * zT Z ≤ q ∧ q < x + 16 + 468 + 10 * zT Z + 8) → ¬ q = x + 27 → rdI S' q = rdI S q) (e27 : ∀ i, ¬ i = 4 → rdI S' (x + 27) i = rdI S (x + 27) i) (eT : rdI S' (x + 27) 4 = nI (zT Z + 1)) (hX : TxC S' (x + 16 + 468 + 10 * zT Z) X) (hp1 : rdI S' (x + 1) 1 = 0) (hp2 : rdI S' (x + 1) 2 = 0) (hp3 : rdI S' (x + 1) 3 = -1) : ClR S' x (zTe Z X) := by
  obtain ⟨⟨w1, w2, w3, w4, w5, w6⟩, h2, h3, h5, h6⟩ := h
  have e' : ∀ q, x + 6 ≤ q → q < x + 484 → ¬ q = x + 27 → rdI S' q = rdI S q := fun q a1 a2 a3 => e q (by omega) (by omega) a3
  refine ⟨⟨CP_e w1 (fun c c1 c2 => e' c (by omega) (by omega) (by omega)), StC_k w2 (fun c c1 c2 => e' c (by omega) (by omega) (by omega)), eT, ?_, ?_, fun i hi => ?_⟩, WC_k h2 (fun c c1 c2 => e' c (by omega) (by omega) (by omega)), fun j hj => ?_, ⟨LC_k h5.1 (fun c c1 c2 => e' c (by omega) (by omega) (by omega)), LC_k h5.2 (fun c c1 c2 => e' c (by omega) (by omega) (by omega))⟩, hp1, fun i hi => absurd hi (Nat.not_lt_zero i), hp2, hp3⟩
  · rw [e27 5 (by decide)]; exact w4
  · rw [e27 3 (by decide)]; exact w5
  · rw [e' (x + 27 + 220) (by omega) (by omega) (by omega)]; exact w6 i hi
  · have hj : j < zT Z + 1 := hj
    show TxC S' (x + 16 + 468 + 10 * j) (if j = zT Z then X else zTx Z j)
    by_cases z : j = zT Z
    · rw [if_pos z, z]; exact hX
    · rw [if_neg z]
      exact TxC_k (h3 j (by omega)) (fun c c1 c2 => e c (by omega) (by omega) (by omega))
theorem ClR_fl {S S' : Mem} {x : Nat} {Z : Zs} {f p : Int32} (h : ClR S x Z) (h4 : zT Z < 4) (e : ∀ q, ¬ (x + 1 ≤ q ∧ q < x + 6) → ¬ (x + 16 + 468 + 10 * zT Z ≤ q ∧ q < x + 16 + 468 + 10 * zT Z + 8) → rdI S' q = rdI S q) (hp1 : rdI S' (x + 1) 1 = 0) (hp2 : rdI S' (x + 1) 2 = f) (hp3 : rdI S' (x + 1) 3 = p) : ClR S' x (zFl Z f p) := by
  obtain ⟨h1, h2, h3, h5, h6⟩ := h
  have e' : ∀ q, x + 6 ≤ q → q < x + 484 → rdI S' q = rdI S q := fun q a1 a2 => e q (by omega) (by omega)
  refine ⟨WC_k h1 (fun c c1 c2 => e' c (by omega) (by omega)), WC_k h2 (fun c c1 c2 => e' c (by omega) (by omega)), fun j hj => ?_, ⟨LC_k h5.1 (fun c c1 c2 => e' c (by omega) (by omega)), LC_k h5.2 (fun c c1 c2 => e' c (by omega) (by omega))⟩, hp1, fun i hi => absurd hi (Nat.not_lt_zero i), hp2, hp3⟩
  have hj : j < zT Z := hj
  exact TxC_k (h3 j hj) (fun c c1 c2 => e c (by omega) (by omega))
theorem LM_r {S S' : Mem} {r T l : Nat} {o : Option (Env → Int)} (h : LM S r T l o) (e : ∀ y, 681 * T ≤ y → y < 681 * T + 681 → rdI S' (r + 3) y = rdI S (r + 3) y) : LM S' r T l o := by
  obtain ⟨hT, n, hn, en, hc⟩ := h
  have ek : ∀ k, k < n → ClM S' r T k = ClM S r T k := fun k hk => e _ (by omega) (by omega)
  refine ⟨hT, n, hn, by rw [e _ (by omega) (by omega)]; exact en, ?_⟩
  cases o with
  | none => exact fun k hk => by rw [ek k hk]; exact hc k hk
  | some v =>
    obtain ⟨k, i, j, co, vl, h1, h2, h3, h4, h5, h6, h7, h8, h9⟩ := hc
    exact ⟨k, i, j, co, vl, h1, by rw [ek k h1]; exact h2, fun k' hk' => by rw [ek k' (by omega)]; exact h3 k' hk', h4, h5, by rw [e _ (by omega) (by omega)]; exact h6, by rw [e _ (by omega) (by omega)]; exact h7, fun x x1 x2 => by rw [e _ (by omega) (by omega), e _ (by omega) (by omega)]; exact h8 x x1 x2, h9⟩
theorem TxM_r {S S' : Mem} {r T : Nat} {X : Tx} (h : TxM S r T X) (hX : X.1 ≤ 24) (e : ∀ y, 681 * T ≤ y → y < 681 * T + 681 → rdI S' (r + 3) y = rdI S (r + 3) y) : TxM S' r T X := by
  obtain ⟨h1, h2, h3, h4⟩ := h
  refine ⟨by rw [e _ (by omega) (by omega)]; exact h1, fun k hk => ?_, LM_r h3 e, LM_r h4 e⟩
  obtain ⟨g1, g2, g3⟩ := h2 k hk
  exact ⟨(e _ (by omega) (by omega)).trans g1, fun y => by rw [e _ (by omega) (by omega)]; exact g2 y, fun y => by rw [e _ (by omega) (by omega)]; exact g3 y⟩
theorem TY_M {S : Mem} {r T w : Nat} {X : Tx} (h : TY S r T w X) (hT : T < 4) (hw : w ≤ 300) : TxM S r T X := by
  obtain ⟨h1, h2, h3, h4⟩ := h
  have key : ∀ l, l < 2 → LM S r T l (txL X l) := fun l hl => by
    have hL := h4 l hl
    refine ⟨hT, X.1, h1, h2, ?_⟩
    cases ho : txL X l with
    | none => rw [ho] at hL; exact hL
    | some v =>
      rw [ho] at hL
      obtain ⟨k, i, j, g1, g2, g3, g4, g5, g6, g7, g8⟩ := hL
      exact ⟨k, i, j, _, _, g1, g2, g3, g4, by omega, g6, g7, fun x _ _ => ⟨rfl, rfl⟩, g8⟩
  exact ⟨h2, h3, key 0 (by decide), key 1 (by decide)⟩
theorem MoR_te {S S' : Mem} {r : Nat} {Z : Zs} {X : Tx} (h : MoR S r Z) (I : ZI Z) (h4 : zT Z < 4) (e : ∀ q, ¬ (q = r ∨ q = r + 1 ∨ q = r + 3 ∨ q = r + 5) → rdI S' q = rdI S q) (e1 : ∀ i, ¬ i = 0 → rdI S' (r + 1) i = rdI S (r + 1) i) (e3 : ∀ y, y < 681 * zT Z → rdI S' (r + 3) y = rdI S (r + 3) y) (eT : rdI S' (r + 1) 0 = nI (zT Z + 1)) (hX : TxM S' r (zT Z) X) (hp1 : rdI S' r 4 = 0) (hp2 : rdI S' r 5 = 0) (hp3 : rdI S' r 6 = -1) : MoR S' r (zTe Z X) := by
  obtain ⟨⟨w1, w2, w3, w4, w5, w6⟩, h2, h3, h5⟩ := h
  refine ⟨⟨RP_fr w1 (fun i i1 i2 => e1 i (by omega)), StM_k w2 (fun i hi => e1 i (by omega)), eT, ?_, ?_, fun i hi => ?_⟩, WM_k h2 (fun i => congrFun (e (r + 2) (by omega)) i), fun j hj => ?_, hp1, fun i hi => absurd hi (Nat.not_lt_zero i), hp2, hp3⟩
  · rw [e1 1 (by decide)]; exact w4
  · rw [e1 3 (by decide)]; exact w5
  · rw [e1 _ (by omega), e1 _ (by omega), e1 _ (by omega)]; exact w6 i hi
  · have hj : j < zT Z + 1 := hj
    show TxM S' r j (if j = zT Z then X else zTx Z j)
    by_cases z : j = zT Z
    · rw [if_pos z, z]; exact hX
    · rw [if_neg z]
      exact TxM_r (h3 j (by omega)) (I.2.2.2.1 j (by omega)).1 (fun y y1 y2 => e3 y (by omega))
theorem MoR_fl {S S' : Mem} {r : Nat} {Z : Zs} {f p : Int32} (h : MoR S r Z) (I : ZI Z) (e : ∀ q, ¬ (q = r ∨ q = r + 3 ∨ q = r + 5) → rdI S' q = rdI S q) (e3 : ∀ y, y < 681 * zT Z → rdI S' (r + 3) y = rdI S (r + 3) y) (hp1 : rdI S' r 4 = 0) (hp2 : rdI S' r 5 = f) (hp3 : rdI S' r 6 = p) : MoR S' r (zFl Z f p) := by
  obtain ⟨h1, h2, h3, h5⟩ := h
  refine ⟨WM_k h1 (fun i => congrFun (e (r + 1) (by omega)) i), WM_k h2 (fun i => congrFun (e (r + 2) (by omega)) i), fun j hj => ?_, hp1, fun i hi => absurd hi (Nat.not_lt_zero i), hp2, hp3⟩
  have hj : j < zT Z := hj
  exact TxM_r (h3 j hj) (I.2.2.2.1 j hj).1 (fun y y1 y2 => e3 y (by omega))
theorem te_all {Z : Zs} (I : ZI Z) : ∃ v Z', ZI Z' ∧ (∀ S x d, ClR S x Z → x + 1100 < 2 ^ 31 → OwC x S (cal (d + 67) 101 [vR 7 x] S) v Z') ∧ (∀ S r d, MoR S r Z → OwM r S (cal (d + 14) 214 [vR 8 r] S) v Z') := by
  have hT4 : zT Z ≤ 4 := I.1.2.2.2.1
  by_cases h4 : zT Z < 4
  · have hn : Z.2.2.2.1 ≤ 300 := I.2.2.2.2.1
    obtain ⟨ρ, Y, H, hY⟩ := lp_all_t (b := tpB Z.2.2.2) (n := Z.2.2.2.1) hn _ 0 X0 (Nat.lt_succ_self _) (Nat.zero_le _) TxI_0
    have rowC : ∀ S x d, ClR S x Z → x + 1100 < 2 ^ 31 → ∃ S1, cal (d + 67) 101 [vR 7 x] S = (if (rdI (wrI S1 (x + 1) 1 0) (x + 1) 2) = 0 then some (some (vI (nI (zT Z))), wrI (wrI S1 (x + 1) 1 0) (x + 27) 4 (nI (zT Z) + 1)) else some (some (vI (-1)), wrI S1 (x + 1) 1 0)) ∧ ES (tpB Z.2.2.2) Z.2.2.2.1 (x + 1) (x + 16 + 468 + 10 * zT Z) ρ Y S1 ∧ FrV (x + 1) (x + 16 + 468 + 10 * zT Z) S S1 := by
      intro S x d h hx
      have e4 : rdI S (x + 27) 4 = nI (zT Z) := h.1.2.2.1
      have hTp : Tap (tpB Z.2.2.2) Z.2.2.2.1 (x + 1) S := ⟨hn, h.2.2.2.2.1, fun i hi => by
        obtain ⟨g1, g2⟩ := tpB_e I.2.2.2.2 hi
        exact ⟨by rw [← g1]; exact h.2.2.2.2.2.1 i hi, g2⟩⟩
      obtain ⟨S1, e1, k1, f1⟩ := ri_c H hTp (τ := x + 16 + 468 + 10 * zT Z) (by omega) (by omega) d
      refine ⟨S1, ?_, k1, f1⟩
      rw [show d + 67 = (d + 66) + 1 by omega, B_X7_text, e4, if_neg (nI_pos (by omega)), if_pos (show nI (zT Z) < 4 from nI_lt (b := 4) h4 (by decide)), inb_t h4 (by decide), gd_t, ix_nI (by omega), e1, bV_s]
    have rowM : ∀ S r d, MoR S r Z → ∃ S1 x, cal (d + 14) 214 [vR 8 r] S = (if (rdI (wrI S1 r 5 x) r 5) = 0 then if (rdI (wrI (wrI (wrI S1 r 5 x) r 6 (-1)) r 4 0) r 5) = 0 then some (some (vI ((rdI (wrI (wrI (wrI (wrI S1 r 5 x) r 6 (-1)) r 4 0) (r + 1) 0 ((rdI (wrI (wrI (wrI S1 r 5 x) r 6 (-1)) r 4 0) (r + 1) 0) + 1)) (r + 1) 0) - 1)), wrI (wrI (wrI (wrI S1 r 5 x) r 6 (-1)) r 4 0) (r + 1) 0 ((rdI (wrI (wrI (wrI S1 r 5 x) r 6 (-1)) r 4 0) (r + 1) 0) + 1)) else some (some (vI (-1)), wrI (wrI (wrI S1 r 5 x) r 6 (-1)) r 4 0) else if (rdI (wrI (wrI (wrI S1 r 5 x) r 6 (rdI (wrI S1 r 5 x) r 8)) r 4 0) r 5) = 0 then some (some (vI ((rdI (wrI (wrI (wrI (wrI S1 r 5 x) r 6 (rdI (wrI S1 r 5 x) r 8)) r 4 0) (r + 1) 0 ((rdI (wrI (wrI (wrI S1 r 5 x) r 6 (rdI (wrI S1 r 5 x) r 8)) r 4 0) (r + 1) 0) + 1)) (r + 1) 0) - 1)), wrI (wrI (wrI (wrI S1 r 5 x) r 6 (rdI (wrI S1 r 5 x) r 8)) r 4 0) (r + 1) 0 ((rdI (wrI (wrI (wrI S1 r 5 x) r 6 (rdI (wrI S1 r 5 x) r 8)) r 4 0) (r + 1) 0) + 1)) else some (some (vI (-1)), wrI (wrI (wrI S1 r 5 x) r 6 (rdI (wrI S1 r 5 x) r 8)) r 4 0)) ∧ RS (tpB Z.2.2.2) Z.2.2.2.1 r (zT Z) ρ Y x S1 ∧ FrG r (zT Z) S S1 := by
      intro S r d h
      have e0 : rdI S (r + 1) 0 = nI (zT Z) := h.1.2.2.1
      have hTp : TapM (tpB Z.2.2.2) Z.2.2.2.1 r S := ⟨hn, h.2.2.2.1, fun i hi => by
        obtain ⟨g1, g2⟩ := tpB_e I.2.2.2.2 hi
        exact ⟨by rw [← g1]; exact h.2.2.2.2.1 i hi, g2⟩⟩
      obtain ⟨S1, x, e1, k1, f1⟩ := rt_m H hTp h4 e0 d
      refine ⟨S1, x, ?_, k1, f1⟩
      rw [show d + 14 = (d + 13) + 1 by omega, B_X8_text, gd_p (show inb 0 13669 = true by decide), show ix 0 = 0 from rfl, e0, if_neg (show ¬ nI (zT Z) = 4 from fun z => by have := (nI_eq (b := 4) (by omega) (by decide)).mp z; omega), e1, bI_s, gd_p (show inb 0 13669 = true by decide), gd_p (show inb 0 13669 = true by decide), gd_p (show inb 0 13669 = true by decide), gd_p (show inb 0 13669 = true by decide), gd_p (show inb 0 13669 = true by decide), gd_p (show inb 0 13669 = true by decide)]
    cases ρ with
    | inl q =>
      refine ⟨-1, zFl Z (nI q.1) (nI (tP (tpB Z.2.2.2) Z.2.2.2.1 q.2)), zFl_I I, fun S x d h hx => ?_, fun S r d h => ?_⟩
      · obtain ⟨S1, e1, ⟨c1, -⟩, f1⟩ := rowC S x d h hx
        obtain ⟨g1, g2, g3, g4, g5, g6, g7, -⟩ := c1
        have e2 : rdI (wrI S1 (x + 1) 1 0) (x + 1) 2 = nI q.1 := by rw [rdI_wrI, if_neg (by omega)]; exact g3
        rw [e1, e2, if_neg (nI_ne0 g4 (by omega))]
        refine ⟨_, rfl, ClR_fl h h4 (fun y a1 a2 => ?_) ?_ e2 ?_, fun y a => ?_, f1.2⟩
        · exact funext fun z => by rw [rdI_wrI, if_neg (by omega), f1.1 y (by omega)]
        · rw [rdI_wrI, if_pos ⟨rfl, rfl⟩]
        · rw [rdI_wrI, if_neg (by omega)]; exact g6
        · exact funext fun z => by rw [rdI_wrI, if_neg (by omega), f1.1 y (by omega)]
      · obtain ⟨S1, x, e1, ⟨c1, c2, c3, c4⟩, f1⟩ := rowM S r d h
        have e5 : rdI (wrI S1 r 5 x) r 5 = nI q.1 := by rw [rdI_wrI, if_pos ⟨rfl, rfl⟩]; exact c1
        have e8 : rdI (wrI S1 r 5 x) r 8 = nI (tP (tpB Z.2.2.2) Z.2.2.2.1 q.2) := by rw [rdI_wrI, if_neg (by omega)]; exact c4
        have e5' : rdI (wrI (wrI (wrI S1 r 5 x) r 6 (nI (tP (tpB Z.2.2.2) Z.2.2.2.1 q.2))) r 4 0) r 5 = nI q.1 := by rw [rdI_wrI, if_neg (by omega), rdI_wrI, if_neg (by omega)]; exact e5
        rw [e1, e5, if_neg (nI_ne0 c2 (by omega)), e8, e5', if_neg (nI_ne0 c2 (by omega))]
        refine ⟨_, rfl, MoR_fl h I (fun y a => ?_) (fun y a => ?_) ?_ e5' ?_, fun y z a => ?_, f1.2.2.2⟩
        · exact funext fun z => by rw [rdI_wrI, if_neg (by omega), rdI_wrI, if_neg (by omega), rdI_wrI, if_neg (by omega), f1.1 y (by omega)]
        · rw [rdI_wrI, if_neg (by omega), rdI_wrI, if_neg (by omega), rdI_wrI, if_neg (by omega), f1.2.2.1 y (by omega)]
        · rw [rdI_wrI, if_pos ⟨rfl, rfl⟩]
        · rw [rdI_wrI, if_neg (by omega), rdI_wrI, if_pos ⟨rfl, rfl⟩]
        · rw [rdI_wrI, if_neg (by omega), rdI_wrI, if_neg (by omega), rdI_wrI, if_neg (by omega), f1.1 y (by omega)]
    | inr j =>
      refine ⟨nI (zT Z), zTe Z Y, zTe_I I h4 (hY j rfl), fun S x d h hx => ?_, fun S r d h => ?_⟩
      · obtain ⟨S1, e1, ⟨x9, c, g, gc, gX⟩, f1⟩ := rowC S x d h hx
        have gN := CR_iv g
        obtain ⟨g1, g2, g3, g4, g5, g6, g7, -⟩ := g
        have e2 : rdI (wrI S1 (x + 1) 1 0) (x + 1) 2 = 0 := by rw [rdI_wrI, if_neg (by omega)]; exact g4
        have w : ∀ y z, ¬ (y = x + 1 ∧ z = 1) → ¬ (y = x + 27 ∧ z = 4) → rdI (wrI (wrI S1 (x + 1) 1 0) (x + 27) 4 (nI (zT Z) + 1)) y z = rdI S1 y z := fun y z a1 a2 => by rw [rdI_wrI, if_neg a2, rdI_wrI, if_neg a1]
        have hX : TxC S1 (x + 16 + 468 + 10 * zT Z) Y := ⟨gX.2.1, gX.2.2.1, LcC_L (gX.2.2.2 0 (by decide)) (by omega), LcC_L (gX.2.2.2 1 (by decide)) (by omega)⟩
        rw [e1, e2, if_pos rfl]
        refine ⟨_, rfl, ClR_te h h4 (fun y a1 a2 a3 => ?_) (fun i a => ?_) ?_ (TxC_k hX (fun y a1 a2 => funext fun z => w y z (by omega) (by omega))) ?_ ?_ ?_, fun y a => ?_, f1.2⟩
        · exact funext fun z => by rw [w y z (by omega) (by omega), f1.1 y (by omega)]
        · rw [w _ _ (by omega) (by omega), f1.1 _ (by omega)]
        · rw [rdI_wrI, if_pos ⟨rfl, rfl⟩]; exact nI_1 _
        · rw [rdI_wrI, if_neg (by omega), rdI_wrI, if_pos ⟨rfl, rfl⟩]
        · rw [w _ _ (by omega) (by omega)]; exact g4
        · rw [w _ _ (by omega) (by omega)]; exact g5
        · exact funext fun z => by rw [w y z (by omega) (by omega), f1.1 y (by omega)]
      · obtain ⟨S1, x, e1, ⟨c1, c2⟩, f1⟩ := rowM S r d h
        obtain ⟨k1, k2, k3, k4, k5, w, k6, k7, k8⟩ := c2
        have hN := tN_le (tpB Z.2.2.2) Z.2.2.2.1
        have e0 : rdI S (r + 1) 0 = nI (zT Z) := h.1.2.2.1
        have e5 : rdI (wrI S1 r 5 x) r 5 = 0 := by rw [rdI_wrI, if_pos ⟨rfl, rfl⟩]; exact c1
        have e5' : rdI (wrI (wrI (wrI S1 r 5 x) r 6 (-1)) r 4 0) r 5 = 0 := by rw [rdI_wrI, if_neg (by omega), rdI_wrI, if_neg (by omega)]; exact e5
        have eT : rdI (wrI (wrI (wrI S1 r 5 x) r 6 (-1)) r 4 0) (r + 1) 0 = nI (zT Z) := by rw [rdI_wrI, if_neg (by omega), rdI_wrI, if_neg (by omega), rdI_wrI, if_neg (by omega), f1.1 (r + 1) (by omega)]; exact e0
        have ev_ : rdI (wrI (wrI (wrI (wrI S1 r 5 x) r 6 (-1)) r 4 0) (r + 1) 0 (nI (zT Z + 1))) (r + 1) 0 - 1 = nI (zT Z) := by
          rw [rdI_wrI, if_pos ⟨rfl, rfl⟩]; exact pk_sub (show 1 ≤ zT Z + 1 by omega)
        have w3 : ∀ q y, ¬ q = r → ¬ q = r + 1 → rdI (wrI (wrI (wrI (wrI S1 r 5 x) r 6 (-1)) r 4 0) (r + 1) 0 (nI (zT Z + 1))) q y = rdI S1 q y := fun q y a1 a2 => by rw [rdI_wrI, if_neg (by omega), rdI_wrI, if_neg (by omega), rdI_wrI, if_neg (by omega), rdI_wrI, if_neg (by omega)]
        rw [e1, e5, if_pos rfl, e5', if_pos rfl, eT, nI_1, ev_]
        refine ⟨_, rfl, MoR_te h I h4 (fun q a => ?_) (fun i a => ?_) (fun y a => ?_) ?_ (TxM_k (TY_M k8 h4 (by omega)) (funext fun y => w3 _ _ (by omega) (by omega))) ?_ ?_ ?_, fun q y a => ?_, f1.2.2.2⟩
        · exact funext fun y => by rw [w3 q y (by omega) (by omega), f1.1 q (by omega)]
        · rw [rdI_wrI, if_neg (by omega), rdI_wrI, if_neg (by omega), rdI_wrI, if_neg (by omega), rdI_wrI, if_neg (by omega), f1.1 (r + 1) (by omega)]
        · rw [w3 _ _ (by omega) (by omega), f1.2.2.1 y (by omega)]
        · rw [rdI_wrI, if_pos ⟨rfl, rfl⟩]
        · rw [rdI_wrI, if_neg (by omega), rdI_wrI, if_pos ⟨rfl, rfl⟩]
        · rw [rdI_wrI, if_neg (by omega)]; exact e5'
        · rw [rdI_wrI, if_neg (by omega), rdI_wrI, if_neg (by omega), rdI_wrI, if_pos ⟨rfl, rfl⟩]
        · rw [w3 q y (by omega) (by omega), f1.1 q (by omega)]
  · have e4 : zT Z = 4 := by omega
    refine ⟨-1, Z, I, fun S x d h hx => ?_, fun S r d h => ?_⟩
    · have e : rdI S (x + 27) 4 = nI (zT Z) := h.1.2.2.1
      rw [show d + 67 = (d + 66) + 1 by omega, B_X7_text, e, e4, if_neg (by decide), if_neg (by decide)]
      exact OwC_k (OkC_0 h)
    · have e : rdI S (r + 1) 0 = nI (zT Z) := h.1.2.2.1
      rw [show d + 14 = (d + 13) + 1 by omega, B_X8_text, gd_p (show inb 0 13669 = true by decide), show ix 0 = 0 from rfl, e, e4, if_pos (show nI 4 = 4 from rfl)]
      exact OwM_k (OkM_0 h)
