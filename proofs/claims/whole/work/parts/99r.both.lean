/-! a clause, all clauses: class and reference alike -/
def ClS (b : Nat → Nat) (n i : Nat) (X : Tx) (ρ : Rho) (Y : Tx) : Prop := (∀ (t τ : Nat) (S : Mem), ES b n t τ (.inr i) X S → ∀ d, ∃ S', cal (d + 65) 68 [vR 3 t] S = some (none, S') ∧ ES b n t τ ρ Y S' ∧ FrE t τ S S') ∧ (∀ (r T : Nat) (S : Mem), RK b n r T i X S → ∀ d, ∃ S' x, cal (d + 12) 212 [vR 8 r] S = some (some (vI x), S') ∧ RS b n r T ρ Y x S' ∧ FrG r T S S')
theorem TxI_a {X : Tx} {K a c : Nat} (h : TxI X) (hX : X.1 < 24) (h7 : K ≤ 7) (h2 : K = 2 → a < 1000) (h3 : K = 3 → a < 192) (h4 : K = 4 → a < 1000 ∧ c < 192) (h5 : K = 5 → a < 12 ∧ c < 12) (h6 : K = 7 → 1 ≤ a ∧ a ≤ 60) : TxI (apX X K a c) := by
  refine ⟨by show X.1 + 1 ≤ 24; omega, fun k hk => ?_⟩
  have hk : k < X.1 + 1 := hk
  show (if k = X.1 then K else X.2.1 k) ≤ 7 ∧ ((if k = X.1 then K else X.2.1 k) = 2 → (if k = X.1 then a else X.2.2.1 k) < 1000) ∧ ((if k = X.1 then K else X.2.1 k) = 3 → (if k = X.1 then a else X.2.2.1 k) < 192) ∧ ((if k = X.1 then K else X.2.1 k) = 4 → (if k = X.1 then a else X.2.2.1 k) < 1000 ∧ (if k = X.1 then c else X.2.2.2.1 k) < 192) ∧ ((if k = X.1 then K else X.2.1 k) = 5 → (if k = X.1 then a else X.2.2.1 k) < 12 ∧ (if k = X.1 then c else X.2.2.2.1 k) < 12) ∧ ((if k = X.1 then K else X.2.1 k) = 7 → 1 ≤ (if k = X.1 then a else X.2.2.1 k) ∧ (if k = X.1 then a else X.2.2.1 k) ≤ 60)
  by_cases z : k = X.1
  · rw [if_pos z, if_pos z, if_pos z]; exact ⟨h7, h2, h3, h4, h5, h6⟩
  · rw [if_neg z, if_neg z, if_neg z]; exact h.2 k (by omega)
section DC_
variable {b : Nat → Nat} {n : Nat}
theorem cl_all {i : Nat} {X : Tx} (hn : n ≤ 300) (hi : i < tN b n) (hX : TxI X) : ∃ ρ Y, ClS b n i X ρ Y ∧ ∀ j, ρ = .inr j → i < j ∧ TxI Y := by
  by_cases h7 : tK b n i ≤ 7
  · cases hh : (decide (tK b n i < 2) && (txL X (tK b n i)).isSome)
    · by_cases h24 : X.1 < 24
      · by_cases h2 : 2 ≤ tK b n i
        · refine ⟨takP b n 37 (bdP b n (tK b n i) (.inr (i + 1))).1, apX X (tK b n i) (bdP b n (tK b n i) (.inr (i + 1))).2.1 (bdP b n (tK b n i) (.inr (i + 1))).2.2, ⟨fun t τ S h d => cl_n h rfl h2 h7 h24 d, fun r T S h d => cm_n h rfl h2 h7 h24 d⟩, fun j hj => ?_⟩
          obtain ⟨j1, e1, e2, -⟩ := takP_j hj
          obtain ⟨g1, g2, g3, g4, g5, g6⟩ := bdP_j h2 h7 e1
          exact ⟨by omega, TxI_a hX h24 h7 g2 g3 g4 g5 g6⟩
        · have hL : txL X (tK b n i) = none := by
            rw [decide_eq_true (by omega), Bool.true_and] at hh
            cases ho : txL X (tK b n i) with
            | none => rfl
            | some v => rw [ho] at hh; cases hh
          rcases lw_all (b := b) (n := n) (law := tK b n i) (i := i + 1) hn (by omega) (by omega) with ⟨j, v, g1, g2, g3, g4⟩ | ⟨f, k, g1, g2, g3, g4⟩
          · refine ⟨takP b n 37 (.inr j), apX (lwX X (tK b n i) v) (tK b n i) 0 0, ⟨fun t τ S h d => cl_lok h rfl (by omega) hL h24 g1 g3 d, fun r T S h d => cm_lok h rfl (by omega) hL h24 g1 g2 g4 d⟩, fun j' hj => ?_⟩
            obtain ⟨j1, e1, e2, -⟩ := takP_j hj
            have := Sum.inr.inj e1
            exact ⟨by omega, TxI_a (X := lwX X (tK b n i) v) hX h24 h7 (fun _ => by omega) (fun _ => by omega) (fun _ => by omega) (fun _ => by omega) (fun _ => by omega)⟩
          · exact ⟨.inl (f, k), X, ⟨fun t τ S h d => cl_lfa h rfl (by omega) hL h24 g3 d, fun r T S h d => cm_lfa h rfl (by omega) hL h24 g1 g2 g4 d⟩, fun j hj => by cases hj⟩
      · have h24' : X.1 = 24 := by have := hX.1; omega
        exact ⟨.inl (6, i), X, ⟨fun t τ S h d => cl_f6 h h7 hh h24' d, fun r T S h d => ⟨S, 6, cm_f6 h h7 hh h24' d, ⟨rfl, by omega, by omega, RT_8 h.1⟩, FrG_r⟩⟩, fun j hj => by cases hj⟩
    · have hh' : tK b n i < 2 ∧ (txL X (tK b n i)).isSome = true := by
        rw [Bool.and_eq_true, decide_eq_true_iff] at hh; exact hh
      exact ⟨.inl (4, i), X, ⟨fun t τ S h d => cl_f4 h hh'.1 hh'.2 d, fun r T S h d => ⟨S, 4, cm_f4 h hh'.1 hh'.2 d, ⟨rfl, by omega, by omega, RT_8 h.1⟩, FrG_r⟩⟩, fun j hj => by cases hj⟩
  · exact ⟨.inl (1, i), X, ⟨fun t τ S h d => cl_f1 h (by omega) d, fun r T S h d => ⟨S, 1, cm_f1 h.1 (by omega) d, ⟨rfl, by omega, by omega, RT_8 h.1⟩, FrG_r⟩⟩, fun j hj => by cases hj⟩
def LpS (b : Nat → Nat) (n i : Nat) (X : Tx) (ρ : Rho) (Y : Tx) : Prop := (∀ (t τ it : Nat) (S : Mem) (u : AV), ES b n t τ (.inr i) X S → it ≤ i → ∀ d, ∃ S', ev (d + 66) 54 33 [vR 3 t, u, vI (nI it)] [] S = some (none, S') ∧ ES b n t τ ρ Y S' ∧ FrE t τ S S') ∧ (∀ (r T : Nat) (S : Mem) (u : AV), RK b n r T i X S → ∀ d, ∃ S' x, ev (d + 13) 213 43 [vR 8 r, u] [] S = some (some (vI x), S') ∧ RS b n r T ρ Y x S' ∧ FrG r T S S')
theorem es_N {t τ i : Nat} {X : Tx} {S : Mem} (h : ES b n t τ (.inr i) X S) : i ≤ tN b n ∧ tN b n ≤ 300 := by
  obtain ⟨x9, c, g1, g2, g3⟩ := h
  exact CR_iv g1
theorem lp_c {t τ i it : Nat} {X : Tx} {S : Mem} (u : AV) (h : ES b n t τ (.inr i) X S) (hi : i < tN b n) (hit : it ≤ i) (d : Nat) : ev (d + 66) 54 33 [vR 3 t, u, vI (nI it)] [] S = bV (cal (d + 65) 68 [vR 3 t] S) (fun S3 => ev (d + 66) 54 33 [vR 3 t, vU, vI (nI (it + 1))] [] S3) := by
  have hN := es_N h
  have hle := tK_le b n i
  have hne : ¬ tK b n i = 39 := fun z => by have := tK_end.mp z; omega
  rw [show d + 66 = (d + 65) + 1 by omega, B_X3_readInto_33, if_neg (show ¬ (300 : Int32) ≤ nI it from nI_ge (b := 300) (by omega) (by decide)), kk_e h, bI_s, if_neg (show ¬ nI (tK b n i) = 39 from fun z => hne ((nI_eq (b := 39) (by omega) (by decide)).mp z)), nI_1]
theorem lp_x {t τ it : Nat} {e : Nat × Nat} {X : Tx} {S : Mem} (u : AV) (h : ES b n t τ (.inl e) X S) (d : Nat) : ev (d + 66) 54 33 [vR 3 t, u, vI (nI it)] [] S = some (none, S) := by
  rw [show d + 66 = (d + 65) + 1 by omega, B_X3_readInto_33, kx_c h.1, bI_s, if_pos rfl, ite_self]
theorem lp_all_t (hn : n ≤ 300) : ∀ m i X, tN b n - i < m → i ≤ tN b n → TxI X → ∃ ρ Y, LpS b n i X ρ Y ∧ ∀ j, ρ = .inr j → TxI Y := by
  intro m
  induction m with
  | zero => intro i X hm; omega
  | succ m ih =>
    intro i X hm hi hX
    by_cases z : i < tN b n
    · obtain ⟨ρ1, Y1, ⟨c1, c2⟩, c3⟩ := cl_all hn z hX
      cases ρ1 with
      | inl e =>
        refine ⟨.inl e, Y1, ⟨fun t τ it S u h hit d => ?_, fun r T S u h d => ?_⟩, fun j hj => by cases hj⟩
        · obtain ⟨S1, e1, k1, f1⟩ := c1 t τ S h d
          exact ⟨S1, by rw [lp_c u h z hit, e1, bV_s, lp_x vU k1], k1, f1⟩
        · obtain ⟨S1, x, e1, k1, f1⟩ := c2 r T S h d
          have e9 : rdI S r 9 = 0 ↔ tK b n i = 39 := is9 h.1 (c := 0) (K := 39) (by decide) (by decide)
          obtain ⟨q1, q2, q3, q4⟩ := k1
          refine ⟨S1, x, ?_, ⟨q1, q2, q3, q4⟩, f1⟩
          rw [show d + 13 = (d + 12) + 1 by omega, B_X8_readText_43, if_neg (fun y => by have := tK_end.mp (e9.mp y); omega), e1, bI_s, q1, if_neg (nI_ne0 q2 (by omega))]
      | inr j =>
        obtain ⟨hj, hY⟩ := c3 j rfl
        by_cases zj : j ≤ tN b n
        · obtain ⟨ρ, Y, ⟨g1, g2⟩, g3⟩ := ih j Y1 (by omega) zj hY
          refine ⟨ρ, Y, ⟨fun t τ it S u h hit d => ?_, fun r T S u h d => ?_⟩, g3⟩
          · obtain ⟨S1, e1, k1, f1⟩ := c1 t τ S h d
            obtain ⟨S2, e2, k2, f2⟩ := g1 t τ (it + 1) S1 vU k1 (by omega) d
            exact ⟨S2, by rw [lp_c u h z hit, e1, bV_s, e2], k2, FrE_t f1 f2⟩
          · obtain ⟨S1, x, e1, k1, f1⟩ := c2 r T S h d
            have e9 : rdI S r 9 = 0 ↔ tK b n i = 39 := is9 h.1 (c := 0) (K := 39) (by decide) (by decide)
            obtain ⟨q1, q2⟩ := k1
            obtain ⟨S2, x2, e2, k2, f2⟩ := g2 r T S1 (vI x) q2 d
            refine ⟨S2, x2, ?_, k2, FrG_t f1 f2⟩
            rw [show d + 13 = (d + 12) + 1 by omega, B_X8_readText_43, if_neg (fun y => by have := tK_end.mp (e9.mp y); omega), e1, bI_s, if_pos q1]
            exact e2
        · refine ⟨.inr j, Y1, ⟨fun t τ it S u h hit d => ?_, fun r T S u h d => ?_⟩, fun _ _ => hY⟩
          · obtain ⟨S1, e1, k1, f1⟩ := c1 t τ S h d
            have := (es_N k1).1; omega
          · obtain ⟨S1, x, e1, ⟨q1, q2⟩, f1⟩ := c2 r T S h d
            have := q2.2.2.2.1; omega
    · have ei : i = tN b n := by omega
      have e39 : tK b n i = 39 := tK_end.mpr (by omega)
      refine ⟨.inr i, X, ⟨fun t τ it S u h hit d => ⟨S, ?_, h, FrE_r⟩, fun r T S u h d => ⟨S, 0, ?_, ⟨rfl, h⟩, FrG_r⟩⟩, fun _ _ => hX⟩
      · rw [show d + 66 = (d + 65) + 1 by omega, B_X3_readInto_33, kk_e h, e39, bI_s, if_pos (show nI 39 = 39 from rfl), ite_self]
      · have e9 : rdI S r 9 = 0 ↔ tK b n i = 39 := is9 h.1 (c := 0) (K := 39) (by decide) (by decide)
        rw [show d + 13 = (d + 12) + 1 by omega, B_X8_readText_43, if_pos (e9.mpr e39)]
/-- the empty text -/
def X0 : Tx := (0, (fun _ => 0, (fun _ => 0, (fun _ => 0, fun _ => none))))
theorem TxI_0 : TxI X0 := ⟨Nat.zero_le _, fun k hk => absurd hk (Nat.not_lt_zero k)⟩
def FrV (t τ : Nat) (S S' : Mem) : Prop := (∀ q, ¬ (q = t ∨ q = t + 2 ∨ q = t + 3 ∨ q = t + 4 ∨ (τ ≤ q ∧ q < τ + 8)) → rdI S' q = rdI S q) ∧ S'.2 = S.2
theorem ri_c {t τ : Nat} {ρ : Rho} {Y : Tx} {S : Mem} (H : LpS b n 0 X0 ρ Y) (h : Tap b n t S) (hτ : τ < 2 ^ 31) (ht : t + 5 ≤ τ) (d : Nat) : ∃ S', cal (d + 66) 54 [vR 3 t, vR 5 τ] S = some (none, S') ∧ ES b n t τ ρ Y S' ∧ FrV t τ S S' := by
  have a10 : ix (rdI (wrI S t 10 (nI τ)) t 10) = τ := by rw [rdI_wrI, if_pos ⟨rfl, rfl⟩, ix_nI hτ]
  have ec : cal (d + 65) 84 [vR 5 τ] (wrI S t 10 (nI τ)) = some (none, filI (filI (wrI (wrI (wrI S t 10 (nI τ)) τ 0 0) τ 6 0) (τ + 4) 2 0) (τ + 5) 2 0) := by
    rw [show d + 65 = (d + 64) + 1 by omega, B_X5_clear, show (100002 : Nat) = 100000 + 2 from rfl, sp_fill _ 2 _ (by decide), bV_s, sp_fill _ 2 _ (by decide), bV_s]
  have g : ∀ q x, ¬ (τ ≤ q ∧ q < τ + 8) → ¬ (q = t ∧ x = 10) → rdI (filI (filI (wrI (wrI (wrI S t 10 (nI τ)) τ 0 0) τ 6 0) (τ + 4) 2 0) (τ + 5) 2 0) q x = rdI S q x := fun q x a1 a2 => by
    rw [rdI_fil, if_neg (by omega), rdI_fil, if_neg (by omega), rdI_wrI, if_neg (by omega), rdI_wrI, if_neg (by omega), rdI_wrI, if_neg a2]
  have g2 : (filI (filI (wrI (wrI (wrI S t 10 (nI τ)) τ 0 0) τ 6 0) (τ + 4) 2 0) (τ + 5) 2 0).2 = S.2 := by rw [fil_2, fil_2]; rfl
  have g10 : rdI (filI (filI (wrI (wrI (wrI S t 10 (nI τ)) τ 0 0) τ 6 0) (τ + 4) 2 0) (τ + 5) 2 0) t 10 = nI τ := by
    rw [rdI_fil, if_neg (by omega), rdI_fil, if_neg (by omega), rdI_wrI, if_neg (by omega), rdI_wrI, if_neg (by omega), rdI_wrI, if_pos ⟨rfl, rfl⟩]
  have g0 : rdI (filI (filI (wrI (wrI (wrI S t 10 (nI τ)) τ 0 0) τ 6 0) (τ + 4) 2 0) (τ + 5) 2 0) τ 0 = 0 := by
    rw [rdI_fil, if_neg (by omega), rdI_fil, if_neg (by omega), rdI_wrI, if_neg (by omega), rdI_wrI, if_pos ⟨rfl, rfl⟩]
  have g6 : rdI (filI (filI (wrI (wrI (wrI S t 10 (nI τ)) τ 0 0) τ 6 0) (τ + 4) 2 0) (τ + 5) 2 0) τ 6 = 0 := by
    rw [rdI_fil, if_neg (by omega), rdI_fil, if_neg (by omega), rdI_wrI, if_pos ⟨rfl, rfl⟩]
  have g4 : ∀ l, l < 2 → rdI (filI (filI (wrI (wrI (wrI S t 10 (nI τ)) τ 0 0) τ 6 0) (τ + 4) 2 0) (τ + 5) 2 0) (τ + 4) l = 0 := fun l hl => by
    rw [rdI_fil, if_neg (by omega), rdI_fil, if_pos ⟨rfl, hl⟩]
  have g5 : ∀ l, l < 2 → rdI (filI (filI (wrI (wrI (wrI S t 10 (nI τ)) τ 0 0) τ 6 0) (τ + 4) 2 0) (τ + 5) 2 0) (τ + 5) l = 0 := fun l hl => by
    rw [rdI_fil, if_pos ⟨rfl, hl⟩]
  generalize filI (filI (wrI (wrI (wrI S t 10 (nI τ)) τ 0 0) τ 6 0) (τ + 4) 2 0) (τ + 5) 2 0 = S1 at *
  have hT : Tap b n t (wrI (wrI S1 t 2 0) t 3 (-1)) := ⟨h.1, by rw [rdI_wrI, if_neg (by omega), rdI_wrI, if_neg (by omega), g _ _ (by omega) (by omega)]; exact h.2.1, fun i hi => by rw [rdI_wrI, if_neg (by omega), rdI_wrI, if_neg (by omega), g _ _ (by omega) (by omega)]; exact h.2.2 i hi⟩
  obtain ⟨S2, e2, k2, f2⟩ := scan_c hT (d + 57)
  have e2' : cal (d + 65) 55 [vR 3 t] (wrI (wrI S1 t 2 0) t 3 (-1)) = some (none, S2) := e2
  have w : ∀ q x, ¬ (q = t ∨ q = t + 2 ∨ q = t + 3 ∨ q = t + 4) → rdI (wrI S2 t 8 0) q x = rdI S1 q x := fun q x a => by
    rw [rdI_wrI, if_neg (by omega), f2.1 q a, rdI_wrI, if_neg (by omega), rdI_wrI, if_neg (by omega)]
  have wt : ∀ x, ¬ x = 7 → ¬ x = 8 → rdI (wrI S2 t 8 0) t x = rdI (wrI (wrI S1 t 2 0) t 3 (-1)) t x := fun x a1 a2 => by
    rw [rdI_wrI, if_neg (by omega), f2.2.1 x a1]
  have hn := h.1
  have hE : ES b n t τ (.inr 0) X0 (wrI S2 t 8 0) := by
    refine ⟨rdI (wrI S2 t 8 0) t 9, 0, ⟨TkS_e k2 (by rw [rdI_wrI, if_neg (by omega)]) (funext fun x => by rw [rdI_wrI, if_neg (by omega)]) (funext fun x => by rw [rdI_wrI, if_neg (by omega)]) (funext fun x => by rw [rdI_wrI, if_neg (by omega)]), hn, ?_, ?_, ?_, ?_, Nat.zero_le _, rfl, by decide, ?_, hτ, ht, ?_⟩, Nat.le_refl _, Nat.zero_le _, ?_, fun k hk => absurd hk (Nat.not_lt_zero k), fun l hl => ⟨?_, ?_⟩⟩
    · rw [wt 1 (by decide) (by decide)]; exact hT.2.1
    · rw [wt 2 (by decide) (by decide), rdI_wrI, if_neg (by omega), rdI_wrI, if_pos ⟨rfl, rfl⟩]
    · rw [wt 3 (by decide) (by decide), rdI_wrI, if_pos ⟨rfl, rfl⟩]
    · rw [rdI_wrI, if_pos ⟨rfl, rfl⟩]; rfl
    · rw [wt 10 (by decide) (by decide), rdI_wrI, if_neg (by omega), rdI_wrI, if_neg (by omega)]; exact g10
    · rw [w _ _ (by omega)]; exact g6
    · rw [w _ _ (by omega)]; exact g0
    · rw [w _ _ (by omega)]; exact g4 l hl
    · rw [w _ _ (by omega)]; exact g5 l hl
  obtain ⟨S3, e3, k3, f3⟩ := H.1 t τ 0 _ (vR 5 τ) hE (Nat.le_refl _) d
  have e3' : ev (d + 66) 54 33 [vR 3 t, vR 5 τ, vI 0] [] (wrI S2 t 8 0) = some (none, S3) := e3
  refine ⟨S3, ?_, k3, fun q a => ?_, f3.2.2.trans (f2.2.2.trans g2)⟩
  · rw [show d + 66 = (d + 65) + 1 by omega, B_X3_readInto, a10, ec, bV_s, e2', bV_s, show d + 65 + 1 = d + 66 by omega, e3']
  · rw [f3.1 q (by omega)]
    exact funext fun x => by rw [w q x (by omega), g q x (by omega) (by omega)]
/-- the reference from its first byte on -/
theorem rt_m {r T : Nat} {ρ : Rho} {Y : Tx} {S : Mem} (H : LpS b n 0 X0 ρ Y) (h : TapM b n r S) (hT : T < 4) (e0 : rdI S (r + 1) 0 = nI T) (d : Nat) : ∃ S' x, cal (d + 13) 213 [vR 8 r] S = some (some (vI x), S') ∧ RS b n r T ρ Y x S' ∧ FrG r T S S' := by
  have a12 : ∀ S : Mem, rdI (wrI S r 12 (nI (681 * T))) r 12 = nI (681 * T) := fun S => by rw [rdI_wrI, if_pos ⟨rfl, rfl⟩]
  have fr : FrG r T S (wrI (wrI (wrI (wrI (wrI S r 12 (nI (681 * T))) (r + 3) (681 * T) 0) r 13 0) r 19 0) r 7 0) := FrG_t (FrG_w (by unfold WgT; omega)) (FrG_t (FrG_3 (by omega) (by omega)) (FrG_t (FrG_w (by unfold WgT Wr; omega)) (FrG_t (FrG_w (by unfold WgT; omega)) (FrG_w (by unfold WgT Wr; omega)))))
  have hTp : TapM b n r (wrI (wrI (wrI (wrI (wrI S r 12 (nI (681 * T))) (r + 3) (681 * T) 0) r 13 0) r 19 0) r 7 0) := ⟨h.1, by rw [fr.2.1 4 (by unfold WgT Wr; omega)]; exact h.2.1, fun i hi => by rw [fr.1 (r + 4) (by omega)]; exact h.2.2 i hi⟩
  obtain ⟨S1, e1, k1, f1⟩ := nx_0 hTp (by rw [rdI_wrI, if_pos ⟨rfl, rfl⟩]) (d + 11)
  have e1' : cal (d + 12) 183 [vR 8 r] (wrI (wrI (wrI (wrI (wrI S r 12 (nI (681 * T))) (r + 3) (681 * T) 0) r 13 0) r 19 0) r 7 0) = some (none, S1) := e1
  have hK : RK b n r T 0 X0 S1 := by
    refine ⟨k1, ?_, hT, Nat.zero_le _, ?_, 0, ?_, Nat.le_refl _, Nat.zero_le _, ?_, fun k hk => absurd hk (Nat.not_lt_zero k), fun l hl k hk => absurd hk (Nat.not_lt_zero k)⟩
    · rw [f1.2.1 12 (by omega), rdI_wrI, if_neg (by omega), rdI_wrI, if_neg (by omega), rdI_wrI, if_neg (by omega), rdI_wrI, if_neg (by omega), rdI_wrI, if_pos ⟨rfl, rfl⟩]
    · rw [f1.2.1 19 (by omega), rdI_wrI, if_neg (by omega), rdI_wrI, if_pos ⟨rfl, rfl⟩]; rfl
    · rw [f1.2.1 13 (by omega), rdI_wrI, if_neg (by omega), rdI_wrI, if_neg (by omega), rdI_wrI, if_pos ⟨rfl, rfl⟩]; rfl
    · rw [f1.1 (r + 3) (by omega), rdI_wrI, if_neg (by omega), rdI_wrI, if_neg (by omega), rdI_wrI, if_neg (by omega), rdI_wrI, if_pos ⟨rfl, rfl⟩]; rfl
  obtain ⟨S2, x, e2, k2, f2⟩ := H.2 r T S1 vU hK d
  refine ⟨S2, x, ?_, k2, FrG_t fr (FrG_t (FrG_H f1) f2)⟩
  rw [show d + 13 = (d + 12) + 1 by omega, B_X8_readText, gd_p (show inb 0 13669 = true by decide), show ix 0 = 0 from rfl, e0, e681, a12, i27 (by omega), gd_t, ix_nI (by omega), e1', bV_s]
  exact e2
end DC_
