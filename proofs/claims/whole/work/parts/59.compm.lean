/-! the reference compacts -/
def FrN (r : Nat) (S S' : Mem) : Prop := (∀ c i, ¬ c = r + 6 → ¬ (c = r + 1 ∧ 4 ≤ i ∧ i < 444) → ¬ c = r + 8 → ¬ c = r + 9 → ¬ c = r + 10 → rdI S' c i = rdI S c i) ∧ S'.2.2 = S.2.2
theorem FrN_r {r : Nat} {S : Mem} : FrN r S S := ⟨fun _ _ _ _ _ _ _ => rfl, rfl⟩
theorem FrN_t {r : Nat} {S S1 S2 : Mem} (h : FrN r S S1) (h2 : FrN r S1 S2) : FrN r S S2 := ⟨fun c i a1 a2 a3 a4 a5 => (h2.1 c i a1 a2 a3 a4 a5).trans (h.1 c i a1 a2 a3 a4 a5), h2.2.trans h.2⟩
theorem FrN_M {r : Nat} {S S' : Mem} (h : FrM r S S') : FrN r S S' := ⟨fun c i a1 a2 a3 _ _ => h.1 c i a1 a2 a3, h.2⟩
theorem FrN_9 (r i : Nat) (v : Int32) (S : Mem) : FrN r S (wrI S (r + 9) i v) := ⟨fun c j _ _ _ h9 _ => by rw [rdI_wrI, if_neg (fun z => h9 z.1)], rfl⟩
theorem FrN_10 (r i : Nat) (v : Int32) (S : Mem) : FrN r S (wrI S (r + 10) i v) := ⟨fun c j _ _ _ _ h => by rw [rdI_wrI, if_neg (fun z => h z.1)], rfl⟩
theorem RM_N {S S' : Mem} {r l : Nat} {x : Int32} {o : Option (Env → Int)} (h : RM S r x l o) (f : FrN r S S') : RM S' r x l o := by
  have e : rdI S' (r + 3) = rdI S (r + 3) := funext fun i => f.1 (r + 3) i (by omega) (by omega) (by omega) (by omega) (by omega)
  rcases h with h | ⟨T, ex, hT, n, hn, en, hc⟩
  · exact Or.inl h
  · refine Or.inr ⟨T, ex, hT, n, hn, by rw [e]; exact en, ?_⟩
    unfold ClM AtR at hc ⊢
    rw [e]; exact hc
theorem tx_N {S S' : Mem} {r : Nat} (f : FrN r S S') : rdI S' (r + 1) 1 = rdI S (r + 1) 1 := f.1 (r + 1) 1 (by omega) (by omega) (by omega) (by omega) (by omega)
def RowM (S : Mem) (r : Nat) (R : Nat → Nat) (N : Nat) : Prop := ∀ i, i < N → rdI S (r + 9) i = nI (R i)
def FlM (S : Mem) (r : Nat) (D : Nat → Bool) : Prop := ∀ x, x < 12 → rdI S (r + 10) x = b2i (D x)
theorem RowM_M {S S' : Mem} {r N : Nat} {R : Nat → Nat} (h : RowM S r R N) (f : FrM r S S') : RowM S' r R N := fun i hi => by rw [f.1 (r + 9) i (by omega) (by omega) (by omega)]; exact h i hi
theorem FlM_M {S S' : Mem} {r : Nat} {D : Nat → Bool} (h : FlM S r D) (f : FrM r S S') : FlM S' r D := fun i hi => by rw [f.1 (r + 10) i (by omega) (by omega) (by omega)]; exact h i hi
theorem RP_o {S S' : Mem} {r : Nat} {A : AS} (h : RP S (r + 1) 4 A) (e : rdI S' (r + 1) = rdI S (r + 1)) : RP S' (r + 1) 4 A := by
  refine ⟨fun k i hk h3 hi => ?_, fun p i hp ho hi => ?_⟩
  · rw [e]; exact h.1 k i hk h3 hi
  · rw [e]; exact h.2 p i hp ho hi
theorem wr_o {S : Mem} {r k i : Nat} {v : Int32} (h : ¬ k = 1) : rdI (wrI S (r + k) i v) (r + 1) = rdI S (r + 1) := funext fun b => by rw [rdI_wrI, if_neg (by omega)]
theorem rl_m {r : Nat} {A : AS} (I : Inv A) (d : Nat) (pr : Int32) (u5 u6 u7 : AV) {S : Mem} (h : RP S (r + 1) 4 A) : ∀ n, n ≤ 12 → ∃ S' v5 v6 v7, ev (d + 1) 252 15 [vR 8 r, vI (aSparse A), vI pr, vI 0, vI 0, u5, u6, u7] [] S = ev (d + 1) 252 15 [vR 8 r, vI (aSparse A), vI pr, vI (nI (rowN (spB A) n).2), vI (nI n), v5, v6, v7] [] S' ∧ RP S' (r + 1) 4 A ∧ RowM S' r (rowN (spB A) n).1 (rowN (spB A) n).2 ∧ (∀ x, x < n → rdI S' (r + 10) x = 0) ∧ FrN r S S'
  | 0, _ => ⟨S, u5, u6, u7, rfl, h, fun i hi => absurd hi (Nat.not_lt_zero _), fun x hx => absurd hx (Nat.not_lt_zero _), FrN_r⟩
  | n + 1, hn => by
    obtain ⟨S1, v5, v6, v7, e1, h1, r1, z1, f1⟩ := rl_m I d pr u5 u6 u7 h n (by omega)
    obtain ⟨k, hk, ek, hb⟩ := spB_e I
    have hc := rowN_2 (spB A) n
    have hbit : (shrI (aSparse A) (nI n) &&& 1 = 1) ↔ spB A n = true := by
      rw [hb, ek, ← decide_eq_true_iff (p := shrI (nI k) (nI n) &&& 1 = 1), bit_1 (by omega) (by omega)]
    have h2 := RP_o h1 (wr_o (r := r) (k := 10) (i := n) (v := 0) (by decide))
    have z2 : ∀ x, x < n + 1 → rdI (wrI S1 (r + 10) n 0) (r + 10) x = 0 := fun x hx => by
      rw [rdI_wrI]
      by_cases e : x = n
      · rw [if_pos ⟨rfl, e⟩]
      · rw [if_neg (fun y => e y.2)]; exact z1 x (by omega)
    have r2 : RowM (wrI S1 (r + 10) n 0) r (rowN (spB A) n).1 (rowN (spB A) n).2 := fun i hi => by rw [rdI_wrI, if_neg (by omega)]; exact r1 i hi
    rw [e1, B_X8_compactNow_15, if_neg (n12 (by omega)), gd_p (by rw [i12 (by omega)]; rfl), ix_nI (by omega), sp_mhas, bI_s, ite_b0, nI_1]
    by_cases z : spB A n = true
    · rw [decide_eq_true (hbit.mpr z), if_neg (by decide), rowN_t z, i12 (by omega), gd_t, ix_nI (by omega), nI_1]
      refine ⟨_, vU, vU, vU, rfl, RP_o h2 (wr_o (by decide)), fun i hi => ?_, fun x hx => ?_, FrN_t (FrN_t f1 (FrN_10 r n 0 S1)) (FrN_9 r _ _ _)⟩
      · have hi : i < (rowN (spB A) n).2 + 1 := hi
        rw [rdI_wrI]
        show _ = nI (if i = (rowN (spB A) n).2 then n else (rowN (spB A) n).1 i)
        by_cases e : i = (rowN (spB A) n).2
        · rw [if_pos ⟨rfl, e⟩, if_pos e]
        · rw [if_neg (fun y => e y.2), if_neg e]; exact r2 i (by omega)
      · rw [rdI_wrI, if_neg (by omega)]; exact z2 x hx
    · rw [decide_eq_false (fun y => z (hbit.mp y)), if_pos rfl, rowN_f z]
      exact ⟨_, vU, vU, vU, rfl, h2, r2, z2, FrN_t f1 (FrN_10 r n 0 S1)⟩
theorem rsh_m {r : Nat} (d N : Nat) (hN : N ≤ 12) (c pr : Int32) : ∀ (k : Nat), k < N ∨ k = 0 → ∀ (u1 u5 u6 u7 : AV) {S : Mem} {A : AS} {R : Nat → Nat}, RP S (r + 1) 4 A → XOK A → RowM S r R N → FlM S r (fun _ => false) → ∃ S' v1 v5 v6 v7, ev (d + 2) 252 64 [vR 8 r, u1, vI pr, vI c, vI (nI k), u5, u6, u7] [] S = ev (d + 2) 252 64 [vR 8 r, v1, vI pr, vI c, vI (nI 0), v5, v6, v7] [] S' ∧ RP S' (r + 1) 4 (shR k (A, R)).1 ∧ RowM S' r (shR k (A, R)).2 N ∧ FlM S' r (fun _ => false) ∧ FrN r S S' := by
  intro k
  induction k with
  | zero => intro _ u1 u5 u6 u7 S A R h _ hR hF; exact ⟨S, u1, u5, u6, u7, rfl, h, hR, hF, FrN_r⟩
  | succ k ih =>
    intro hk u1 u5 u6 u7 S A R h hX hR hF
    obtain ⟨S1, e1, h1, f1, g1⟩ := dr_m h hX d (n := k + 2) (by omega) (by omega)
    have hm : xA A % (k + 2) < k + 2 := Nat.mod_lt _ (by omega)
    have hR1 := RowM_M hR f1
    have hF1 := FlM_M hF f1
    have hsh : shR (k + 1) (A, R) = shR k (aDr A, swR R (k + 1) (xA A % (k + 2))) := rfl
    rw [hsh]
    generalize hI : xA A % (k + 2) = o at e1 hm
    rw [B_X8_compactNow_64, if_neg (nI_nle (by omega) (by omega)), nI_1, e1, bI_s, i12 (by omega), gd_t, i12 (by omega), gd_t, gd_t, gd_t, x12 (by omega), x12 (by omega), pk_m1, hR1 (k + 1) (by omega), hR1 o (by omega)]
    have h2 := RP_o h1 (S' := wrI (wrI S1 (r + 9) (k + 1) (nI (R o))) (r + 9) o (nI (R (k + 1)))) (by rw [wr_o (by decide), wr_o (by decide)])
    have hR2 : RowM (wrI (wrI S1 (r + 9) (k + 1) (nI (R o))) (r + 9) o (nI (R (k + 1)))) r (swR R (k + 1) o) N := fun i hi => by
      rw [rdI_wrI, rdI_wrI]
      unfold swR
      by_cases e : i = o
      · rw [if_pos ⟨rfl, e⟩, if_pos e]
      · rw [if_neg (fun y => e y.2), if_neg e]
        by_cases e2 : i = k + 1
        · rw [if_pos ⟨rfl, e2⟩, if_pos e2]
        · rw [if_neg (fun y => e2 y.2), if_neg e2]; exact hR1 i hi
    have hF2 : FlM (wrI (wrI S1 (r + 9) (k + 1) (nI (R o))) (r + 9) o (nI (R (k + 1)))) r (fun _ => false) := fun x hx => by
      rw [rdI_wrI, if_neg (by omega), rdI_wrI, if_neg (by omega)]; exact hF1 x hx
    obtain ⟨S', v1, v5, v6, v7, e', h', r', l', f'⟩ := ih (by omega) vU (vI (nI o)) (vI (nI (R (k + 1)))) vU h2 (aDr_X A) hR2 hF2
    exact ⟨S', v1, v5, v6, v7, e', h', r', l', FrN_t (FrN_t (FrN_t (FrN_M f1) (FrN_9 r _ _ _)) (FrN_9 r _ _ _)) f'⟩
/-- the lowest bit, by asking each -/
theorem lowBit_m (d : Nat) {b p : Nat} (hb : b < 65536) (hp : p < 16) (h1 : b.testBit p = true) (h0 : ∀ j, j < p → b.testBit j = false) (S : Mem) : cal (d + 1) 250 [vI (nI b)] S = some (some (vI (nI p)), S) := by
  have key : ∀ j, j ≤ p → ev (d + 1) 250 2 [vI (nI b), vI 0] [] S = ev (d + 1) 250 2 [vI (nI b), vI (nI j)] [] S := by
    intro j
    induction j with
    | zero => intro _; rfl
    | succ j ih =>
      intro hj
      rw [ih (by omega), B_X8_lowestBit_2, sp_mhas, bI_s, ite_b0, bit_1 (by omega) (by omega), h0 j (by omega), if_pos rfl, nI_1]
  rw [B_X8_lowestBit, key p (Nat.le_refl _), B_X8_lowestBit_2, sp_mhas, bI_s, ite_b0, bit_1 (by omega) hp, h1, if_neg (by decide)]
theorem lowIn_m {S : Mem} {r : Nat} {A : AS} (h : RP S (r + 1) 4 A) (d : Nat) {f : Nat} (hf : f < 12) (hu : mUsed (A 1) (nI f) = true) (k : Int32 → Mem → Option Res) : bI (cal (d + 1) 165 [vR 8 r, vI (nI f)] S) (fun x S1 => bI (cal (d + 1) 250 [vI x] S1) k) = k (nI (lowP A f)) S := by
  obtain ⟨p1, p2, p3⟩ := low_ok hu
  obtain ⟨-, -, -, p4⟩ := ffind_some p3
  have hb := bs_lt (fun p => decide (A 1 p = nI f)) (N := 12) (by decide)
  rw [km_pagesIn h (d + 1) (nI_m1 (by omega)), bI_s, pages_bs _ (nI_m1 (by omega)), lowBit_m d (p := lowP A f) hb (by omega) (by rw [bsN_t, decide_eq_true p1, Bool.true_and]; exact decide_eq_true p2) (fun j hj => by rw [bsN_t, p4 j (Nat.zero_le _) hj, Bool.and_false]), bI_s]
def CmM (L : Nat → Option (Env → Int)) (r : Nat) (R : Nat → Nat) (N : Nat) (S : Mem) (s : CSt) : Prop := RP S (r + 1) 4 s.1 ∧ RM S r (rdI S (r + 1) 1) 0 (L 0) ∧ RowM S r R N ∧ FlM S r s.2.1 ∧ CIv R N s
theorem hinA_lt (L : Nat → Option (Env → Int)) (A : AS) (p q : Nat) : hinA L A p q < 2 ^ 31 := by
  unfold hinA
  split
  · decide
  · split
    · decide
    · split
      · decide
      · split
        · split <;> decide
        · decide
theorem pair_m {L : Nat → Option (Env → Int)} {r : Nat} {R : Nat → Nat} {N : Nat} {S : Mem} {s : CSt} (H : CmM L r R N S s) {a b : Nat} (ha : a < N) (hb : b < N) (d : Nat) : ∃ S', cal (d + 6) 251 [vR 8 r, vI (nI (R a)), vI (nI (R b))] S = some (some (vI (nI ((cS L (R a) (R b) s).2.2 - s.2.2))), S') ∧ ((cS L (R a) (R b) s).2.2 = s.2.2 ∨ (cS L (R a) (R b) s).2.2 = s.2.2 + 1) ∧ CmM L r R N S' (cS L (R a) (R b) s) ∧ FrN r S S' := by
  obtain ⟨h, hL, hR, hF, hV⟩ := H
  have I := hV.1
  have hV' := cS_Iv (L := L) hV ha hb
  obtain ⟨f12, fu⟩ := hV.2 a ha
  obtain ⟨g12, gu⟩ := hV.2 b hb
  generalize hf : R a = f at f12 fu hV' ⊢
  generalize hg : R b = g at g12 gu hV' ⊢
  rw [B_X8_isPairMeshed, i12 f12, gd_t, x12 f12, hF f f12, i12 g12, gd_t, x12 g12, hF g g12, ite_b0, ite_b0]
  unfold cS at hV' ⊢
  cases d1 : s.2.1 f
  · cases d2 : s.2.1 g
    · rw [d1, d2] at hV'
      rw [if_pos rfl, if_pos rfl, if_neg (show ¬ (false || false) = true by decide)]
      rw [if_neg (show ¬ (false || false) = true by decide)] at hV'
      rw [lowIn_m h (d + 4) f12 (fu d1), lowIn_m h (d + 4) g12 (gu d2)]
      obtain ⟨p1, p2, p3⟩ := low_ok (fu d1)
      obtain ⟨q1, q2, q3⟩ := low_ok (gu d2)
      obtain ⟨S1, e1, f1⟩ := can_m (L := L) h I hL p1 q1 d
      have h1 := RP_L h f1
      have n1 := FrN_M (FrL_M f1)
      have hL1 : RM S1 r (rdI S1 (r + 1) 1) 0 (L 0) := by rw [tx_N n1]; exact RM_N hL n1
      by_cases hz : hinA L s.1 (lowP s.1 f) (lowP s.1 g) = 0
      · rw [if_pos hz] at hV'
        rw [hz] at e1
        obtain ⟨S2, e2, h2, f2⟩ := mesh_m h1 I (d + 3) f12 g12
        have n2 := FrN_M f2
        have e2' : cal (d + 5) 244 [vR 8 r, vI (nI f), vI (nI g)] S1 = some (some (vI (bitc (lvA s.1 (goF f g s.1)))), S2) := e2
        have g9 : (true && isZ 1) = true := by decide
        rw [e1, bI_s, if_pos (show nI 0 = 0 from rfl), e2', bI_s, gd_p g9, gd_p g9, gd_p isZ_1, if_pos hz]
        have n3 := FrN_t (FrN_t n1 n2) (FrN_t (FrN_10 r f 1 S2) (FrN_10 r g 1 _))
        refine ⟨_, ?_, Or.inr rfl, ⟨RP_o h2 (by rw [wr_o (by decide), wr_o (by decide)]), by rw [tx_N n3]; exact RM_N hL n3, fun i hi => ?_, fun x hx => ?_, hV'⟩, n3⟩
        · show some (some (vI 1), _) = some (some (vI (nI (s.2.2 + 1 - s.2.2))), _)
          rw [show s.2.2 + 1 - s.2.2 = 1 by omega]; rfl
        · rw [rdI_wrI, if_neg (by omega), rdI_wrI, if_neg (by omega)]
          exact RowM_M (RowM_M hR (FrL_M f1)) f2 i hi
        · show rdI _ _ _ = b2i (s.2.1 x || decide (x = f) || decide (x = g))
          rw [rdI_wrI, rdI_wrI]
          by_cases e2 : x = g
          · rw [if_pos ⟨rfl, e2⟩, decide_eq_true e2, Bool.or_true]; rfl
          · rw [if_neg (fun y => e2 y.2), decide_eq_false e2, Bool.or_false]
            by_cases e1 : x = f
            · rw [if_pos ⟨rfl, e1⟩, decide_eq_true e1, Bool.or_true]; rfl
            · rw [if_neg (fun y => e1 y.2), decide_eq_false e1, Bool.or_false]
              exact FlM_M (FlM_M hF (FrL_M f1)) f2 x hx
      · rw [if_neg hz] at hV'
        have hz' : ¬ nI (hinA L s.1 (lowP s.1 f) (lowP s.1 g)) = 0 := fun z => hz ((nI_eq (b := 0) (hinA_lt L _ _ _) (by decide)).mp z)
        rw [e1, bI_s, if_neg hz', gd_p isZ_0, if_neg hz]
        refine ⟨S1, ?_, Or.inl rfl, ⟨h1, hL1, RowM_M hR (FrL_M f1), FlM_M hF (FrL_M f1), hV'⟩, n1⟩
        rw [Nat.sub_self]; rfl
    · rw [d1, d2] at hV'
      rw [if_pos rfl, if_neg (by decide), gd_p isZ_0, if_pos (show (false || true) = true by decide)]
      rw [if_pos (show (false || true) = true by decide)] at hV'
      refine ⟨S, ?_, Or.inl rfl, ⟨h, hL, hR, hF, hV'⟩, FrN_r⟩
      rw [Nat.sub_self]; rfl
  · rw [d1, Bool.true_or] at hV'
    rw [if_neg (by decide), gd_p isZ_0, Bool.true_or, if_pos rfl]
    rw [if_pos rfl] at hV'
    refine ⟨S, ?_, Or.inl rfl, ⟨h, hL, hR, hF, hV'⟩, FrN_r⟩
    rw [Nat.sub_self]; rfl
noncomputable def m142 (d r : Nat) (pr : Int32) (half n i j : Nat) (u1 u3 : AV) (S : Mem) : Option Res := ev (d + 7) 252 142 [vR 8 r, u1, vI pr, u3, vI (nI half), vI (nI n), vI (nI i), vI (nI j)] [] S
noncomputable def m128 (d r : Nat) (pr : Int32) (half n i : Nat) (u1 u3 u7 : AV) (S : Mem) : Option Res := ev (d + 7) 252 128 [vR 8 r, u1, vI pr, u3, vI (nI half), vI (nI n), vI (nI i), u7] [] S
theorem cj_m {L : Nat → Option (Env → Int)} {r : Nat} {R : Nat → Nat} {N : Nat} (hN : N ≤ 12) {half : Nat} (hh : 2 * half ≤ N) (d : Nat) (pr : Int32) {i : Nat} (hi : i < 1000) (u1 u3 : AV) {S : Mem} {s : CSt} (H : CmM L r R N S s) : ∀ n, n ≤ half → ∃ S' v1 v3, m142 d r pr half s.2.2 i 0 u1 u3 S = m142 d r pr half (cJ L R half i n s).2.2 i n v1 v3 S' ∧ CmM L r R N S' (cJ L R half i n s) ∧ FrN r S S'
  | 0, _ => ⟨S, u1, u3, rfl, H, FrN_r⟩
  | n + 1, hn => by
    obtain ⟨S1, v1, v3, e1, H1, f1⟩ := cj_m hN hh d pr hi u1 u3 H n (by omega)
    have hm : (n + i) % half < half := Nat.mod_lt _ (by omega)
    have eo : nI half + remI (nI n + nI i) (nI half) = nI (half + (n + i) % half) := by
      have : remI (nI (n + i)) (nI half) = nI ((n + i) % half) := pk_rem (by omega) (by omega) (by omega)
      rw [nI_add, this, nI_add]
    obtain ⟨S2, e2, hc, H2, f2⟩ := pair_m H1 (a := n) (b := half + (n + i) % half) (by omega) (by omega) d
    refine ⟨S2, vU, vU, e1.trans ?_, H2, FrN_t f1 f2⟩
    have er := H1.2.2.1 n (by omega)
    have eq := H1.2.2.1 (half + (n + i) % half) (by omega)
    show m142 d r pr half _ i n v1 v3 S1 = m142 d r pr half (cS L (R n) (R (half + (n + i) % half)) (cJ L R half i n s)).2.2 i (n + 1) vU vU S2
    unfold m142
    rw [B_X8_compactNow_142, if_neg (nI_ge (show n < half by omega) (by omega)), i12 (by omega), gd_t, gd_p (nz_h (by omega) (by omega)), eo, i12 (by omega), gd_t, x12 (by omega), x12 (by omega), er, eq, e2, bI_s, nI_1, nI_1]
    rcases hc with hc | hc
    · rw [hc, Nat.sub_self, if_pos (show nI 0 = 0 from rfl), add0]
    · rw [hc, show (cJ L R half i n s).2.2 + 1 - (cJ L R half i n s).2.2 = 1 by omega, if_neg (show ¬ nI 1 = 0 by decide)]
theorem ci_m {L : Nat → Option (Env → Int)} {r : Nat} {R : Nat → Nat} {N : Nat} (hN : N ≤ 12) {half : Nat} (h0 : 0 < half) (hh : 2 * half ≤ N) (d : Nat) {pr : Nat} (hpr : pr ≤ 12) (u1 u3 u7 : AV) {S : Mem} {s : CSt} (H : CmM L r R N S s) : ∀ n, n ≤ pr → ∃ S' v1 v3 v7, m128 d r (nI pr) half s.2.2 0 u1 u3 u7 S = m128 d r (nI pr) half (cI L R half n s).2.2 n v1 v3 v7 S' ∧ CmM L r R N S' (cI L R half n s) ∧ FrN r S S'
  | 0, _ => ⟨S, u1, u3, u7, rfl, H, FrN_r⟩
  | n + 1, hn => by
    obtain ⟨S1, v1, v3, v7, e1, H1, f1⟩ := ci_m hN h0 hh d hpr u1 u3 u7 H n (by omega)
    obtain ⟨S2, w1, w3, e2, H2, f2⟩ := cj_m hN hh d (nI pr) (i := n) (by omega) vU vU H1 half (Nat.le_refl _)
    refine ⟨S2, vU, vU, vI (nI half), e1.trans ?_, H2, FrN_t f1 f2⟩
    have e3 : m128 d r (nI pr) half (cI L R half n s).2.2 n v1 v3 v7 S1 = m142 d r (nI pr) half (cI L R half n s).2.2 n 0 vU vU S1 := by
      unfold m128 m142
      rw [B_X8_compactNow_128, if_neg (nI_ge (show n < pr by omega) (by omega)), if_neg (nI_nle h0 (by omega))]; rfl
    rw [e3, e2]
    unfold m142 m128
    rw [B_X8_compactNow_142, if_pos (nI_le (Nat.le_refl _) (by omega)), nI_1]; rfl
theorem cI_0 (L : Nat → Option (Env → Int)) (R : Nat → Nat) (s : CSt) : ∀ n, cI L R 0 n s = s
  | 0 => rfl
  | n + 1 => cI_0 L R s n
theorem comp_m {S : Mem} {r : Nat} {A : AS} {L : Nat → Option (Env → Int)} (h : RP S (r + 1) 4 A) (I : Inv A) (hL0 : RM S r (rdI S (r + 1) 1) 0 (L 0)) (hL1 : RM S r (rdI S (r + 1) 1) 1 (L 1)) (d : Nat) : ∃ S', cal (d + 7) 252 [vR 8 r] S = some (some (vI (nI (cpC L A).2.2)), S') ∧ RP S' (r + 1) 4 (cpC L A).1 ∧ FrN r S S' := by
  obtain ⟨S1, e1, f1⟩ := probes_m (L := L) h I hL1 (d + 3)
  have h1 := RP_L h f1
  have n1 := FrN_M (FrL_M f1)
  obtain ⟨S2, v5, v6, v7, e2, h2, r2, z2, f2⟩ := rl_m I (d + 6) (nI (prN L A)) vU vU vU h1 12 (Nat.le_refl _)
  have hN := rowN_2 (spB A) 12
  have hp := prN_le L A
  obtain ⟨S3, w1, w5, w6, w7, e3, h3, r3, l3, f3⟩ := rsh_m (d + 5) _ hN (nI (rowN (spB A) 12).2) (nI (prN L A)) ((rowN (spB A) 12).2 - 1) (by omega) (vI (aSparse A)) vU vU vU h2 (iX I) r2 (fun x hx => z2 x hx)
  have n3 := FrN_t (FrN_t n1 f2) f3
  have ediv : nI (rowN (spB A) 12).2 / 2 = nI ((rowN (spB A) 12).2 / 2) := pk_div (d := 2) (by omega) (by decide) (by decide)
  have H : CmM L r (cpR A).2 (rowN (spB A) 12).2 S3 ((cpR A).1, (fun _ => false, 0)) := ⟨h3, by rw [tx_N n3]; exact RM_N hL0 n3, r3, l3, cp_Iv A I⟩
  have ehead : cal (d + 7) 252 [vR 8 r] S = m128 d r (nI (prN L A)) ((rowN (spB A) 12).2 / 2) 0 0 vU (vI (nI (rowN (spB A) 12).2)) vU S3 ∨ True := Or.inr trivial
  rw [B_X8_compactNow, km_sparse h I (d + 4), bI_s, e1, bI_s, e2, B_X8_compactNow_15, if_pos y12]
  have e4 : ∀ (v1 v5 v6 v7 : AV) (k : Int32), k ≤ 0 → ∀ S : Mem, ∃ x1 x3 x7, ev (d + 7) 252 64 [vR 8 r, v1, vI (nI (prN L A)), vI (nI (rowN (spB A) 12).2), vI k, v5, v6, v7] [] S = m128 d r (nI (prN L A)) ((rowN (spB A) 12).2 / 2) 0 0 x1 x3 x7 S := fun v1 v5 v6 v7 k hk S => ⟨vU, vI (nI (rowN (spB A) 12).2), vU, by
    rw [B_X8_compactNow_64, if_pos hk, gd_p (show nz 2 = true by decide), ediv]; rfl⟩
  have e5 : ∃ x1 x3 x7, ev (d + 7) 252 64 [vR 8 r, vI (aSparse A), vI (nI (prN L A)), vI (nI (rowN (spB A) 12).2), vI (nI (rowN (spB A) 12).2 - 1), vU, vU, vU] [] S2 = m128 d r (nI (prN L A)) ((rowN (spB A) 12).2 / 2) 0 0 x1 x3 x7 S3 := by
    by_cases z : (rowN (spB A) 12).2 = 0
    · have eS : S3 = S2 := by
        have e3' := e3
        rw [z] at e3'
        obtain ⟨x1, x3, x7, y⟩ := e4 (vI (aSparse A)) vU vU vU (nI 0) (by decide) S2
        obtain ⟨t1, t3, t7, y'⟩ := e4 w1 w5 w6 w7 (nI 0) (by decide) S3
        rw [z] at y y'
        have q := y.symm.trans (e3'.trans y')
        unfold m128 at q
        rw [B_X8_compactNow_128, B_X8_compactNow_128] at q
        by_cases zp : nI (prN L A) ≤ nI 0
        · rw [if_pos zp, if_pos zp] at q
          exact (congrArg (fun o : Option Res => o.elim S2 (fun p => p.2)) q).symm
        · rw [if_neg zp, if_neg zp, if_pos (show nI (0 / 2) ≤ 0 by decide), if_pos (show nI (0 / 2) ≤ 0 by decide)] at q
          exact (congrArg (fun o : Option Res => o.elim S2 (fun p => p.2)) q).symm
      rw [eS]
      have hk : nI (rowN (spB A) 12).2 - 1 ≤ 0 := by rw [z]; decide
      exact e4 _ _ _ _ _ hk S2
    · have e3' : ev (d + 7) 252 64 [vR 8 r, vI (aSparse A), vI (nI (prN L A)), vI (nI (rowN (spB A) 12).2), vI (nI (rowN (spB A) 12).2 - 1), vU, vU, vU] [] S2 = ev (d + 7) 252 64 [vR 8 r, w1, vI (nI (prN L A)), vI (nI (rowN (spB A) 12).2), vI (nI 0), w5, w6, w7] [] S3 := by
        rw [s1_sub (by omega)]; exact e3
      obtain ⟨x1, x3, x7, y⟩ := e4 w1 w5 w6 w7 (nI 0) (by decide) S3
      exact ⟨x1, x3, x7, e3'.trans y⟩
  obtain ⟨x1, x3, x7, e5⟩ := e5
  by_cases z : (rowN (spB A) 12).2 / 2 = 0
  · have ec : cpC L A = ((cpR A).1, (fun _ => false, 0)) := by
      unfold cpC
      rw [z, cI_0]
    refine ⟨S3, ?_, by rw [ec]; exact h3, n3⟩
    refine e5.trans ?_
    unfold m128
    rw [B_X8_compactNow_128, ec, z]
    by_cases zp : nI (prN L A) ≤ nI 0
    · rw [if_pos zp]
    · rw [if_neg zp, if_pos (show nI 0 ≤ 0 by decide)]
  · obtain ⟨S4, y1, y3, y7, e6, H6, f6⟩ := ci_m hN (half := (rowN (spB A) 12).2 / 2) (by omega) (by omega) d hp x1 x3 x7 H (prN L A) (Nat.le_refl _)
    refine ⟨S4, ?_, H6.1, FrN_t n3 f6⟩
    refine e5.trans (e6.trans ?_)
    unfold m128
    rw [B_X8_compactNow_128, if_pos (nI_le (Nat.le_refl _) (by omega))]
    rfl
