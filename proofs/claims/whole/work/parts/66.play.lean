/-! played by a text -/
def SmT (Z Z' : Zs) : Prop := Z'.2 = Z.2 ∧ Z'.1.2.2 = Z.1.2.2
theorem SmT_r (Z : Zs) : SmT Z Z := ⟨rfl, rfl⟩
theorem SmT_t {Z Z1 Z2 : Zs} (h : SmT Z Z1) (h2 : SmT Z1 Z2) : SmT Z Z2 := ⟨h2.1.trans h.1, h2.2.trans h.2⟩
theorem SmT_u (Z : Zs) (A : AS) (n : Nat) (St : Nat → AS) : SmT Z (zUp Z A n St) := ⟨rfl, rfl⟩
theorem SmT_T {Z Z' : Zs} (h : SmT Z Z') : zT Z' = zT Z := by unfold zT; rw [h.2]
theorem SmT_X {Z Z' : Zs} (h : SmT Z Z') : zTx Z' = zTx Z := by unfold zTx; rw [h.1]
theorem gi_s (Z : Zs) (a : Int32) : SmT Z (giV Z a).2 := by unfold giV; split <;> exact ⟨rfl, rfl⟩
theorem fr_s (Z : Zs) (a : Int32) : SmT Z (frZ Z a).2 := by unfold frZ; split <;> exact ⟨rfl, rfl⟩
theorem wr_s (Z : Zs) (a v : Int32) : SmT Z (wrZ Z a v).2 := by unfold wrZ; split <;> exact ⟨rfl, rfl⟩
theorem me_s (Z : Zs) (a b : Int32) : SmT Z (meZ Z a b).2 := by unfold meZ; split <;> exact ⟨rfl, rfl⟩
theorem co_s (Z : Zs) : SmT Z (coZ Z).2 := ⟨rfl, rfl⟩
theorem pdS_s (s : Zs × Nat) : SmT s.1 (pdS s).1 := by unfold pdS; split <;> exact ⟨rfl, rfl⟩
theorem pdN_s : ∀ (m : Nat) (s : Zs × Nat), SmT s.1 (pdN m s).1
  | 0, s => SmT_r s.1
  | m + 1, s => SmT_t (pdS_s s) (pdN_s m (pdS s))
/-- one clause: whether it can be, and what comes of it -/
def plC (kd f s : Nat) (Z : Zs) : Bool × Zs := if kd = 2 then (decide (¬ (giV Z (nI f)).1 = -1), (giV Z (nI f)).2) else if kd = 3 then (decide (¬ (frZ Z (nI f)).1 = -1), (frZ Z (nI f)).2) else if kd = 4 then (wrB Z (nI s) (nI f), (wrZ Z (nI s) (nI f)).2) else if kd = 5 then (decide (¬ (meZ Z (nI f) (nI s)).1 = -1), (meZ Z (nI f) (nI s)).2) else if kd = 6 then (true, (coZ Z).2) else if kd = 7 then (decide (dN Z + f ≤ 9999), (pdN f (Z, 0)).1) else (true, Z)
theorem plC_I {kd f s : Nat} {Z : Zs} (I : ZI Z) : ZI (plC kd f s Z).2 ∧ SmT Z (plC kd f s Z).2 := by
  unfold plC
  split
  · exact ⟨giV_I I _, gi_s Z _⟩
  · split
    · exact ⟨frZ_I I _, fr_s Z _⟩
    · split
      · exact ⟨wrZ_I I _ _, wr_s Z _ _⟩
      · split
        · exact ⟨meZ_I I _ _, me_s Z _ _⟩
        · split
          · exact ⟨coZ_I I, co_s Z⟩
          · split
            · exact ⟨pdN_I _ I, pdN_s f (Z, 0)⟩
            · exact ⟨I, SmT_r Z⟩
def plN (X : Tx) : Nat → Nat → Zs → Int32 × Zs
  | 0, _, Z => (-1, Z)
  | m + 1, k, Z => if (plC (X.2.1 k) (X.2.2.1 k) (X.2.2.2.1 k) Z).1 = true then plN X m (k + 1) (plC (X.2.1 k) (X.2.2.1 k) (X.2.2.2.1 k) Z).2 else (nI k, (plC (X.2.1 k) (X.2.2.1 k) (X.2.2.2.1 k) Z).2)
theorem plN_t {X : Tx} {m k : Nat} {Z : Zs} (h : (plC (X.2.1 k) (X.2.2.1 k) (X.2.2.2.1 k) Z).1 = true) : plN X (m + 1) k Z = plN X m (k + 1) (plC (X.2.1 k) (X.2.2.1 k) (X.2.2.2.1 k) Z).2 := if_pos h
theorem plN_f {X : Tx} {m k : Nat} {Z : Zs} (h : (plC (X.2.1 k) (X.2.2.1 k) (X.2.2.2.1 k) Z).1 = false) : plN X (m + 1) k Z = (nI k, (plC (X.2.1 k) (X.2.2.1 k) (X.2.2.2.1 k) Z).2) := if_neg (by rw [h]; exact Bool.false_ne_true)
theorem plN_I (X : Tx) : ∀ (m k : Nat) {Z : Zs}, ZI Z → ZI (plN X m k Z).2 ∧ SmT Z (plN X m k Z).2
  | 0, _, Z, I => ⟨I, SmT_r Z⟩
  | m + 1, k, Z, I => by
    obtain ⟨I1, s1⟩ := plC_I (kd := X.2.1 k) (f := X.2.2.1 k) (s := X.2.2.2.1 k) I
    cases h : (plC (X.2.1 k) (X.2.2.1 k) (X.2.2.2.1 k) Z).1
    · rw [plN_f h]; exact ⟨I1, s1⟩
    · rw [plN_t h]
      obtain ⟨I2, s2⟩ := plN_I X m (k + 1) I1
      exact ⟨I2, SmT_t s1 s2⟩
/-- answers are none or no less than 0 -/
theorem gi_v {Z : Zs} (I : ZI Z) (a : Int32) : (giV Z a).1 = -1 ∨ ∃ k, k < 2 ^ 31 ∧ (giV Z a).1 = nI k := by
  unfold giV
  by_cases h : inb a 1000 = true ∧ aRoom (zA Z) = true
  · rw [if_pos h]
    obtain ⟨h1, -, -, -, h5, -⟩ := gv_facts (zAI I) h.2
    exact Or.inr ⟨_, by omega, rfl⟩
  · rw [if_neg h]; exact Or.inl rfl
theorem fr_v {Z : Zs} (I : ZI Z) (a : Int32) : (frZ Z a).1 = -1 ∨ ∃ k, k < 2 ^ 31 ∧ (frZ Z a).1 = nI k := by
  unfold frZ
  by_cases h : rch Z a = true
  · rw [if_pos h]
    obtain ⟨q, f, hq, rfl, hf, ef, hg⟩ := reach_facts (zAI I) h
    obtain ⟨v, hv, e⟩ := frV_ok (zAI I) hf ef
    rw [ix_nI (by omega)]
    exact Or.inr ⟨v, by omega, e⟩
  · rw [if_neg h]; exact Or.inl rfl
theorem me_v {Z : Zs} (I : ZI Z) (a b : Int32) : (meZ Z a b).1 = -1 ∨ ∃ k, k < 2 ^ 31 ∧ (meZ Z a b).1 = nI k := by
  unfold meZ
  by_cases h : cnP Z a b = true
  · rw [if_pos h]
    obtain ⟨p, hp, e, -⟩ := bitc_ok (lvA_ok (zAI I) (goF (fO Z a) (fO Z b) (zA Z)))
    exact Or.inr ⟨p, by omega, e⟩
  · rw [if_neg h]; exact Or.inl rfl
theorem neg_m1 {v : Int32} (h : v = -1 ∨ ∃ k, k < 2 ^ 31 ∧ v = nI k) : (v < 0) ↔ v = -1 := by
  rcases h with h | ⟨k, hk, h⟩
  · rw [h]; exact ⟨fun _ => rfl, fun _ => by decide⟩
  · rw [h]; exact ⟨fun z => absurd z (nI_pos hk), fun z => absurd z (nI_m1 hk)⟩
theorem pl_c {x : Nat} (d j : Nat) (hj : j < 4) (X : Tx) : ∀ (m k : Nat) {S : Mem} {Z : Zs} (u1 u4 u5 u6 : AV), k + m = X.1 → zTx Z j = X → j < zT Z → ClR S x Z → ZI Z → OkC x S (ev (d + 10) 113 20 [vR 7 x, u1, vR 5 (x + 16 + 468 + 10 * j), vI (nI k), u4, u5, u6] [] S) (plN X m k Z).1 (plN X m k Z).2
  | 0, k, S, Z, u1, u4, u5, u6, hk, hX, hT, h, I => by
    have hx := h.2.2.1 j hT
    rw [hX] at hx
    have h24 : X.1 ≤ 24 := by have := (I.2.2.2.1 j hT).1; rw [hX] at this; exact this
    rw [B_X7_played_20, hx.1, if_pos (nI_le (by omega) (by omega))]
    exact OkC_0 h
  | m + 1, k, S, Z, u1, u4, u5, u6, hk, hX, hT, h, I => by
    have hx := h.2.2.1 j hT
    have hi := I.2.2.2.1 j hT
    rw [hX] at hx hi
    have h24 : X.1 ≤ 24 := hi.1
    obtain ⟨ek, ef, es⟩ := hx.2.1 k (by omega)
    obtain ⟨k7, i2', i3', i4', i5', i7'⟩ := hi.2 k (by omega)
    have ik : inb (nI k) 24 = true := inb_t (by omega) (by decide)
    obtain ⟨IC, sC⟩ := plC_I (kd := X.2.1 k) (f := X.2.2.1 k) (s := X.2.2.2.1 k) I
    have go_ : ∀ {S1 : Mem} {b : Bool} (v6 : AV) (o : Option Res), (plC (X.2.1 k) (X.2.2.1 k) (X.2.2.2.1 k) Z).1 = b → ClR S1 x (plC (X.2.1 k) (X.2.2.1 k) (X.2.2.2.1 k) Z).2 → FrX x S S1 → o = (if b = true then ev (d + 10) 113 20 [vR 7 x, vU, vR 5 (x + 16 + 468 + 10 * j), vI (nI (k + 1)), vU, vU, v6] [] S1 else some (some (vI (nI k)), S1)) → OkC x S o (plN X (m + 1) k Z).1 (plN X (m + 1) k Z).2 := by
      intro S1 b v6 o hb hc hf ho
      rw [ho]
      cases b
      · rw [if_neg Bool.false_ne_true, plN_f hb]; exact ⟨S1, rfl, hc, hf⟩
      · rw [if_pos rfl, plN_t hb]
        obtain ⟨S2, e2, h2, f2⟩ := pl_c d j hj X m (k + 1) vU vU vU v6 (by omega) (by rw [SmT_X sC]; exact hX) (by rw [SmT_T sC]; exact hT) hc IC
        exact ⟨S2, e2, h2, FrX_t hf f2⟩
    have hne : ∀ q : Nat, q < 2 ^ 31 → ¬ X.2.1 k = q → ¬ nI (X.2.1 k) = nI q := fun q hq z y => z ((nI_eq (by omega) hq).mp y)
    have heq : ∀ q : Nat, X.2.1 k = q → nI (X.2.1 k) = nI q := fun q z => by rw [z]
    rw [B_X7_played_20, hx.1, if_neg (nI_ge (show k < X.1 by omega) (by omega)), if_neg (show ¬ (24 : Int32) ≤ nI k from nI_ge (b := 24) (by omega) (by decide)), ik, gd_t, gd_t, gd_t, ix_nI (by omega), ek, ef, es, nI_1]
    unfold plC at go_
    by_cases z2 : X.2.1 k = 2
    · obtain ⟨S1, e1, h1, f1⟩ := gi_c h I (nI (X.2.2.1 k)) d
      rw [if_pos z2] at go_
      rw [if_pos (show nI (X.2.1 k) = 2 from heq 2 z2), e1, bI_s]
      by_cases y : (giV Z (nI (X.2.2.1 k))).1 = -1
      · exact go_ (vI 0) _ (decide_eq_false (not_not_intro y)) h1 f1 (by rw [if_pos y]; rfl)
      · exact go_ (vI 1) _ (decide_eq_true y) h1 f1 (by rw [if_neg y, if_neg (by decide), if_pos rfl])
    · rw [if_neg z2] at go_
      rw [if_neg (show ¬ nI (X.2.1 k) = 2 from hne 2 (by decide) z2)]
      by_cases z3 : X.2.1 k = 3
      · obtain ⟨S1, e1, h1, f1⟩ := fr_c h I (nI (X.2.2.1 k)) d
        rw [if_pos z3] at go_
        rw [if_pos (show nI (X.2.1 k) = 3 from heq 3 z3), e1, bI_s]
        by_cases y : (frZ Z (nI (X.2.2.1 k))).1 = -1
        · exact go_ (vI 0) _ (decide_eq_false (not_not_intro y)) h1 f1 (by rw [if_pos y]; rfl)
        · exact go_ (vI 1) _ (decide_eq_true y) h1 f1 (by rw [if_neg y, if_neg (by decide), if_pos rfl])
      · rw [if_neg z3] at go_
        rw [if_neg (show ¬ nI (X.2.1 k) = 3 from hne 3 (by decide) z3)]
        by_cases z4 : X.2.1 k = 4
        · obtain ⟨S1, e1, h1, f1⟩ := wr_c h I (nI (X.2.2.2.1 k)) (nI (X.2.2.1 k)) d
          rw [if_pos z4] at go_
          have ew : (wrZ Z (nI (X.2.2.2.1 k)) (nI (X.2.2.1 k))).1 = b2i (wrB Z (nI (X.2.2.2.1 k)) (nI (X.2.2.1 k))) := by
            unfold wrZ
            cases wrB Z (nI (X.2.2.2.1 k)) (nI (X.2.2.1 k))
            · rw [if_neg Bool.false_ne_true]; rfl
            · rw [if_pos rfl]; rfl
          rw [if_pos (show nI (X.2.1 k) = 4 from heq 4 z4), e1, bI_s, ew, ite_b0]
          refine go_ (vI (b2i (wrB Z (nI (X.2.2.2.1 k)) (nI (X.2.2.1 k))))) _ rfl h1 f1 ?_
          cases wrB Z (nI (X.2.2.2.1 k)) (nI (X.2.2.1 k)) <;> rfl
        · rw [if_neg z4] at go_
          rw [if_neg (show ¬ nI (X.2.1 k) = 4 from hne 4 (by decide) z4)]
          by_cases z5 : X.2.1 k = 5
          · obtain ⟨S1, e1, h1, f1⟩ := me_c h I (nI (X.2.2.1 k)) (nI (X.2.2.2.1 k)) d
            rw [if_pos z5] at go_
            rw [if_pos (show nI (X.2.1 k) = 5 from heq 5 z5), e1, bI_s]
            by_cases y : (meZ Z (nI (X.2.2.1 k)) (nI (X.2.2.2.1 k))).1 = -1
            · exact go_ (vI 0) _ (decide_eq_false (not_not_intro y)) h1 f1 (by rw [if_pos y]; rfl)
            · exact go_ (vI 1) _ (decide_eq_true y) h1 f1 (by rw [if_neg y, if_neg (by decide), if_pos rfl])
          · rw [if_neg z5] at go_
            rw [if_neg (show ¬ nI (X.2.1 k) = 5 from hne 5 (by decide) z5)]
            by_cases z6 : X.2.1 k = 6
            · obtain ⟨S1, e1, h1, f1⟩ := co_c h I d
              rw [if_pos z6] at go_
              rw [if_pos (show nI (X.2.1 k) = 6 from heq 6 z6), e1, bI_s]
              exact go_ (vI 1) _ rfl h1 f1 (by rw [if_neg (by decide), if_pos rfl])
            · rw [if_neg z6] at go_
              rw [if_neg (show ¬ nI (X.2.1 k) = 6 from hne 6 (by decide) z6)]
              by_cases z7 : X.2.1 k = 7
              · obtain ⟨f1', f2'⟩ := i7' z7
                obtain ⟨hd, ed⟩ := dN_e I
                obtain ⟨S1, e1, h1, f1⟩ := pd_c (x := x) d (X.2.2.1 k) f2' (X.2.2.1 k) 0 0 (Nat.zero_add _) (Nat.le_refl _) h I
                have e1' : cal (d + 9) 150 [vR 7 x, vI (nI (X.2.2.1 k))] S = some (some (vI (nI (pdN (X.2.2.1 k) (Z, 0)).2)), S1) := by rw [B_X7_passDays]; exact e1
                rw [if_pos z7] at go_
                rw [if_pos (show nI (X.2.1 k) = 7 from heq 7 z7), c0 (cA h) (by decide), ed, nI_add, e1', bI_s, bI_s]
                by_cases y : dN Z + X.2.2.1 k ≤ 9999
                · exact go_ (vI 1) _ (decide_eq_true y) h1 f1 (by rw [if_neg (show ¬ (9999 : Int32) < nI (dN Z + X.2.2.1 k) from nI_nlt (a := 9999) y (by decide)), if_neg (by decide), if_pos rfl])
                · exact go_ (vI 0) _ (decide_eq_false y) h1 f1 (by rw [if_pos (show (9999 : Int32) < nI (dN Z + X.2.2.1 k) from nI_lt (a := 9999) (by omega) (by omega)), if_pos rfl]; rfl)
              · rw [if_neg z7] at go_
                rw [if_neg (show ¬ nI (X.2.1 k) = 7 from hne 7 (by decide) z7)]
                exact go_ (vI 1) _ rfl h FrX_r (by rw [if_neg (by decide), if_pos rfl])
theorem pl_m {r : Nat} (d j : Nat) (hj : j < 4) (X : Tx) : ∀ (m k : Nat) {S : Mem} {Z : Zs}, k + m = X.1 → zTx Z j = X → j < zT Z → MoR S r Z → ZI Z → OkM r S (ev (d + 11) 271 21 [vR 8 r, vI (nI j), vI (nI k)] [] S) (plN X m k Z).1 (plN X m k Z).2
  | 0, k, S, Z, hk, hX, hT, h, I => by
    have hx := h.2.2.1 j hT
    rw [hX] at hx
    have h24 : X.1 ≤ 24 := by have := (I.2.2.2.1 j hT).1; rw [hX] at this; exact this
    rw [B_X8_played_21, e681, i27 (by omega), gd_t, ix_nI (by omega), hx.1, if_pos (nI_le (by omega) (by omega))]
    exact OkM_0 h
  | m + 1, k, S, Z, hk, hX, hT, h, I => by
    have hx := h.2.2.1 j hT
    have hi := I.2.2.2.1 j hT
    rw [hX] at hx hi
    have h24 : X.1 ≤ 24 := hi.1
    obtain ⟨ek, ef, es⟩ := hx.2.1 k (by omega)
    obtain ⟨k7, i2', i3', i4', i5', i7'⟩ := hi.2 k (by omega)
    obtain ⟨IC, sC⟩ := plC_I (kd := X.2.1 k) (f := X.2.2.1 k) (s := X.2.2.2.1 k) I
    have e1 : ((681 : Int32) * nI j + 1) + 3 * nI k = nI (681 * j + 1 + 3 * k) := by
      rw [e681, nI_1]
      show nI (681 * j + 1) + nI 3 * nI k = _
      rw [pk_mul, nI_add]
    have go_ : ∀ {S1 : Mem} {b : Bool}, (plC (X.2.1 k) (X.2.2.1 k) (X.2.2.2.1 k) Z).1 = b → MoR S1 r (plC (X.2.1 k) (X.2.2.1 k) (X.2.2.2.1 k) Z).2 → FrY r S S1 → cal (d + 10) 270 [vR 8 r, vI (nI (681 * j + 1 + 3 * k))] S = some (some (vI (b2i b)), S1) → OkM r S (ev (d + 11) 271 21 [vR 8 r, vI (nI j), vI (nI k)] [] S) (plN X (m + 1) k Z).1 (plN X (m + 1) k Z).2 := by
      intro S1 b hb hc hf ho
      rw [B_X8_played_21, e681, i27 (by omega), gd_t, ix_nI (by omega), hx.1, if_neg (nI_ge (show k < X.1 by omega) (by omega)), ← e681, e1, ho, bI_s, ite_b0]
      cases b
      · rw [if_pos rfl, plN_f hb]; exact ⟨S1, rfl, hc, hf⟩
      · rw [if_neg (by decide), plN_t hb, nI_1]
        obtain ⟨S2, e2, h2, f2⟩ := pl_m d j hj X m (k + 1) (by omega) (by rw [SmT_X sC]; exact hX) (by rw [SmT_T sC]; exact hT) hc IC
        exact ⟨S2, e2, h2, FrY_t hf f2⟩
    have hne : ∀ q : Nat, q < 2 ^ 31 → ¬ X.2.1 k = q → ¬ nI (X.2.1 k) = nI q := fun q hq z y => z ((nI_eq (by omega) hq).mp y)
    have heq : ∀ q : Nat, X.2.1 k = q → nI (X.2.1 k) = nI q := fun q z => by rw [z]
    have ek' : rdI S (r + 3) (681 * j + 1 + 3 * k) = nI (X.2.1 k) := ek
    have hd0 : cal (d + 10) 270 [vR 8 r, vI (nI (681 * j + 1 + 3 * k))] S = _ := B_X8_isPlayed (d + 9) r _ S
    rw [nI_1, show nI (681 * j + 1 + 3 * k) + 2 = nI (681 * j + 1 + 3 * k + 2) from nI_add _ 2, i27 (by omega), gd_t, i27 (by omega), gd_t, i27 (by omega), gd_t, ix_nI (by omega), ix_nI (by omega), ix_nI (by omega), ek'] at hd0
    unfold plC at go_
    by_cases z2 : X.2.1 k = 2
    · obtain ⟨S1, e1, h1, f1⟩ := gi_m h I (nI (X.2.2.1 k)) d
      rw [if_pos z2] at go_
      rw [if_pos (show nI (X.2.1 k) = 2 from heq 2 z2), ef (Or.inl z2), e1, bI_s] at hd0
      by_cases y : (giV Z (nI (X.2.2.1 k))).1 = -1
      · rw [if_pos ((neg_m1 (gi_v I _)).mpr y), gd_p isZ_0] at hd0
        exact go_ (decide_eq_false (not_not_intro y)) h1 f1 hd0
      · rw [if_neg (fun w => y ((neg_m1 (gi_v I _)).mp w)), gd_p isZ_1] at hd0
        exact go_ (decide_eq_true y) h1 f1 hd0
    · rw [if_neg z2] at go_
      rw [if_neg (show ¬ nI (X.2.1 k) = 2 from hne 2 (by decide) z2)] at hd0
      by_cases z3 : X.2.1 k = 3
      · obtain ⟨S1, e1, h1, f1⟩ := fr_m h I (nI (X.2.2.1 k)) d
        rw [if_pos z3] at go_
        rw [if_pos (show nI (X.2.1 k) = 3 from heq 3 z3), ef (Or.inr (Or.inl z3)), e1, bI_s] at hd0
        by_cases y : (frZ Z (nI (X.2.2.1 k))).1 = -1
        · rw [if_pos ((neg_m1 (fr_v I _)).mpr y), gd_p isZ_0] at hd0
          exact go_ (decide_eq_false (not_not_intro y)) h1 f1 hd0
        · rw [if_neg (fun w => y ((neg_m1 (fr_v I _)).mp w)), gd_p isZ_1] at hd0
          exact go_ (decide_eq_true y) h1 f1 hd0
      · rw [if_neg z3] at go_
        rw [if_neg (show ¬ nI (X.2.1 k) = 3 from hne 3 (by decide) z3)] at hd0
        by_cases z4 : X.2.1 k = 4
        · obtain ⟨S1, e1, h1, f1⟩ := wr_m h I (nI (X.2.2.2.1 k)) (nI (X.2.2.1 k)) d
          rw [if_pos z4] at go_
          have ew : (wrZ Z (nI (X.2.2.2.1 k)) (nI (X.2.2.1 k))).1 = b2i (wrB Z (nI (X.2.2.2.1 k)) (nI (X.2.2.1 k))) := by
            unfold wrZ
            cases wrB Z (nI (X.2.2.2.1 k)) (nI (X.2.2.1 k))
            · rw [if_neg Bool.false_ne_true]; rfl
            · rw [if_pos rfl]; rfl
          rw [if_pos (show nI (X.2.1 k) = 4 from heq 4 z4), ef (by omega), es (Or.inl z4), e1, bI_s, ew, gd_p (isZ_b _)] at hd0
          exact go_ rfl h1 f1 hd0
        · rw [if_neg z4] at go_
          rw [if_neg (show ¬ nI (X.2.1 k) = 4 from hne 4 (by decide) z4)] at hd0
          by_cases z5 : X.2.1 k = 5
          · obtain ⟨S1, e1, h1, f1⟩ := me_m h I (nI (X.2.2.1 k)) (nI (X.2.2.2.1 k)) d
            rw [if_pos z5] at go_
            rw [if_pos (show nI (X.2.1 k) = 5 from heq 5 z5), ef (by omega), es (Or.inr z5), e1, bI_s] at hd0
            by_cases y : (meZ Z (nI (X.2.2.1 k)) (nI (X.2.2.2.1 k))).1 = -1
            · rw [if_pos ((neg_m1 (me_v I _ _)).mpr y), gd_p isZ_0] at hd0
              exact go_ (decide_eq_false (not_not_intro y)) h1 f1 hd0
            · rw [if_neg (fun w => y ((neg_m1 (me_v I _ _)).mp w)), gd_p isZ_1] at hd0
              exact go_ (decide_eq_true y) h1 f1 hd0
          · rw [if_neg z5] at go_
            rw [if_neg (show ¬ nI (X.2.1 k) = 5 from hne 5 (by decide) z5)] at hd0
            by_cases z6 : X.2.1 k = 6
            · obtain ⟨S1, e1, h1, f1⟩ := co_m h I d
              have hc : ¬ (coZ Z).1 < 0 := by
                have key : ∀ (L : Nat → Option (Env → Int)) (f g : Nat) (s : CSt), (cS L f g s).2.2 ≤ s.2.2 + 1 := fun L f g s => by
                  unfold cS
                  split
                  · omega
                  · split
                    · exact Nat.le_refl _
                    · omega
                have k2 : ∀ (L : Nat → Option (Env → Int)) (R : Nat → Nat) (half i : Nat) (s : CSt) (n : Nat), (cJ L R half i n s).2.2 ≤ s.2.2 + n := fun L R half i s n => by
                  induction n with
                  | zero => exact Nat.le_refl _
                  | succ n ih => exact Nat.le_trans (key L _ _ (cJ L R half i n s)) (by omega)
                have k3 : ∀ (L : Nat → Option (Env → Int)) (R : Nat → Nat) (half : Nat) (s : CSt) (n : Nat), (cI L R half n s).2.2 ≤ s.2.2 + n * half := fun L R half s n => by
                  induction n with
                  | zero => exact Nat.le_add_right _ _
                  | succ n ih =>
                    have := k2 L R half n (cI L R half n s) half
                    have e : (n + 1) * half = n * half + half := Nat.succ_mul n half
                    exact Nat.le_trans this (by omega)
                have hp := prN_le (zL Z) (zA Z)
                have hN := rowN_2 (spB (zA Z)) 12
                have hb := k3 (zL Z) (cpR (zA Z)).2 ((rowN (spB (zA Z)) 12).2 / 2) ((cpR (zA Z)).1, (fun _ => false, 0)) (prN (zL Z) (zA Z))
                have hm : prN (zL Z) (zA Z) * ((rowN (spB (zA Z)) 12).2 / 2) ≤ 12 * 6 := Nat.mul_le_mul hp (by omega)
                have hb' : (cpC (zL Z) (zA Z)).2.2 ≤ 0 + prN (zL Z) (zA Z) * ((rowN (spB (zA Z)) 12).2 / 2) := hb
                exact nI_pos (by omega)
              rw [if_pos z6] at go_
              rw [if_pos (show nI (X.2.1 k) = 6 from heq 6 z6), e1, bI_s, if_neg hc, gd_p isZ_1] at hd0
              exact go_ rfl h1 f1 hd0
            · rw [if_neg z6] at go_
              rw [if_neg (show ¬ nI (X.2.1 k) = 6 from hne 6 (by decide) z6)] at hd0
              by_cases z7 : X.2.1 k = 7
              · obtain ⟨f1', f2'⟩ := i7' z7
                obtain ⟨S1, e1, h1, -, f1⟩ := ap_m h I f2' d
                rw [if_pos z7] at go_
                rw [if_pos (show nI (X.2.1 k) = 7 from heq 7 z7), ef (by omega), e1, bI_s, gd_p (isZ_b _)] at hd0
                exact go_ rfl h1 f1 hd0
              · rw [if_neg z7] at go_
                rw [if_neg (show ¬ nI (X.2.1 k) = 7 from hne 7 (by decide) z7), gd_p isZ_1] at hd0
                exact go_ rfl h FrY_r hd0
def plZ (Z : Zs) (a : Int32) : Int32 × Zs := if inb a (zT Z) = true then plN (zTx Z (ix a)) (zTx Z (ix a)).1 0 Z else (-2, Z)
theorem plZ_I {Z : Zs} (I : ZI Z) (a : Int32) : ZI (plZ Z a).2 := by
  unfold plZ
  split
  · exact (plN_I _ _ _ I).1
  · exact I
theorem plZ_c {S : Mem} {x : Nat} {Z : Zs} (h : ClR S x Z) (I : ZI Z) (a : Int32) (d : Nat) : OkC x S (cal (d + 10) 113 [vR 7 x, vI a] S) (plZ Z a).1 (plZ Z a).2 := by
  have ht : zT Z ≤ 4 := I.1.2.2.2.1
  rw [B_X7_played, isText_c h I, bI_s, ite_b0]
  unfold plZ
  cases ha : inb a (zT Z)
  · rw [if_pos rfl, if_neg Bool.false_ne_true]; exact OkC_0 h
  · obtain ⟨j, hj, rfl⟩ := inb_ex ha (by omega)
    rw [if_neg (by decide), inb_t (show j < 4 by omega) (by decide), gd_t, if_pos rfl, ix_nI (by omega)]
    exact pl_c d j (by omega) (zTx Z j) (zTx Z j).1 0 _ _ _ _ (Nat.zero_add _) rfl hj h I
theorem plZ_m {S : Mem} {r : Nat} {Z : Zs} (h : MoR S r Z) (I : ZI Z) (a : Int32) (d : Nat) : OkM r S (cal (d + 11) 271 [vR 8 r, vI a] S) (plZ Z a).1 (plZ Z a).2 := by
  have ht : zT Z ≤ 4 := I.1.2.2.2.1
  have e0 : rdI S (r + 1) 0 = nI (zT Z) := h.1.2.2.1
  have x0 : ix 0 = 0 := rfl
  have ein : (decide ((0 : Int32) ≤ a) && decide (a ≤ nI (zT Z) - 1)) = inb a (zT Z) := by
    rcases Nat.eq_zero_or_pos (zT Z) with z | z
    · rw [z]
      have hb : inb a 0 = false := by
        cases hb : inb a 0
        · rfl
        · obtain ⟨p, hp, -⟩ := inb_ex hb (by decide)
          exact absurd hp (Nat.not_lt_zero _)
      rw [hb]
      by_cases y : (0 : Int32) ≤ a
      · have y2 : ¬ a ≤ nI 0 - 1 := fun w => by
          have := Int32.le_trans y w
          exact absurd this (by decide)
        rw [decide_eq_false y2, Bool.and_false]
      · rw [decide_eq_false y, Bool.false_and]
    · rw [s1_sub z, isIn_inb (zT Z - 1) (by omega), show zT Z - 1 + 1 = zT Z by omega]
  rw [B_X8_played, gd_p (show inb 0 13669 = true by decide), x0, e0, sp_isIn, bI_s, ein, ite_b0]
  unfold plZ
  cases ha : inb a (zT Z)
  · rw [if_pos rfl, if_neg Bool.false_ne_true]; exact OkM_0 h
  · obtain ⟨j, hj, rfl⟩ := inb_ex ha (by omega)
    rw [if_neg (by decide), if_pos rfl, ix_nI (by omega)]
    exact pl_m d j (by omega) (zTx Z j) (zTx Z j).1 0 (Nat.zero_add _) rfl hj h I
