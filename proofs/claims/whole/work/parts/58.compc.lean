/-! the class compacts -/
def FrK (t τ : Nat) (S S' : Mem) : Prop := (∀ c, ¬ (t ≤ c ∧ c < t + 7) → ¬ c = τ + 8 → ¬ c = τ + 9 → rdI S' c = rdI S c) ∧ S'.2 = S.2
theorem FrK_r {t τ : Nat} {S : Mem} : FrK t τ S S := ⟨fun _ _ _ _ => rfl, rfl⟩
theorem FrK_t {t τ : Nat} {S S1 S2 : Mem} (h : FrK t τ S S1) (h2 : FrK t τ S1 S2) : FrK t τ S S2 := ⟨fun c c1 c2 c3 => (h2.1 c c1 c2 c3).trans (h.1 c c1 c2 c3), h2.2.trans h.2⟩
theorem FrK_C {t : Nat} (τ : Nat) {S S' : Mem} (h : FrC t S S') : FrK t τ S S' := ⟨fun c c1 _ _ => h.1 c (by omega), h.2⟩
theorem FrK_T (t : Nat) {τ : Nat} {S S' : Mem} (h : FrT τ S S') : FrK t τ S S' := ⟨fun c _ c2 c3 => h.1 c c2 c3, h.2⟩
theorem FrK_w (t τ i : Nat) (v : Int32) (S : Mem) : FrK t τ S (wrI S (t + 6) i v) := ⟨fun c c1 _ _ => funext fun b => by rw [rdI_wrI, if_neg (fun z => c1 (by omega))], rfl⟩
theorem LC_k {S S' : Mem} {τ l : Nat} {o : Option (Env → Int)} (h : LC S τ l o) (e : ∀ c, τ + 4 ≤ c → c ≤ τ + 7 → rdI S' c = rdI S c) : LC S' τ l o := by
  cases o with
  | none =>
    obtain ⟨i, j, hi, hj, e4, e5, hji⟩ := h
    exact ⟨i, j, hi, hj, by rw [e _ (by omega) (by omega)]; exact e4, by rw [e _ (by omega) (by omega)]; exact e5, hji⟩
  | some v =>
    obtain ⟨i, j, cd, nb, hij, hj, e4, e5, ha, hC⟩ := h
    exact ⟨i, j, cd, nb, hij, hj, by rw [e _ (by omega) (by omega)]; exact e4, by rw [e _ (by omega) (by omega)]; exact e5, fun x h1 h2 => by rw [e _ (by omega) (by omega), e _ (by omega) (by omega)]; exact ha x h1 h2, hC⟩
theorem LC_K {S S' : Mem} {t τ l : Nat} {o : Option (Env → Int)} (h : LC S τ l o) (hd : τ + 9 < t ∨ t + 7 ≤ τ) (f : FrK t τ S S') : LC S' τ l o := LC_k h (fun c h1 h2 => f.1 c (by omega) (by omega) (by omega))
def RowC (S : Mem) (t : Nat) (R : Nat → Nat) (N : Nat) : Prop := ∀ i, i < N → rdI S (t + 6) i = nI (R i)
theorem RowC_k {S S' : Mem} {t N : Nat} {R : Nat → Nat} (h : RowC S t R N) (e : rdI S' (t + 6) = rdI S (t + 6)) : RowC S' t R N := fun i hi => by rw [e]; exact h i hi
theorem CP_6 {S : Mem} {t : Nat} {A : AS} (h : CP S t A) (i : Nat) (v : Int32) : CP (wrI S (t + 6) i v) t A := by
  refine ⟨fun k j hk hj => ?_, ?_⟩
  · rw [rdI_wrI, if_neg (by omega)]; exact h.1 k j hk hj
  · have e : rdI (wrI S (t + 6) i v) (t + 5) = rdI S (t + 5) := funext fun b => by rw [rdI_wrI, if_neg (by omega)]
    rw [e]; exact h.2
theorem spB_e {A : AS} (I : Inv A) : ∃ k, k < 65536 ∧ aSparse A = nI k ∧ ∀ f, spB A f = k.testBit f := by
  obtain ⟨k, hk, e⟩ := aSparse_ok I
  refine ⟨k, hk, e, fun f => ?_⟩
  unfold spB
  rw [e, ix_nI (by omega)]
theorem rowN_t {c : Nat → Bool} {n : Nat} (h : c n = true) : rowN c (n + 1) = (fun i => if i = (rowN c n).2 then n else (rowN c n).1 i, (rowN c n).2 + 1) := if_pos h
theorem rowN_f {c : Nat → Bool} {n : Nat} (h : ¬ c n = true) : rowN c (n + 1) = rowN c n := if_neg h
theorem dsl_c {t : Nat} {A : AS} (I : Inv A) (d : Nat) (u4 u5 : AV) {S : Mem} (h : CP S t A) : ∀ n, n ≤ 12 → ∃ S' v4 v5, ev (d + 1) 41 9 [vR 1 t, vI (aSparse A), vI 0, vI 0, u4, u5] [] S = ev (d + 1) 41 9 [vR 1 t, vI (aSparse A), vI (nI (rowN (spB A) n).2), vI (nI n), v4, v5] [] S' ∧ CP S' t A ∧ RowC S' t (rowN (spB A) n).1 (rowN (spB A) n).2 ∧ (∀ c, ¬ c = t + 6 → rdI S' c = rdI S c) ∧ S'.2 = S.2
  | 0, _ => ⟨S, u4, u5, rfl, h, fun i hi => absurd hi (Nat.not_lt_zero _), fun _ _ => rfl, rfl⟩
  | n + 1, hn => by
    obtain ⟨S1, v4, v5, e1, h1, r1, f1, g1⟩ := dsl_c I d u4 u5 h n (by omega)
    obtain ⟨k, hk, ek, hb⟩ := spB_e I
    have hc := rowN_2 (spB A) n
    have hbit : (shrI (aSparse A) (nI n) &&& 1 = 1) ↔ spB A n = true := by
      rw [hb, ek, ← decide_eq_true_iff (p := shrI (nI k) (nI n) &&& 1 = 1), bit_1 (by omega) (by omega)]
    rw [e1, B_X1_drawSparse_9, if_neg (n12 (by omega)), nI_1]
    by_cases z : spB A n = true
    · rw [if_pos (hbit.mpr z), rowN_t z, i12 (by omega), gd_t, ix_nI (by omega), nI_1]
      refine ⟨_, vU, vU, rfl, CP_6 h1 _ _, fun i hi => ?_, fun c hc' => ?_, g1⟩
      · have hi : i < (rowN (spB A) n).2 + 1 := hi
        rw [rdI_wrI]
        show _ = nI (if i = (rowN (spB A) n).2 then n else (rowN (spB A) n).1 i)
        by_cases e : i = (rowN (spB A) n).2
        · rw [if_pos ⟨rfl, e⟩, if_pos e]
        · rw [if_neg (fun y => e y.2), if_neg e]; exact r1 i (by omega)
      · rw [← f1 c hc']; exact funext fun b => by rw [rdI_wrI, if_neg (fun y => hc' y.1)]
    · rw [if_neg (fun y => z (hbit.mp y)), rowN_f z]
      exact ⟨S1, vU, vU, by rw [nI_1], h1, r1, f1, g1⟩
theorem dsh_c {t : Nat} (d N : Nat) (hN : N ≤ 12) (c : Int32) : ∀ (k : Nat), k < N ∨ k = 0 → ∀ (u1 u4 u5 : AV) {S : Mem} {A : AS} {R : Nat → Nat}, CP S t A → XOK A → RowC S t R N → ∃ S' v1 v4 v5, ev (d + 1) 41 44 [vR 1 t, u1, vI c, vI (nI k), u4, u5] [] S = ev (d + 1) 41 44 [vR 1 t, v1, vI c, vI (nI 0), v4, v5] [] S' ∧ CP S' t (shR k (A, R)).1 ∧ RowC S' t (shR k (A, R)).2 N ∧ (∀ c, ¬ (t ≤ c ∧ c < t + 7) → rdI S' c = rdI S c) ∧ S'.2 = S.2 := by
  intro k
  induction k with
  | zero => intro _ u1 u4 u5 S A R h _ hR; exact ⟨S, u1, u4, u5, rfl, h, hR, fun _ _ => rfl, rfl⟩
  | succ k ih =>
    intro hk u1 u4 u5 S A R h hX hR
    obtain ⟨S1, e1, h1, f1, g1⟩ := dr_c h hX d (n := k + 2) (by omega) (by omega)
    have hm : xA A % (k + 2) < k + 2 := Nat.mod_lt _ (by omega)
    have hR1 := RowC_k hR (g1 (t + 6) (by omega))
    have hsh : shR (k + 1) (A, R) = shR k (aDr A, swR R (k + 1) (xA A % (k + 2))) := rfl
    rw [hsh]
    generalize hI : xA A % (k + 2) = o at e1 hm
    rw [B_X1_drawSparse_44, if_neg (nlt1 (by omega) (by omega)), nI_1, e1, bI_s, i12 (by omega), gd_t, i12 (by omega), gd_t, gd_t, gd_t, x12 (by omega), x12 (by omega), pk_m1, hR1 (k + 1) (by omega), hR1 o (by omega)]
    have h2 := CP_6 (CP_6 h1 (k + 1) (nI (R o))) o (nI (R (k + 1)))
    have hR2 : RowC (wrI (wrI S1 (t + 6) (k + 1) (nI (R o))) (t + 6) o (nI (R (k + 1)))) t (swR R (k + 1) o) N := fun i hi => by
      rw [rdI_wrI, rdI_wrI]
      unfold swR
      by_cases e : i = o
      · rw [if_pos ⟨rfl, e⟩, if_pos e]
      · rw [if_neg (fun y => e y.2), if_neg e]
        by_cases e2 : i = k + 1
        · rw [if_pos ⟨rfl, e2⟩, if_pos e2]
        · rw [if_neg (fun y => e2 y.2), if_neg e2]; exact hR1 i hi
    obtain ⟨S', v1, v4, v5, e', h', r', f', g'⟩ := ih (by omega) vU (vI (nI o)) (vI (nI (R (k + 1)))) h2 (aDr_X A) hR2
    refine ⟨S', v1, v4, v5, e', h', r', fun c hc => ?_, g'.trans f1.2⟩
    rw [f' c hc]
    refine Eq.trans (funext fun b => ?_) (g1 c (by omega))
    rw [rdI_wrI, if_neg (by omega), rdI_wrI, if_neg (by omega)]
theorem drawSparse_c {S : Mem} {t : Nat} {A : AS} (h : CP S t A) (I : Inv A) (d : Nat) : ∃ S', cal (d + 2) 41 [vR 1 t] S = some (some (vI (nI (rowN (spB A) 12).2)), S') ∧ CP S' t (cpR A).1 ∧ RowC S' t (cpR A).2 (rowN (spB A) 12).2 ∧ (∀ c, ¬ (t ≤ c ∧ c < t + 7) → rdI S' c = rdI S c) ∧ S'.2 = S.2 := by
  obtain ⟨S1, v4, v5, e1, h1, r1, f1, g1⟩ := dsl_c I (d + 1) vU vU h 12 (Nat.le_refl _)
  have hN := rowN_2 (spB A) 12
  obtain ⟨S2, w1, w4, w5, e2, h2, r2, f2, g2⟩ := dsh_c (d + 1) _ hN (nI (rowN (spB A) 12).2) ((rowN (spB A) 12).2 - 1) (by omega) (vI (aSparse A)) vU vU h1 (iX I) r1
  rw [B_X1_drawSparse, kc_sparse h, bI_s, e1, B_X1_drawSparse_9, if_pos y12]
  refine ⟨S2, ?_, h2, r2, fun c hc => (f2 c hc).trans (f1 c (by omega)), g2.trans g1⟩
  by_cases z : (rowN (spB A) 12).2 = 0
  · rw [z] at e2 ⊢
    have e0 : nI 0 - 1 = -1 := by decide
    have eS : S2 = S1 ∨ True := Or.inr trivial
    rw [e0, B_X1_drawSparse_44, if_pos (show (-1 : Int32) < 1 by decide)]
    have e3 := e2
    rw [show 0 - 1 = 0 from rfl, B_X1_drawSparse_44, if_pos (show nI 0 < 1 by decide), B_X1_drawSparse_44, if_pos (show nI 0 < 1 by decide)] at e3
    exact e3
  · rw [s1_sub (by omega), e2, B_X1_drawSparse_44, if_pos (show nI 0 < 1 by decide)]
/-- pairs met -/
def MkB (m : Nat) (D : Nat → Bool) : Prop := m < 65536 ∧ ∀ x, x < 12 → m.testBit x = D x
theorem mk_test {m f g : Nat} {D : Nat → Bool} (h : MkB m D) (hf : f < 12) (hg : g < 12) : (nI m &&& (shlI 1 (nI f) ||| shlI 1 (nI g)) = 0) ↔ (D f || D g) = false := by
  have pf := pw (s := f) (by omega)
  have pg := pw (s := g) (by omega)
  have hlt : m &&& (2 ^ f ||| 2 ^ g) < 65536 := Nat.lt_of_le_of_lt Nat.and_le_left h.1
  rw [shl1 (by omega), shl1 (by omega), nI_or, nI_and]
  rw [show (nI (m &&& (2 ^ f ||| 2 ^ g)) = 0) ↔ (m &&& (2 ^ f ||| 2 ^ g)) = 0 from nI_eq (b := 0) (by omega) (by decide), ← h.2 f hf, ← h.2 g hg]
  constructor
  · intro z
    have hz : ∀ x, (m.testBit x && (decide (f = x) || decide (g = x))) = false := fun x => by
      have := congrArg (fun y => y.testBit x) z
      try dsimp only at this
      rw [Nat.testBit_and, Nat.testBit_or, Nat.testBit_two_pow, Nat.testBit_two_pow, Nat.zero_testBit] at this
      exact this
    have z1 := hz f
    have z2 := hz g
    rw [decide_eq_true rfl, Bool.true_or, Bool.and_true] at z1
    rw [decide_eq_true (p := g = g) rfl, Bool.or_true, Bool.and_true] at z2
    rw [z1, z2]; rfl
  · intro z
    obtain ⟨z1, z2⟩ := Bool.or_eq_false_iff.mp z
    refine Nat.eq_of_testBit_eq (fun x => ?_)
    rw [Nat.testBit_and, Nat.testBit_or, Nat.testBit_two_pow, Nat.testBit_two_pow, Nat.zero_testBit]
    by_cases e1 : f = x
    · rw [← e1, z1]; rfl
    · by_cases e2 : g = x
      · rw [← e2, z2]; rfl
      · rw [decide_eq_false e1, decide_eq_false e2]; exact Bool.and_false _
theorem mk_or {m f g : Nat} {D : Nat → Bool} (h : MkB m D) (hf : f < 12) (hg : g < 12) : nI m ||| (shlI 1 (nI f) ||| shlI 1 (nI g)) = nI (m ||| (2 ^ f ||| 2 ^ g)) ∧ MkB (m ||| (2 ^ f ||| 2 ^ g)) (fun x => D x || decide (x = f) || decide (x = g)) := by
  have pf := pw (s := f) (by omega)
  have pg := pw (s := g) (by omega)
  refine ⟨by rw [shl1 (by omega), shl1 (by omega), nI_or, nI_or], Nat.or_lt_two_pow (n := 16) h.1 (Nat.or_lt_two_pow (n := 16) pf pg), fun x hx => ?_⟩
  rw [Nat.testBit_or, Nat.testBit_or, Nat.testBit_two_pow, Nat.testBit_two_pow, h.2 x hx]
  show (D x || (decide (f = x) || decide (g = x))) = (D x || decide (x = f) || decide (x = g))
  rw [Bool.or_assoc]
  congr 1
  congr 1
  · exact decide_eq_decide.mpr ⟨Eq.symm, Eq.symm⟩
  · exact decide_eq_decide.mpr ⟨Eq.symm, Eq.symm⟩
/-- what the class has in hand while pairs are meshed -/
def CmC (L : Nat → Option (Env → Int)) (t τ : Nat) (R : Nat → Nat) (N : Nat) (S : Mem) (s : CSt) (m : Nat) : Prop := CP S t s.1 ∧ LC S τ 0 (L 0) ∧ RowC S t R N ∧ MkB m s.2.1 ∧ CIv R N s
noncomputable def c31 (d t τ : Nat) (pr : Int32) (half : Nat) (m n i j : Nat) (u8 u9 u10 u11 u12 : AV) (S : Mem) : Option Res := ev (d + 5) 42 31 [vR 1 t, vR 5 τ, vI pr, vI (nI half), vI (nI m), vI (nI n), vI (nI i), vI (nI j), u8, u9, u10, u11, u12] [] S
theorem nz_h {h : Nat} (h0 : 0 < h) (h1 : h < 2 ^ 31) : nz (nI h) = true := nz_nI h0 h1
theorem cs_c {L : Nat → Option (Env → Int)} {t τ : Nat} {R : Nat → Nat} {N : Nat} {S : Mem} {s : CSt} {m : Nat} (H : CmC L t τ R N S s m) (hd : τ + 9 < t ∨ t + 7 ≤ τ) (hN : N ≤ 12) {half : Nat} (hh : 2 * half ≤ N) (d : Nat) (pr : Int32) {i j : Nat} (hi : i < 1000) (hj : j < half) (u8 u9 u10 u11 u12 : AV) : ∃ S' m', c31 d t τ pr half m s.2.2 i j u8 u9 u10 u11 u12 S = c31 d t τ pr half m' (cS L (R j) (R (half + (j + i) % half)) s).2.2 i (j + 1) vU vU vU vU vU S' ∧ CmC L t τ R N S' (cS L (R j) (R (half + (j + i) % half)) s) m' ∧ FrK t τ S S' := by
  obtain ⟨h, hL, hR, hM, hV⟩ := H
  have I := hV.1
  have hm : (j + i) % half < half := Nat.mod_lt _ (by omega)
  have hjN : j < N := by omega
  have hoN : half + (j + i) % half < N := by omega
  have hV' := cS_Iv (L := L) hV hjN hoN
  obtain ⟨f12, fu⟩ := hV.2 j hjN
  obtain ⟨g12, gu⟩ := hV.2 _ hoN
  have eo : nI half + remI (nI j + nI i) (nI half) = nI (half + (j + i) % half) := by
    have : remI (nI (j + i)) (nI half) = nI ((j + i) % half) := pk_rem (by omega) (by omega) (by omega)
    rw [nI_add, this, nI_add]
  have ef := hR j hjN
  have eg := hR _ hoN
  generalize half + (j + i) % half = o at eo hoN hV' g12 gu eg ⊢
  generalize hF : R j = f at f12 fu ef hV' ⊢
  generalize hG : R o = g at g12 gu eg hV' ⊢
  unfold c31
  rw [B_X1_compactBy_31, if_neg (nI_ge hj (by omega)), i12 (by omega), gd_t, gd_p (nz_h (by omega) (by omega)), eo, i12 (by omega), gd_t, x12 (by omega), x12 (by omega), ef, eg, kc_lowIn h, bI_s, kc_lowIn h, bI_s, nI_1, nI_1]
  unfold cS at hV' ⊢
  by_cases hD : (s.2.1 f || s.2.1 g) = true
  · rw [if_neg (fun z => by rw [(mk_test hM f12 g12).mp z] at hD; cases hD), if_pos hD]
    exact ⟨S, m, rfl, ⟨h, hL, hR, hM, hV⟩, FrK_r⟩
  · have hD' : (s.2.1 f || s.2.1 g) = false := Bool.eq_false_iff.mpr hD
    obtain ⟨d1, d2⟩ := Bool.or_eq_false_iff.mp hD'
    obtain ⟨p1, p2, p3⟩ := low_ok (fu d1)
    obtain ⟨q1, q2, q3⟩ := low_ok (gu d2)
    obtain ⟨S1, e1, f1⟩ := hin_c (L := L) h I hL hd p1 q1 d
    rw [if_neg hD] at hV'
    rw [if_pos ((mk_test hM f12 g12).mpr hD'), if_neg hD, p3, q3, oI_some, oI_some]
    have c1' := CP_T h f1 hd
    have l1 := LC_K hL hd (FrK_T t f1)
    have r1 := RowC_k hR (f1.1 (t + 6) (by omega) (by omega))
    by_cases hz : hinA L s.1 (lowP s.1 f) (lowP s.1 g) = 0
    · rw [if_pos hz] at hV'
      obtain ⟨S2, e2, h2, f2⟩ := mesh_c c1' I (d + 1) p1 q1 f12 g12 p2 q2
      obtain ⟨m1, m2⟩ := mk_or hM f12 g12
      rw [hz] at e1
      rw [e1, bI_s, if_pos (show nI 0 = 0 from rfl), e2, bI_s, if_pos hz, m1]
      exact ⟨S2, _, rfl, ⟨h2, LC_K l1 hd (FrK_C τ f2), RowC_k r1 (f2.1 (t + 6) (by omega)), m2, hV'⟩, FrK_t (FrK_T t f1) (FrK_C τ f2)⟩
    · have hb : hinA L s.1 (lowP s.1 f) (lowP s.1 g) < 2 ^ 31 := by
        unfold hinA
        split
        · decide
        · split
          · decide
          · split
            · decide
            · split
              · split <;> decide
              · decide
      have hz' : ¬ nI (hinA L s.1 (lowP s.1 f) (lowP s.1 g)) = 0 := fun z => hz ((nI_eq (b := 0) hb (by decide)).mp z)
      rw [e1, bI_s, if_neg hz', if_neg hz]
      exact ⟨S1, m, rfl, ⟨c1', l1, r1, hM, hV⟩, FrK_T t f1⟩
theorem cj_c {L : Nat → Option (Env → Int)} {t τ : Nat} {R : Nat → Nat} {N : Nat} (hd : τ + 9 < t ∨ t + 7 ≤ τ) (hN : N ≤ 12) {half : Nat} (hh : 2 * half ≤ N) (d : Nat) (pr : Int32) {i : Nat} (hi : i < 1000) (u8 u9 u10 u11 u12 : AV) {S : Mem} {s : CSt} {m : Nat} (H : CmC L t τ R N S s m) : ∀ n, n ≤ half → ∃ S' m' v8 v9 v10 v11 v12, c31 d t τ pr half m s.2.2 i 0 u8 u9 u10 u11 u12 S = c31 d t τ pr half m' (cJ L R half i n s).2.2 i n v8 v9 v10 v11 v12 S' ∧ CmC L t τ R N S' (cJ L R half i n s) m' ∧ FrK t τ S S'
  | 0, _ => ⟨S, m, u8, u9, u10, u11, u12, rfl, H, FrK_r⟩
  | n + 1, hn => by
    obtain ⟨S1, m1, v8, v9, v10, v11, v12, e1, H1, f1⟩ := cj_c hd hN hh d pr hi u8 u9 u10 u11 u12 H n (by omega)
    obtain ⟨S2, m2, e2, H2, f2⟩ := cs_c H1 hd hN hh d pr hi (j := n) (by omega) v8 v9 v10 v11 v12
    exact ⟨S2, m2, vU, vU, vU, vU, vU, e1.trans e2, H2, FrK_t f1 f2⟩
noncomputable def c22 (d t τ : Nat) (pr : Int32) (half : Nat) (m n i : Nat) (u7 u8 u9 u10 u11 u12 : AV) (S : Mem) : Option Res := ev (d + 5) 42 22 [vR 1 t, vR 5 τ, vI pr, vI (nI half), vI (nI m), vI (nI n), vI (nI i), u7, u8, u9, u10, u11, u12] [] S
theorem ci_c {L : Nat → Option (Env → Int)} {t τ : Nat} {R : Nat → Nat} {N : Nat} (hd : τ + 9 < t ∨ t + 7 ≤ τ) (hN : N ≤ 12) {half : Nat} (hh : 2 * half ≤ N) (d : Nat) {pr : Nat} (hpr : pr ≤ 12) (u7 u8 u9 u10 u11 u12 : AV) {S : Mem} {s : CSt} {m : Nat} (H : CmC L t τ R N S s m) : ∀ n, n ≤ pr → ∃ S' m' v7 v8 v9 v10 v11 v12, c22 d t τ (nI pr) half m s.2.2 0 u7 u8 u9 u10 u11 u12 S = c22 d t τ (nI pr) half m' (cI L R half n s).2.2 n v7 v8 v9 v10 v11 v12 S' ∧ CmC L t τ R N S' (cI L R half n s) m' ∧ FrK t τ S S'
  | 0, _ => ⟨S, m, u7, u8, u9, u10, u11, u12, rfl, H, FrK_r⟩
  | n + 1, hn => by
    obtain ⟨S1, m1, v7, v8, v9, v10, v11, v12, e1, H1, f1⟩ := ci_c hd hN hh d hpr u7 u8 u9 u10 u11 u12 H n (by omega)
    obtain ⟨S2, m2, w8, w9, w10, w11, w12, e2, H2, f2⟩ := cj_c hd hN hh d (nI pr) (i := n) (by omega) vU vU vU vU vU H1 half (Nat.le_refl _)
    refine ⟨S2, m2, vI (nI half), vU, vU, vU, vU, vU, e1.trans ?_, H2, FrK_t f1 f2⟩
    have e3 : c22 d t τ (nI pr) half m1 (cI L R half n s).2.2 n v7 v8 v9 v10 v11 v12 S1 = c31 d t τ (nI pr) half m1 (cI L R half n s).2.2 n 0 vU vU vU vU vU S1 := by
      unfold c22 c31
      rw [B_X1_compactBy_22, if_neg (nI_ge (show n < pr by omega) (by omega))]; rfl
    rw [e3, e2]
    unfold c31 c22
    rw [B_X1_compactBy_31, if_pos (nI_le (Nat.le_refl _) (by omega)), nI_1]; rfl
theorem comp_c {S : Mem} {t τ : Nat} {A : AS} {L : Nat → Option (Env → Int)} (h : CP S t A) (I : Inv A) (hL0 : LC S τ 0 (L 0)) (hL1 : LC S τ 1 (L 1)) (hd : τ + 9 < t ∨ t + 7 ≤ τ) (d : Nat) : ∃ S', cal (d + 5) 42 [vR 1 t, vR 5 τ] S = some (some (vI (nI (cpC L A).2.2)), S') ∧ CP S' t (cpC L A).1 ∧ FrK t τ S S' := by
  obtain ⟨S1, e1, f1⟩ := probes_c (L := L) h I hL1 hd d
  have c1' := CP_T h f1 hd
  obtain ⟨S2, e2, h2, r2, f2, g2⟩ := drawSparse_c c1' I (d + 2)
  have k2 : FrK t τ S1 S2 := ⟨fun c c1 _ _ => f2 c c1, g2⟩
  have k12 := FrK_t (FrK_T t f1) k2
  have hN := rowN_2 (spB A) 12
  have hp := prN_le L A
  have ediv : nI (rowN (spB A) 12).2 / 2 = nI ((rowN (spB A) 12).2 / 2) := pk_div (d := 2) (by omega) (by decide) (by decide)
  have H : CmC L t τ (cpR A).2 (rowN (spB A) 12).2 S2 ((cpR A).1, (fun _ => false, 0)) 0 := ⟨h2, LC_K hL0 hd k12, r2, ⟨by decide, fun x _ => Nat.zero_testBit x⟩, cp_Iv A I⟩
  obtain ⟨S3, m3, v7, v8, v9, v10, v11, v12, e3, H3, f3⟩ := ci_c hd hN (half := (rowN (spB A) 12).2 / 2) (by omega) d hp vU vU vU vU vU vU H (prN L A) (Nat.le_refl _)
  rw [B_X1_compactBy, e1, bI_s, e2, bI_s, gd_p (show nz 2 = true by decide), ediv]
  refine ⟨S3, ?_, H3.1, FrK_t k12 f3⟩
  refine e3.trans ?_
  unfold c22
  rw [B_X1_compactBy_22, if_pos (nI_le (Nat.le_refl _) (by omega))]
  rfl
