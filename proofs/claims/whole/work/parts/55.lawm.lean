/-! a law asked in the reference -/
def FrL (r : Nat) (S S' : Mem) : Prop := (∀ c, ¬ c = r + 6 → ¬ c = r + 8 → rdI S' c = rdI S c) ∧ S'.2.2 = S.2.2
theorem FrL_r {r : Nat} {S : Mem} : FrL r S S := ⟨fun _ _ _ => rfl, rfl⟩
theorem FrL_t {r : Nat} {S S1 S2 : Mem} (h : FrL r S S1) (h2 : FrL r S1 S2) : FrL r S S2 := ⟨fun c c1 c2 => (h2.1 c c1 c2).trans (h.1 c c1 c2), h2.2.trans h.2⟩
theorem FrL_w (r i : Nat) (v : Int32) (S : Mem) : FrL r S (wrI S (r + 6) i v) := ⟨fun c h _ => funext fun b => by rw [rdI_wrI, if_neg (fun z => h z.1)], rfl⟩
theorem FrL_K {r n tr : Nat} {S S' : Mem} (k : KpR r n tr S S') : FrL r S S' := ⟨fun c _ h => k.2.2.1 c h, k.2.2.2⟩
theorem FrL_M {r : Nat} {S S' : Mem} (h : FrL r S S') : FrM r S S' := ⟨fun c i h1 _ h3 => by rw [h.1 c h1 h3], h.2⟩
theorem RP_L {S S' : Mem} {r : Nat} {A : AS} (h : RP S (r + 1) 4 A) (f : FrL r S S') : RP S' (r + 1) 4 A := by
  have e := f.1 (r + 1) (by omega) (by omega)
  refine ⟨fun k i hk h3 hi => ?_, fun p i hp ho hi => ?_⟩
  · rw [e]; exact h.1 k i hk h3 hi
  · rw [e]; exact h.2 p i hp ho hi
def RM (S : Mem) (r : Nat) (x : Int32) (l : Nat) (o : Option (Env → Int)) : Prop := (x = -1 ∧ o = none) ∨ ∃ T, x = nI T ∧ LM S r T l o
theorem LM_L {S S' : Mem} {r T l : Nat} {o : Option (Env → Int)} (h : LM S r T l o) (f : FrL r S S') : LM S' r T l o := by
  have e := f.1 (r + 3) (by omega) (by omega)
  obtain ⟨hT, n, hn, en, hc⟩ := h
  refine ⟨hT, n, hn, by rw [e]; exact en, ?_⟩
  unfold ClM AtR at hc ⊢
  rw [e]; exact hc
theorem e681 (T : Nat) : (681 : Int32) * nI T = nI (681 * T) := pk_mul 681 T
def KoM (S : Mem) (r T l : Nat) (o : Option (Env → Int)) (k : Option Nat) : Prop := match o with
  | none => k = none
  | some v => ∃ q, k = some q ∧ q < 24 ∧ ∃ (i j : Nat) (co vl : Nat → Int32), i < j ∧ j ≤ 304 ∧ rdI S (r + 3) (681 * T + 1 + 3 * q + 1) = nI i ∧ rdI S (r + 3) (681 * T + 1 + 3 * q + 2) = nI j ∧ AtR S r (681 * T + 73) co vl i j ∧ RD (alL l) co vl i j v
theorem clauseOf_t {S : Mem} {r T l : Nat} {o : Option (Env → Int)} (h : LM S r T l o) (hl : l < 2) (d : Nat) : ∃ k : Option Nat, cal d 223 [vR 8 r, vI (nI T), vI (nI l)] S = some (some (vI (oI k)), S) ∧ KoM S r T l o k := by
  obtain ⟨hT, n, hn, en, hc⟩ := h
  have key := loop_find (fun k => ev d 223 2 [vR 8 r, vI (nI T), vI (nI l), vI (nI k)] [] S) (fun k => decide (ClM S r T k = nI l)) (fun k => some (some (vI (nI k)), S)) n 0 (fun k _ hk => by
    rw [Nat.zero_add] at hk
    try dsimp only
    have e1 : ((681 : Int32) * nI T + 1) + 3 * nI k = nI (681 * T + 1 + 3 * k) := by
      rw [e681, nI_1]
      show nI (681 * T + 1) + nI 3 * nI k = _
      rw [pk_mul, nI_add]
    rw [B_X8_clauseOf_2, if_neg (nI_pos (by omega)), e681, i27 (by omega), gd_t, ix_nI (by omega), en, if_neg (nI_ge hk (by omega)), ← e681, e1, i27 (by omega), gd_t, ix_nI (by omega), nI_1]
    show (if ClM S r T k = nI l then _ else _) = _
    by_cases z : ClM S r T k = nI l
    · rw [if_pos z, if_pos (decide_eq_true z)]
    · rw [if_neg z, if_neg (by simpa using z)])
  refine ⟨ffind (fun k => decide (ClM S r T k = nI l)) 0 n, ?_, ?_⟩
  · rw [B_X8_clauseOf]
    refine key.trans ?_
    cases ffind (fun k => decide (ClM S r T k = nI l)) 0 n with
    | some p => rfl
    | none =>
      try dsimp only
      rw [Nat.zero_add, B_X8_clauseOf_2, if_neg (nI_pos (by omega)), e681, i27 (by omega), gd_t, ix_nI (by omega), en, if_pos (nI_le (Nat.le_refl _) (by omega))]; rfl
  · cases o with
    | none =>
      show ffind _ 0 n = none
      cases hf : ffind (fun k => decide (ClM S r T k = nI l)) 0 n with
      | none => rfl
      | some p =>
        obtain ⟨-, h2, h3, -⟩ := ffind_some hf
        exact absurd (of_decide_eq_true h3) (hc p (by omega))
    | some v =>
      obtain ⟨q, i, j, co, vl, hq, eq, hlt, hij, hj, ei, ej, ha, hR⟩ := hc
      refine ⟨q, ?_, by omega, i, j, co, vl, hij, hj, ei, ej, ha, hR⟩
      cases hf : ffind (fun k => decide (ClM S r T k = nI l)) 0 n with
      | none =>
        have := ffind_none hf q (Nat.zero_le _) (by omega)
        exact absurd eq (of_decide_eq_false this)
      | some p =>
        obtain ⟨-, h2, h3, h4⟩ := ffind_some hf
        congr 1
        rcases Nat.lt_trichotomy p q with z | z | z
        · exact absurd (of_decide_eq_true h3) (hlt p z)
        · exact z
        · exact absurd eq (of_decide_eq_false (h4 q (Nat.zero_le _) z))
/-- the names laid down -/
theorem name_m {S : Mem} {r : Nat} {A : AS} (h : RP S (r + 1) 4 A) (I : Inv A) (d : Nat) : ∃ S', cal (d + 1) 224 [vR 8 r] S = some (none, S') ∧ FrL r S S' ∧ rdI S' (r + 6) 0 = A 0 0 ∧ rdI S' (r + 6) 1 = bitc (fOpens (A 1)) ∧ rdI S' (r + 6) 2 = bitc (fUsed (A 1)) := by
  have x0 : ix 0 = 0 := rfl
  have x1 : ix 1 = 1 := rfl
  have x2 : ix 2 = 2 := rfl
  have f1 := FrL_w r 0 (A 0 0) S
  have h1 := RP_L h f1
  have f2 := FrL_t f1 (FrL_w r 1 (bitc (fOpens (A 1))) _)
  have h2 := RP_L h f2
  have f3 := FrL_t f2 (FrL_w r 2 (bitc (fUsed (A 1))) _)
  rw [B_X8_name, i13_4, gd_t, x13_4, show rdI S (r + 1) 4 = A 0 0 from m0 h (j := 0) (by decide), gd_p (show inb 0 6 = true by decide), x0, km_opens h1, bI_s, km_bits d (fOpens_ok _), bI_s, gd_p (show inb 1 6 = true by decide), x1, km_used h2, bI_s, km_bits d (fUsed_ok (iF I)), bI_s, gd_p (show inb 2 6 = true by decide), x2]
  refine ⟨_, rfl, f3, ?_, ?_, ?_⟩
  · rw [rdI_wrI, if_neg (by omega), rdI_wrI, if_neg (by omega), rdI_wrI, if_pos ⟨rfl, rfl⟩]
  · rw [rdI_wrI, if_neg (by omega), rdI_wrI, if_pos ⟨rfl, rfl⟩]
  · rw [rdI_wrI, if_pos ⟨rfl, rfl⟩]
theorem envR_m {S : Mem} {r l : Nat} {A : AS} (h : RP S (r + 1) 4 A) (I : Inv A) {one other sp : Int} (e0 : rdI S (r + 6) 0 = A 0 0) (e1 : rdI S (r + 6) 1 = bitc (fOpens (A 1))) (e2 : rdI S (r + 6) 2 = bitc (fUsed (A 1))) (e3 : l = 0 → (rdI S (r + 6) 3).toInt = one) (e4 : l = 0 → (rdI S (r + 6) 4).toInt = other) (e5 : ¬ l = 0 → (rdI S (r + 6) 5).toInt = sp) : EnvR S r (alL l) (envA A one other sp) := by
  refine ⟨fun n hn ha => ?_, fun p hp => ?_⟩
  · rcases (show n = 0 ∨ n = 1 ∨ n = 2 ∨ n = 3 ∨ n = 4 ∨ n = 5 by omega) with rfl | rfl | rfl | rfl | rfl | rfl
    · rw [e0]; rfl
    · rw [e1]; rfl
    · rw [e2]; rfl
    · have hl : l = 0 := by
        by_cases z : l = 0
        · exact z
        · unfold alL at ha; rw [if_neg z] at ha; exact absurd ha (by decide)
      exact e3 hl
    · have hl : l = 0 := by
        by_cases z : l = 0
        · exact z
        · unfold alL at ha; rw [if_neg z] at ha; exact absurd ha (by decide)
      exact e4 hl
    · have hl : ¬ l = 0 := by
        intro z
        unfold alL at ha; rw [if_pos z] at ha; exact absurd ha (by decide)
      exact e5 hl
  · have r1 : rdI S (r + 1) (11 + p) = A 1 p := m1 h p hp
    have r2 : rdI S (r + 1) (23 + p) = A 2 p := m2 h p hp
    rw [r1, r2]
    show (_ ∧ (if p < 12 then (bitc (A 2 p)).toInt else 0) = 0 ∧ (if p < 12 then (A 1 p + 1).toInt else 0) = 0) ∨ (_ ∧ (∃ k : Nat, _ ∧ _ ∧ (pop k : Int) = (if p < 12 then (bitc (A 2 p)).toInt else 0)) ∧ _ = (if p < 12 then (A 1 p + 1).toInt else 0))
    rw [if_pos hp, if_pos hp]
    by_cases z : A 1 p = -1
    · refine Or.inl ⟨z, ?_, ?_⟩
      · rw [iLF I p hp z]; decide
      · rw [z]; decide
    · obtain ⟨k, hk, ek⟩ := iL I p hp
      refine Or.inr ⟨z, ⟨k, hk, ek, ?_⟩, ?_⟩
      · have := pop_le hk
        rw [ek, bitc_pop hk, nI_toInt (by omega)]
      · rw [Int32.add_comm]
theorem sum_m {S : Mem} {r T q : Nat} {al : Nat → Bool} {E : Env} {co vl : Nat → Int32} {i j : Nat} {v : Env → Int} (hT : T < 4) (hq : q < 24) (hE : EOK E) (hER : EnvR S r al E) (hij : i < j) (hj : j ≤ 304) (ei : rdI S (r + 3) (681 * T + 1 + 3 * q + 1) = nI i) (ej : rdI S (r + 3) (681 * T + 1 + 3 * q + 2) = nI j) (ha : AtR S r (681 * T + 73) co vl i j) (hR : RD al co vl i j v) (d : Nat) : ∃ S' b, cal (d + 2) 222 [vR 8 r, vI (nI T), vI (nI q)] S = some (some (vL b), S') ∧ b.toInt = v E ∧ FrL r S S' := by
  have e1 : ((681 : Int32) * nI T + 1) + 3 * nI q = nI (681 * T + 1 + 3 * q) := by
    rw [e681, nI_1]
    show nI (681 * T + 1) + nI 3 * nI q = _
    rw [pk_mul, nI_add]
  have e2 : (681 : Int32) * nI T + 73 = nI (681 * T + 73) := by rw [e681]; exact nI_add _ 73
  obtain ⟨S', v1, v2, v8, v9, e6, ev6, k6⟩ := hR.2.2 d r S E (681 * T + 1 + 3 * q) (681 * T + 73) j 0 0 (vI (nI T)) (vI (nI q)) vU vU ⟨hE, hER, by omega, ej, by omega⟩ ha (Nat.le_refl _) (by omega) (by omega)
  refine ⟨S', rdJ S' (r + 7) 0, ?_, ev6, FrL_K k6⟩
  rw [B_X8_summedUp, e1, nI_1, i27 (by omega), gd_t, ix_nI (by omega), ei, e2]
  refine e6.trans ?_
  have ej' : rdI S' (r + 3) (681 * T + 1 + 3 * q + 2) = nI j := by rw [k6.2.2.1 _ (by omega)]; exact ej
  unfold lr
  rw [B_X8_summedUp_38, show nI (681 * T + 1 + 3 * q) + 2 = nI (681 * T + 1 + 3 * q + 2) from nI_add _ 2, i27 (by omega), gd_t, ix_nI (by omega), ej', if_pos (nI_le (Nat.le_refl _) (by omega)), gd_p (show inb 0 330 = true by decide)]; rfl
theorem pos_t (b : Int64) (S : Mem) : (if lg_cmp b 0 ≤ 0 then gd (isZ 0) (some (some (vI 0), S)) else gd (isZ 1) (some (some (vI 1), S))) = some (some (vI (b2i (decide (0 < b.toInt)))), S) := by
  have h0 : (0 : Int64).toInt = 0 := rfl
  by_cases z : lg_cmp b 0 ≤ 0
  · have := Int64.le_iff_toInt_le.mp ((lg_cmp_le _ _).mp z)
    rw [h0] at this
    rw [if_pos z, gd_p isZ_0, decide_eq_false (by omega)]; rfl
  · have : ¬ b.toInt ≤ 0 := fun y => z ((lg_cmp_le _ _).mpr (Int64.le_iff_toInt_le.mpr (by rw [h0]; exact y)))
    rw [if_neg z, gd_p isZ_1, decide_eq_true (by omega)]; rfl
theorem let_m {S : Mem} {r : Nat} {A : AS} {L : Nat → Option (Env → Int)} {x : Int32} (h : RP S (r + 1) 4 A) (I : Inv A) (hL : RM S r x 0 (L 0)) {one other : Nat} (h1 : one ≤ 16) (h2 : other ≤ 16) (d : Nat) : ∃ S', cal (d + 3) 225 [vR 8 r, vI x, vI (nI one), vI (nI other)] S = some (some (vI (b2i (decide (0 < wrV L 0 A one other 0)))), S') ∧ FrL r S S' := by
  rw [B_X8_isLet]
  unfold wrV
  rcases hL with ⟨rfl, e⟩ | ⟨T, rfl, hL⟩
  · rw [B_X8_clauseOf, B_X8_clauseOf_2, if_pos m1_lt, bI_s, if_pos rfl, gd_p isZ_1, e]
    exact ⟨S, rfl, FrL_r⟩
  · obtain ⟨k, ek, hk⟩ := clauseOf_t hL (by decide) (d + 2)
    have ek' : cal (d + 2) 223 [vR 8 r, vI (nI T), vI 0] S = some (some (vI (oI k)), S) := ek
    rw [ek', bI_s]
    cases hv : L 0 with
    | none =>
      rw [hv] at hk
      have hk : k = none := hk
      rw [hk, oI_none, if_pos rfl, gd_p isZ_1]
      exact ⟨S, rfl, FrL_r⟩
    | some v =>
      rw [hv] at hk
      obtain ⟨q, rfl, hq, i, j, co, vl, hij, hj, ei, ej, ha, hR⟩ := hk
      have hT := hL.1
      obtain ⟨S1, e1, f1, n0, n1, n2⟩ := name_m h I (d + 1)
      have f2 := FrL_t (FrL_t f1 (FrL_w r 3 (nI one) S1)) (FrL_w r 4 (nI other) _)
      have hE : EOK (envA A one other 0) := envA_OK I (bd_small (by omega)) (bd_small (by omega)) ⟨by decide, by decide⟩
      have x3 : ix 3 = 3 := rfl
      have x4 : ix 4 = 4 := rfl
      have g : ∀ c, ¬ c = 3 → ¬ c = 4 → rdI (wrI (wrI S1 (r + 6) 3 (nI one)) (r + 6) 4 (nI other)) (r + 6) c = rdI S1 (r + 6) c := fun c c3 c4 => by rw [rdI_wrI, if_neg (fun z => c4 z.2), rdI_wrI, if_neg (fun z => c3 z.2)]
      have g3 : rdI (wrI (wrI S1 (r + 6) 3 (nI one)) (r + 6) 4 (nI other)) (r + 6) 3 = nI one := by rw [rdI_wrI, if_neg (by omega), rdI_wrI, if_pos ⟨rfl, rfl⟩]
      have g4 : rdI (wrI (wrI S1 (r + 6) 3 (nI one)) (r + 6) 4 (nI other)) (r + 6) 4 = nI other := by rw [rdI_wrI, if_pos ⟨rfl, rfl⟩]
      have hER : EnvR (wrI (wrI S1 (r + 6) 3 (nI one)) (r + 6) 4 (nI other)) r (alL 0) (envA A one other 0) := envR_m (RP_L h f2) I (by rw [g 0 (by decide) (by decide)]; exact n0) (by rw [g 1 (by decide) (by decide)]; exact n1) (by rw [g 2 (by decide) (by decide)]; exact n2) (fun _ => by rw [g3, nI_toInt (by omega)]) (fun _ => by rw [g4, nI_toInt (by omega)]) (fun z => absurd rfl z)
      have er := f2.1 (r + 3) (by omega) (by omega)
      obtain ⟨S3, b, e3, hb, f3⟩ := sum_m (T := T) hT hq hE hER hij hj (by rw [er]; exact ei) (by rw [er]; exact ej) (fun y g1 g2 => by rw [er]; exact ha y g1 g2) hR d
      rw [oI_some, if_neg (nI_m1 (by omega)), e1, bV_s, gd_p (show inb 3 6 = true by decide), gd_p (show inb 4 6 = true by decide), x3, x4, e3, bL_s, pos_t, hb]
      exact ⟨S3, rfl, FrL_t f2 f3⟩
def prN (L : Nat → Option (Env → Int)) (A : AS) : Nat := if wrV L 1 A 0 0 (bitc (aSparse A)).toInt < 0 then 0 else if 12 < wrV L 1 A 0 0 (bitc (aSparse A)).toInt then 12 else (wrV L 1 A 0 0 (bitc (aSparse A)).toInt).toNat
theorem prN_le (L : Nat → Option (Env → Int)) (A : AS) : prN L A ≤ 12 := by
  unfold prN
  by_cases h : wrV L 1 A 0 0 (bitc (aSparse A)).toInt < 0
  · rw [if_pos h]; omega
  · rw [if_neg h]
    by_cases h2 : 12 < wrV L 1 A 0 0 (bitc (aSparse A)).toInt
    · rw [if_pos h2]; omega
    · rw [if_neg h2]; omega
theorem held_t (d : Nat) (b : Int64) (S : Mem) : cal d 159 [vL b, vI 0, vI 12] S = some (some (vI (nI (if b.toInt < 0 then 0 else if 12 < b.toInt then 12 else b.toInt.toNat))), S) := by
  have h0 : (Int32.toInt64 0).toInt = 0 := by decide
  have h12 : (Int32.toInt64 12).toInt = 12 := by decide
  rw [B_X8_held]
  by_cases z : 0 ≤ lg_cmp b (Int32.toInt64 0)
  · have z' := Int64.le_iff_toInt_le.mp ((lg_cmp_ge _ _).mp z)
    rw [h0] at z'
    rw [if_pos z, if_neg (show ¬ b.toInt < 0 by omega)]
    by_cases y : lg_cmp b (Int32.toInt64 12) ≤ 0
    · have y' := Int64.le_iff_toInt_le.mp ((lg_cmp_le _ _).mp y)
      rw [h12] at y'
      rw [if_pos y, if_neg (show ¬ 12 < b.toInt by omega)]
      have e32 : Int64.toInt32 b = nI b.toInt.toNat := by
        refine Int32.toInt_inj.mp ?_
        rw [Int64.toInt_toInt32, bm32 (by omega) (by omega), nI_toInt (by omega)]; omega
      rw [e32]
    · have y' : ¬ b.toInt ≤ 12 := fun w => y ((lg_cmp_le _ _).mpr (Int64.le_iff_toInt_le.mpr (by rw [h12]; exact w)))
      rw [if_neg y, if_pos (show 12 < b.toInt by omega)]; rfl
  · have z' : ¬ 0 ≤ b.toInt := fun w => z ((lg_cmp_ge _ _).mpr (Int64.le_iff_toInt_le.mpr (by rw [h0]; exact w)))
    rw [if_neg z, if_pos (show b.toInt < 0 by omega)]; rfl
theorem aSparse_ok {A : AS} (I : Inv A) : ∃ k, k < 65536 ∧ aSparse A = nI k := by
  have := sparse_same (iL I) (iO I) (iGS I)
  unfold aSparse
  rw [this]
  unfold mSparse
  refine itN_ok (B := 65536) (fun f a hf ha => ?_) ⟨0, by decide, rfl⟩
  by_cases z : mUsed (A 1) (nI f) = true ∧ bitc (mLiveIn (A 1) (A 2) (nI f)) ≤ 8 ∧ mBound (A 0 3) (A 0 4) (nI f) = false
  · rw [if_pos z, shl1 (by omega)]; exact or_ok (e := 16) ha ⟨2 ^ f, pw (by omega), rfl⟩
  · rw [if_neg z]; exact ha
theorem probes_m {S : Mem} {r : Nat} {A : AS} {L : Nat → Option (Env → Int)} (h : RP S (r + 1) 4 A) (I : Inv A) (hL : RM S r (rdI S (r + 1) 1) 1 (L 1)) (d : Nat) : ∃ S', cal (d + 3) 227 [vR 8 r] S = some (some (vI (nI (prN L A))), S') ∧ FrL r S S' := by
  have x1 : ix 1 = 1 := rfl
  rw [B_X8_probesNow, gd_p (show inb 1 13669 = true by decide), x1]
  unfold prN wrV
  rcases hL with ⟨ex, e⟩ | ⟨T, ex, hL⟩
  · rw [ex, B_X8_clauseOf, B_X8_clauseOf_2, if_pos m1_lt, bI_s, if_pos rfl, e]
    exact ⟨S, rfl, FrL_r⟩
  · obtain ⟨k, ek, hk⟩ := clauseOf_t hL (by decide) (d + 2)
    have ek' : cal (d + 2) 223 [vR 8 r, vI (nI T), vI 1] S = some (some (vI (oI k)), S) := ek
    rw [ex, ek', bI_s]
    cases hv : L 1 with
    | none =>
      rw [hv] at hk
      have hk : k = none := hk
      rw [hk, oI_none, if_pos rfl]
      exact ⟨S, rfl, FrL_r⟩
    | some v =>
      rw [hv] at hk
      obtain ⟨q, rfl, hq, i, j, co, vl, hij, hj, ei, ej, ha, hR⟩ := hk
      have hT := hL.1
      obtain ⟨p, hp, ep, ep2⟩ := bitc_ok (aSparse_ok I)
      obtain ⟨S1, e1, f1, n0, n1, n2⟩ := name_m h I (d + 1)
      have h1 := RP_L h f1
      have f2 := FrL_t f1 (FrL_w r 5 (bitc (aSparse A)) S1)
      have hE : EOK (envA A 0 0 (bitc (aSparse A)).toInt) := envA_OK I ⟨by decide, by decide⟩ ⟨by decide, by decide⟩ (by rw [ep2]; exact bd_small (by omega))
      have x5 : ix 5 = 5 := rfl
      have g : ∀ c, ¬ c = 5 → rdI (wrI S1 (r + 6) 5 (bitc (aSparse A))) (r + 6) c = rdI S1 (r + 6) c := fun c c5 => by rw [rdI_wrI, if_neg (fun z => c5 z.2)]
      have g5 : rdI (wrI S1 (r + 6) 5 (bitc (aSparse A))) (r + 6) 5 = bitc (aSparse A) := by rw [rdI_wrI, if_pos ⟨rfl, rfl⟩]
      have hER : EnvR (wrI S1 (r + 6) 5 (bitc (aSparse A))) r (alL 1) (envA A 0 0 (bitc (aSparse A)).toInt) := envR_m (RP_L h f2) I (by rw [g 0 (by decide)]; exact n0) (by rw [g 1 (by decide)]; exact n1) (by rw [g 2 (by decide)]; exact n2) (fun z => absurd z (by decide)) (fun z => absurd z (by decide)) (fun _ => by rw [g5])
      have er := f2.1 (r + 3) (by omega) (by omega)
      have er1 : rdI (wrI S1 (r + 6) 5 (bitc (aSparse A))) (r + 1) 1 = nI T := by rw [f2.1 (r + 1) (by omega) (by omega)]; exact ex
      obtain ⟨S3, b, e3, hb, f3⟩ := sum_m (T := T) hT hq hE hER hij hj (by rw [er]; exact ei) (by rw [er]; exact ej) (fun y g1 g2 => by rw [er]; exact ha y g1 g2) hR d
      rw [oI_some, if_neg (nI_m1 (by omega)), e1, bV_s, km_sparse h1 I d, bI_s, km_bits (d + 2) (aSparse_ok I), bI_s, gd_p (show inb 5 6 = true by decide), gd_p (show inb 1 13669 = true by decide), x5, er1, e3, bL_s, held_t, bI_s, hb]
      exact ⟨S3, rfl, FrL_t f2 f3⟩
theorem probes_c {S : Mem} {t τ : Nat} {A : AS} {L : Nat → Option (Env → Int)} (h : CP S t A) (I : Inv A) (hL : LC S τ 1 (L 1)) (hd : τ + 9 < t ∨ t + 7 ≤ τ) (d : Nat) : ∃ S', cal (d + 4) 92 [vR 5 τ, vR 1 t] S = some (some (vI (nI (prN L A))), S') ∧ FrT τ S S' := by
  obtain ⟨S', b, e, hb, f⟩ := worth_c (L := L) h I (l := 1) (by decide) hL hd (one := 0) (other := 0) (by decide) (by decide) d
  have e' : cal (d + 3) 93 [vR 5 τ, vI 1, vR 1 t, vI 0, vI 0] S = some (some (vI b), S') := e
  rw [B_X5_probesIn, e', bI_s]
  refine ⟨S', ?_, f⟩
  congr 3
  rw [if_pos rfl] at hb
  have hb : b.toInt = wrV L 1 A 0 0 (bitc (aSparse A)).toInt := hb
  unfold prN
  rw [← hb]
  have h12 : (12 : Int32).toInt = 12 := by decide
  have h0 : (0 : Int32).toInt = 0 := by decide
  unfold maxI minI
  by_cases z : b < 12
  · have z' : b.toInt < 12 := by have := Int32.lt_iff_toInt_lt.mp z; rw [h12] at this; exact this
    rw [if_pos z]
    by_cases y : 0 < b
    · have y' : 0 < b.toInt := by have := Int32.lt_iff_toInt_lt.mp y; rw [h0] at this; exact this
      rw [if_pos y, if_neg (show ¬ b.toInt < 0 by omega), if_neg (show ¬ 12 < b.toInt by omega)]
      exact congrArg Sum.inl (int_nI rfl (by omega)).1
    · have y' : ¬ 0 < b.toInt := fun w => y (Int32.lt_iff_toInt_lt.mpr (by rw [h0]; exact w))
      rw [if_neg y]
      by_cases w : b.toInt < 0
      · rw [if_pos w]; rfl
      · rw [if_neg w, if_neg (show ¬ 12 < b.toInt by omega), show b.toInt = 0 by omega]; rfl
  · have z' : ¬ b.toInt < 12 := fun w => z (Int32.lt_iff_toInt_lt.mpr (by rw [h12]; exact w))
    rw [if_neg z, if_pos (show (0 : Int32) < 12 by decide), if_neg (show ¬ b.toInt < 0 by omega)]
    by_cases w : 12 < b.toInt
    · rw [if_pos w]; rfl
    · rw [if_neg w, show b.toInt = 12 by omega]; rfl
