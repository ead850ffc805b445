/-! a law asked: class and reference -/
def envA (A : AS) (one other sp : Int) : Env := (fun n => match n with
  | 0 => (A 0 0).toInt
  | 1 => (bitc (fOpens (A 1))).toInt
  | 2 => (bitc (fUsed (A 1))).toInt
  | 3 => one
  | 4 => other
  | 5 => sp
  | _ => 0, (fun p => if p < 12 then (bitc (A 2 p)).toInt else 0, fun p => if p < 12 then (A 1 p + 1).toInt else 0))
def alL (l : Nat) (n : Nat) : Bool := decide (n < 3) || (if l = 0 then decide (n = 3) || decide (n = 4) else decide (n = 5))
theorem bs_lt (c : Nat → Bool) {N : Nat} (h : N ≤ 16) : bsN c N < 65536 := by
  have h1 := bsN_lt c N
  have h2 : 2 ^ N ≤ 2 ^ 16 := Nat.pow_le_pow_right (by decide) h
  have h3 : 2 ^ 16 = 65536 := by decide
  omega
theorem fUsed_ok {fr : Nat → Int32} (hF : FrOK fr) : ∃ k, k < 65536 ∧ fUsed fr = nI k := by
  obtain ⟨u, h1, h2, -⟩ := fUsed_ex hF
  have h3 : 2 ^ 12 = 4096 := by decide
  exact ⟨u, by omega, h2⟩
theorem fOpens_ok (fr : Nat → Int32) : ∃ k, k < 65536 ∧ fOpens fr = nI k := ⟨_, bs_lt _ (by decide), opens_bs fr⟩
theorem bitc_ok {x : Int32} (h : ∃ k, k < 65536 ∧ x = nI k) : ∃ p : Nat, p ≤ 16 ∧ bitc x = nI p ∧ (bitc x).toInt = (p : Int) := by
  obtain ⟨k, hk, rfl⟩ := h
  have hp := pop_le hk
  rw [bitc_pop hk]
  exact ⟨pop k, hp, rfl, nI_toInt (by omega)⟩
theorem bd_small {p : Nat} (h : p ≤ 9999) : bd6 (p : Int) := by unfold bd6; omega
theorem envA_OK {A : AS} (I : Inv A) {one other sp : Int} (h1 : bd6 one) (h2 : bd6 other) (h3 : bd6 sp) : EOK (envA A one other sp) := by
  have z : bd6 0 := ⟨by decide, by decide⟩
  refine ⟨fun n => ?_, fun p => ?_, fun p => ?_⟩
  · match n with
    | 0 =>
      obtain ⟨dd, hd, e⟩ := iD I
      show bd6 (A 0 0).toInt
      rw [e, nI_toInt (by omega)]; exact bd_small hd
    | 1 =>
      obtain ⟨p, hp, -, e⟩ := bitc_ok (fOpens_ok (A 1))
      show bd6 (bitc (fOpens (A 1))).toInt
      rw [e]; exact bd_small (by omega)
    | 2 =>
      obtain ⟨p, hp, -, e⟩ := bitc_ok (fUsed_ok (iF I))
      show bd6 (bitc (fUsed (A 1))).toInt
      rw [e]; exact bd_small (by omega)
    | 3 => exact h1
    | 4 => exact h2
    | 5 => exact h3
    | n + 6 => exact z
  · show bd6 (if p < 12 then (bitc (A 2 p)).toInt else 0)
    by_cases hp : p < 12
    · rw [if_pos hp]
      obtain ⟨q, hq, -, e⟩ := bitc_ok (iL I p hp)
      rw [e]; exact bd_small (by omega)
    · rw [if_neg hp]; exact z
  · show bd6 (if p < 12 then (A 1 p + 1).toInt else 0)
    by_cases hp : p < 12
    · rw [if_pos hp]
      rcases iF I p hp with e | ⟨f, hf, e⟩
      · rw [e]; exact ⟨by decide, by decide⟩
      · rw [e, nI_1, nI_toInt (by omega)]; exact bd_small (by omega)
    · rw [if_neg hp]; exact z
/-- a law of a text: in the class; in the reference -/
def LC (S : Mem) (τ l : Nat) (o : Option (Env → Int)) : Prop := match o with
  | none => ∃ i j : Nat, i ≤ 300 ∧ j ≤ 300 ∧ rdI S (τ + 4) l = nI i ∧ rdI S (τ + 5) l = nI j ∧ j ≤ i
  | some v => ∃ (i j : Nat) (cd nb : Nat → Int32), i < j ∧ j ≤ 300 ∧ rdI S (τ + 4) l = nI i ∧ rdI S (τ + 5) l = nI j ∧ AtC S τ cd nb i j ∧ CD (alL l) cd nb i j 3 v
def ClM (S : Mem) (r T k : Nat) : Int32 := rdI S (r + 3) (681 * T + 1 + 3 * k)
def LM (S : Mem) (r T l : Nat) (o : Option (Env → Int)) : Prop := T < 4 ∧ ∃ n : Nat, n ≤ 24 ∧ rdI S (r + 3) (681 * T) = nI n ∧ match o with
  | none => ∀ k, k < n → ¬ ClM S r T k = nI l
  | some v => ∃ (k i j : Nat) (co vl : Nat → Int32), k < n ∧ ClM S r T k = nI l ∧ (∀ k', k' < k → ¬ ClM S r T k' = nI l) ∧ i < j ∧ j ≤ 304 ∧ rdI S (r + 3) (681 * T + 1 + 3 * k + 1) = nI i ∧ rdI S (r + 3) (681 * T + 1 + 3 * k + 2) = nI j ∧ AtR S r (681 * T + 73) co vl i j ∧ RD (alL l) co vl i j v
def FrT (τ : Nat) (S S' : Mem) : Prop := (∀ c, ¬ c = τ + 8 → ¬ c = τ + 9 → rdI S' c = rdI S c) ∧ S'.2 = S.2
theorem FrT_r {τ : Nat} {S : Mem} : FrT τ S S := ⟨fun _ _ _ => rfl, rfl⟩
theorem FrT_t {τ : Nat} {S S1 S2 : Mem} (h : FrT τ S S1) (h2 : FrT τ S1 S2) : FrT τ S S2 := ⟨fun c c1 c2 => (h2.1 c c1 c2).trans (h.1 c c1 c2), h2.2.trans h.2⟩
theorem FrT_w (τ i : Nat) (v : Int32) (S : Mem) : FrT τ S (wrI S (τ + 8) i v) := ⟨fun c h _ => funext fun b => by rw [rdI_wrI, if_neg (fun z => h z.1)], rfl⟩
def wrV (L : Nat → Option (Env → Int)) (l : Nat) (A : AS) (one other sp : Int) : Int := match L l with
  | none => if l = 1 then 3 else 1
  | some v => v (envA A one other sp)
theorem isLaw_t (d : Nat) {l : Nat} (hl : l < 2) (S : Mem) : cal d 86 [vI (nI l)] S = some (some (vI 1), S) := by
  rcases (show l = 0 ∨ l = 1 by omega) with rfl | rfl
  · rw [B_X5_isLaw, if_pos (show nI 0 = 0 from rfl), gd_p isZ_1]
  · rw [B_X5_isLaw, if_neg (show ¬ nI 1 = 0 by decide), if_pos (show nI 1 = 1 from rfl), gd_p isZ_1]
theorem hasLaw_t (d τ : Nat) {l i j : Nat} (hl : l < 2) {S : Mem} (hi : i ≤ 300) (hj : j ≤ 300) (e4 : rdI S (τ + 4) l = nI i) (e5 : rdI S (τ + 5) l = nI j) : cal (d + 1) 85 [vR 5 τ, vI (nI l)] S = some (some (vI (b2i (decide (i < j)))), S) := by
  rw [B_X5_hasLaw, isLaw_t d hl, bI_s, if_neg (by decide), i2 hl, gd_t, gd_t, ix_nI (by omega), e4, e5]
  by_cases h : i < j
  · rw [if_neg (nI_ge h (by omega)), gd_p isZ_1, decide_eq_true h]; rfl
  · rw [if_pos (nI_le (by omega) (by omega)), gd_p isZ_0, decide_eq_false h]; rfl
theorem CP_T {S S' : Mem} {t τ : Nat} {A : AS} (h : CP S t A) (f : FrT τ S S') (hd : τ + 9 < t ∨ t + 7 ≤ τ) : CP S' t A := by
  refine ⟨fun k i hk hi => ?_, ?_⟩
  · rw [f.1 (t + k) (by omega) (by omega)]; exact h.1 k i hk hi
  · rw [f.1 (t + 5) (by omega) (by omega)]; exact h.2
theorem bd_of {x : Int} (h : 0 ≤ x) (h2 : x ≤ 16) : bd6 x := by unfold bd6; omega
theorem worth_c {S : Mem} {t τ : Nat} {A : AS} {L : Nat → Option (Env → Int)} (h : CP S t A) (I : Inv A) {l : Nat} (hl : l < 2) (hL : LC S τ l (L l)) (hd : τ + 9 < t ∨ t + 7 ≤ τ) {one other : Nat} (h1 : one ≤ 16) (h2 : other ≤ 16) (d : Nat) : ∃ S' b, cal (d + 3) 93 [vR 5 τ, vI (nI l), vR 1 t, vI (nI one), vI (nI other)] S = some (some (vI b), S') ∧ b.toInt = wrV L l A one other (if l = 1 then (bitc (aSparse A)).toInt else 0) ∧ FrT τ S S' := by
  rw [B_X5_worth]
  unfold wrV
  cases hv : L l with
  | none =>
    rw [hv] at hL
    obtain ⟨i, j, hi, hj, e4, e5, hji⟩ := hL
    rw [hasLaw_t (d + 1) τ hl hi hj e4 e5, bI_s, decide_eq_false (by omega), ite_b0, if_pos rfl]
    rcases (show l = 0 ∨ l = 1 by omega) with rfl | rfl
    · rw [if_neg (show ¬ nI 0 = 1 by decide)]
      exact ⟨S, 1, rfl, rfl, FrT_r⟩
    · rw [if_pos (show nI 1 = 1 from rfl)]
      exact ⟨S, 3, rfl, rfl, FrT_r⟩
  | some v =>
    rw [hv] at hL
    obtain ⟨i, j, cd, nb, hij, hj, e4, e5, ha, hC⟩ := hL
    have hS1 := FrT_w τ 0 (rdI S t 0) S
    have C1 := CP_T h hS1 hd
    generalize hS1' : wrI S (τ + 8) 0 (rdI S t 0) = S1 at hS1 C1
    have hS2 := FrT_t hS1 (FrT_w τ 1 (bitc (fOpens (A 1))) S1)
    have C2 := CP_T h hS2 hd
    generalize hS2' : wrI S1 (τ + 8) 1 (bitc (fOpens (A 1))) = S2 at hS2 C2
    have hS3 := FrT_t hS2 (FrT_t (FrT_t (FrT_w τ 2 (bitc (fUsed (A 1))) S2) (FrT_w τ 3 (nI one) _)) (FrT_w τ 4 (nI other) _))
    have C3 := CP_T h hS3 hd
    generalize hS3' : wrI (wrI (wrI S2 (τ + 8) 2 (bitc (fUsed (A 1)))) (τ + 8) 3 (nI one)) (τ + 8) 4 (nI other) = S3 at hS3 C3
    have x0 : ix 0 = 0 := rfl
    have x1 : ix 1 = 1 := rfl
    have x2 : ix 2 = 2 := rfl
    have x3 : ix 3 = 3 := rfl
    have x4 : ix 4 = 4 := rfl
    have x5 : ix 5 = 5 := rfl
    have q : ∀ k : Int32, (k = 0 ∨ k = 1 ∨ k = 2 ∨ k = 3 ∨ k = 4 ∨ k = 5) → inb k 6 = true := fun k hk => by
      rcases hk with rfl | rfl | rfl | rfl | rfl | rfl <;> decide
    rw [hasLaw_t (d + 1) τ hl (by omega) hj e4 e5, bI_s, decide_eq_true hij, ite_b0, if_neg (by decide), gd_p (q 0 (by decide)), x0, hS1', kc_opens C1, bI_s, sp_bitCount, bI_s, gd_p (q 1 (by decide)), x1, hS2', kc_used C2, bI_s, sp_bitCount, bI_s, gd_p (q 2 (by decide)), gd_p (q 3 (by decide)), gd_p (q 4 (by decide)), x2, x3, x4, hS3']
    have fin : ∀ sp : Int32, bd6 sp.toInt → (l = 1 → sp = bitc (aSparse A)) → ∃ S' b, ev (d + 2 + 1) 93 106 [vR 5 τ, vI (nI l), vR 1 t, vU, vU, vI 0, vI (rdI (wrI S3 (τ + 8) 5 sp) (τ + 4) (ix (nI l))), vI 0, vU, vU] [] (wrI S3 (τ + 8) 5 sp) = some (some (vI b), S') ∧ b.toInt = v (envA A one other sp.toInt) ∧ FrT τ S S' := by
      intro sp hsp _
      have hS4 := FrT_t hS3 (FrT_w τ 5 sp S3)
      have C4 := CP_T h hS4 hd
      have r4 : rdI (wrI S3 (τ + 8) 5 sp) (τ + 4) l = nI i := by rw [hS4.1 _ (by omega) (by omega)]; exact e4
      have r5 : rdI (wrI S3 (τ + 8) 5 sp) (τ + 5) l = nI j := by rw [hS4.1 _ (by omega) (by omega)]; exact e5
      have hA4 : AtC (wrI S3 (τ + 8) 5 sp) τ cd nb i j := fun x g1 g2 => by
        rw [hS4.1 _ (by omega) (by omega), hS4.1 _ (by omega) (by omega)]; exact ha x g1 g2
      have n5 : rdI (wrI S3 (τ + 8) 5 sp) (τ + 8) 5 = sp := by rw [rdI_wrI, if_pos ⟨rfl, rfl⟩]
      have nn : ∀ n, ¬ n = 5 → rdI (wrI S3 (τ + 8) 5 sp) (τ + 8) n = rdI S3 (τ + 8) n := fun n hn => by rw [rdI_wrI, if_neg (fun z => hn z.2)]
      have n4 : rdI S3 (τ + 8) 4 = nI other := by rw [← hS3', rdI_wrI, if_pos ⟨rfl, rfl⟩]
      have n3 : rdI S3 (τ + 8) 3 = nI one := by rw [← hS3', rdI_wrI, if_neg (by omega), rdI_wrI, if_pos ⟨rfl, rfl⟩]
      have n2 : rdI S3 (τ + 8) 2 = bitc (fUsed (A 1)) := by rw [← hS3', rdI_wrI, if_neg (by omega), rdI_wrI, if_neg (by omega), rdI_wrI, if_pos ⟨rfl, rfl⟩]
      have n1 : rdI S3 (τ + 8) 1 = bitc (fOpens (A 1)) := by rw [← hS3', rdI_wrI, if_neg (by omega), rdI_wrI, if_neg (by omega), rdI_wrI, if_neg (by omega), ← hS2', rdI_wrI, if_pos ⟨rfl, rfl⟩]
      have n0 : rdI S3 (τ + 8) 0 = A 0 0 := by rw [← hS3', rdI_wrI, if_neg (by omega), rdI_wrI, if_neg (by omega), rdI_wrI, if_neg (by omega), ← hS2', rdI_wrI, if_neg (by omega), ← hS1', rdI_wrI, if_pos ⟨rfl, rfl⟩]; exact c0 h (by decide)
      have hE : EOK (envA A one other sp.toInt) := envA_OK I (bd_small (by omega)) (bd_small (by omega)) hsp
      have hEC : EnvC (wrI S3 (τ + 8) 5 sp) τ t (alL l) (envA A one other sp.toInt) := by
        refine ⟨fun n hn _ => ?_, fun p hp => ?_, fun p hp => ?_⟩
        · rcases (show n = 0 ∨ n = 1 ∨ n = 2 ∨ n = 3 ∨ n = 4 ∨ n = 5 by omega) with rfl | rfl | rfl | rfl | rfl | rfl
          · rw [nn _ (by decide), n0]; rfl
          · rw [nn _ (by decide), n1]; rfl
          · rw [nn _ (by decide), n2]; rfl
          · rw [nn _ (by decide), n3, nI_toInt (by omega)]; rfl
          · rw [nn _ (by decide), n4, nI_toInt (by omega)]; rfl
          · rw [n5]; rfl
        · rw [c2 C4 p hp]; show _ = if p < 12 then (bitc (A 2 p)).toInt else 0
          rw [if_pos hp]
        · rw [c1 C4 p hp]; show _ = if p < 12 then (A 1 p + 1).toInt else 0
          rw [if_pos hp]
      obtain ⟨S5, st', v3, v4, v8, v9, e6, hst, ev6, k6⟩ := hC.2.2 (d + 1) τ t _ _ l j 0 0 vU vU vU vU ⟨hE, hEC, hl, r5, hj, hd⟩ hA4 (Nat.le_refl _) (by omega) (by omega)
      refine ⟨S5, rdI S5 (τ + 9) 0, ?_, ev6, FrT_t hS4 ⟨fun c _ h9 => k6.2.1 c h9, k6.2.2⟩⟩
      rw [ix_nI (by omega), r4]
      refine e6.trans ?_
      have r5' : rdI S5 (τ + 5) l = nI j := by rw [k6.2.1 _ (by omega)]; exact r5
      unfold lp
      rw [B_X5_worth_106]
      by_cases z : (300 : Int32) ≤ nI st'
      · rw [if_pos z, gd_p (show inb 0 64 = true by decide)]; rfl
      · rw [if_neg z, if_neg (nI_pos (by omega)), i2 hl, gd_t, ix_nI (by omega), r5', if_pos (nI_le (Nat.le_refl _) (by omega)), gd_p (show inb 0 64 = true by decide)]; rfl
    rcases (show l = 0 ∨ l = 1 by omega) with rfl | rfl
    · obtain ⟨S', b, e, hb, f⟩ := fin 0 ⟨by decide, by decide⟩ (fun z => absurd z (by decide))
      rw [if_neg (show ¬ nI 0 = 1 by decide), gd_p (q 5 (by decide)), gd_p (show inb (nI 0) 2 = true by decide), x5]
      exact ⟨S', b, e, hb, f⟩
    · obtain ⟨p, hp, ep, ep2⟩ := bitc_ok (show ∃ k, k < 65536 ∧ aSparse A = nI k by
        have := sparse_same (iL I) (iO I) (iGS I)
        unfold aSparse
        rw [this]
        unfold mSparse
        refine itN_ok (B := 65536) (fun f a hf ha => ?_) ⟨0, by decide, rfl⟩
        by_cases z : mUsed (A 1) (nI f) = true ∧ bitc (mLiveIn (A 1) (A 2) (nI f)) ≤ 8 ∧ mBound (A 0 3) (A 0 4) (nI f) = false
        · rw [if_pos z, shl1 (by omega)]; exact or_ok (e := 16) ha ⟨2 ^ f, pw (by omega), rfl⟩
        · rw [if_neg z]; exact ha)
      obtain ⟨S', b, e, hb, f⟩ := fin (bitc (aSparse A)) (by rw [ep2]; exact bd_small (by omega)) (fun _ => rfl)
      rw [if_pos (show nI 1 = 1 from rfl), kc_sparse C3, bI_s, sp_bitCount, bI_s, gd_p (q 5 (by decide)), gd_p (show inb (nI 1) 2 = true by decide), x5]
      exact ⟨S', b, e, hb, f⟩
