/-! days, years -/
def dN (Z : Zs) : Nat := ix (zA Z 0 0)
theorem dN_e {Z : Zs} (I : ZI Z) : dN Z ≤ 9999 ∧ zA Z 0 0 = nI (dN Z) := by
  obtain ⟨dd, hd, e⟩ := iD (zAI I)
  unfold dN
  rw [e, ix_nI (by omega)]
  exact ⟨hd, rfl⟩
theorem dayZ_c {S : Mem} {x : Nat} {Z : Zs} (h : ClR S x Z) (I : ZI Z) (d : Nat) : ∃ τ S', cal (d + 7) 149 [vR 7 x] S = some (some (vR 5 τ), S) ∧ cal (d + 7) 44 [vR 1 (x + 27 + 1), vR 5 τ] S = some (some (vI (b2i (dyD (zA Z)))), S') ∧ ClR S' x (zUp Z (dayA (zL Z) (zA Z)) (zN Z) (zSt Z)) ∧ FrX x S S' := by
  obtain ⟨τ, er, hτ, l0, l1⟩ := ruling_c h I (d + 6)
  obtain ⟨S2, e2, h2, f2⟩ := day_c (L := zL Z) (cA h) (zAI I) l0 l1 (tx_d hτ) (d + 1)
  have fx := FrX_K f2 (Or.inl rfl) hτ
  refine ⟨τ, S2, er, e2, ClR_up h fx h2 (StC_k (cS' h) (fun c c1 c2 => f2.1 c (by omega) ?_ ?_)), fx⟩
  · rcases hτ with rfl | ⟨j, hj, rfl⟩ <;> omega
  · rcases hτ with rfl | ⟨j, hj, rfl⟩ <;> omega
theorem dayZ_m {S : Mem} {r : Nat} {Z : Zs} (h : MoR S r Z) (I : ZI Z) (d : Nat) : ∃ S', cal (d + 8) 254 [vR 8 r] S = some (none, S') ∧ MoR S' r (zUp Z (dayA (zL Z) (zA Z)) (zN Z) (zSt Z)) ∧ rdI S' r 25 = (if dyD (zA Z) = true then rdI S r 25 + 1 else rdI S r 25) ∧ FrY r S S' := by
  obtain ⟨S2, e2, h2, h25, f2⟩ := day_m (L := zL Z) (mA h) (zAI I) (ruling_m h I 0 (by decide)) (ruling_m h I 1 (by decide)) d
  have fy := FrY_D f2
  exact ⟨S2, e2, MoR_up h fy h2 (StM_k (mS' h) (fun i hi => f2.1 (r + 1) i (by omega) (by omega) (by omega) (by omega) (by omega) (by omega))) I.1.2.2.2.2.2.1, h25, fy⟩
theorem dayZ_I {Z : Zs} (I : ZI Z) (hd : dN Z < 9999) : ZI (zUp Z (dayA (zL Z) (zA Z)) (zN Z) (zSt Z)) := ZI_up I (day_Inv (zL Z) (zAI I) (dN_e I).2 hd) I.1.2.2.1 I.1.2.1
theorem dayZ_d {Z : Zs} (I : ZI Z) {n : Nat} {St : Nat → AS} : dN (zUp Z (dayA (zL Z) (zA Z)) n St) = dN Z + 1 := by
  have h := dN_e I
  have e : dayA (zL Z) (zA Z) 0 0 = nI (dN Z + 1) := day_00 (zL Z) h.2
  show ix (dayA (zL Z) (zA Z) 0 0) = _
  rw [e, ix_nI (by omega)]
theorem kpZ_c {S S1 : Mem} {x : Nat} {Z : Zs} (h : ClR S x Z) (k : KtC x Z S S1) : ClR S1 x (zK' Z (zA Z)) := ClR_up h k.2.2.1 k.1 k.2.1
theorem kpZ_m {S S1 : Mem} {r : Nat} {Z : Zs} (h : MoR S r Z) (I : ZI Z) (k : KtM r Z S S1) : MoR S1 r (zK' Z (zA Z)) := MoR_up h k.2.2.1 k.1 k.2.1 I.1.2.2.2.2.2.1
def pdS (s : Zs × Nat) : Zs × Nat := if dN s.1 < 9999 then (zK' s.1 (dayA (zL s.1) (zA s.1)), s.2 + (if dyD (zA s.1) = true then 1 else 0)) else s
def pdN : Nat → Zs × Nat → Zs × Nat
  | 0, s => s
  | m + 1, s => pdN m (pdS s)
theorem pdS_I {s : Zs × Nat} (I : ZI s.1) : ZI (pdS s).1 := by
  unfold pdS
  by_cases h : dN s.1 < 9999
  · rw [if_pos h]; exact zK_I I (day_Inv _ (zAI I) (dN_e I).2 h)
  · rw [if_neg h]; exact I
theorem pdN_I : ∀ (m : Nat) {s : Zs × Nat}, ZI s.1 → ZI (pdN m s).1
  | 0, _, I => I
  | m + 1, _, I => pdN_I m (pdS_I I)
theorem pdN_9 : ∀ (m : Nat) {s : Zs × Nat}, ¬ dN s.1 < 9999 → pdN m s = s
  | 0, _, _ => rfl
  | m + 1, s, h => by
    have e : pdS s = s := if_neg h
    show pdN m (pdS s) = s
    rw [e]; exact pdN_9 m h
theorem pdS_p {s : Zs × Nat} (h : dN s.1 < 9999) : pdS s = (zK' s.1 (dayA (zL s.1) (zA s.1)), s.2 + (if dyD (zA s.1) = true then 1 else 0)) := if_pos h
theorem pd_c {x : Nat} (d n : Nat) (hn : n ≤ 60) : ∀ (m i c : Nat) {S : Mem} {Z : Zs}, i + m = n → c ≤ i → ClR S x Z → ZI Z → OkC x S (ev (d + 9) 150 4 [vR 7 x, vI (nI n), vI (nI c), vI (nI i)] [] S) (nI (pdN m (Z, c)).2) (pdN m (Z, c)).1
  | 0, i, c, S, Z, hi, hc, h, I => by
    rw [B_X7_passDays_4, if_pos (nI_le (by omega) (by omega))]
    exact OkC_0 h
  | m + 1, i, c, S, Z, hi, hc, h, I => by
    obtain ⟨hd, ed⟩ := dN_e I
    rw [B_X7_passDays_4, if_neg (nI_ge (show i < n by omega) (by omega)), c0 (cA h) (by decide), ed]
    by_cases h9 : dN Z < 9999
    · obtain ⟨S1, e1, k⟩ := kt_c h (d + 6)
      have h1 := kpZ_c h k
      have I1 : ZI (zK' Z (zA Z)) := zK_I I (zAI I)
      obtain ⟨τ, S2, er, e2, h2, f2⟩ := dayZ_c h1 I1 (d + 1)
      have fx := FrX_t k.2.2.1 f2
      have hI : ZI (zK' Z (dayA (zL Z) (zA Z))) := zK_I I (day_Inv _ (zAI I) ed h9)
      have eD : dyD (zA (zK' Z (zA Z))) = dyD (zA Z) := rfl
      rw [if_neg (show ¬ (9999 : Int32) ≤ nI (dN Z) from nI_ge (b := 9999) h9 (by decide)), e1, bV_s, er, bR_s, e2, bI_s, ite_b0, nI_1, nI_1, eD]
      show OkC x S _ (nI (pdN m (pdS (Z, c))).2) (pdN m (pdS (Z, c))).1
      rw [pdS_p (s := (Z, c)) h9]
      show OkC x S _ (nI (pdN m (zK' Z (dayA (zL Z) (zA Z)), c + (if dyD (zA Z) = true then 1 else 0))).2) (pdN m (zK' Z (dayA (zL Z) (zA Z)), c + (if dyD (zA Z) = true then 1 else 0))).1
      cases hD : dyD (zA Z)
      · rw [if_pos rfl, if_neg (by decide), Nat.add_zero]
        obtain ⟨S3, e3, h3, f3⟩ := pd_c d n hn m (i + 1) c (by omega) (by omega) h2 hI
        exact ⟨S3, e3, h3, FrX_t fx f3⟩
      · rw [if_neg (by decide), if_pos rfl]
        obtain ⟨S3, e3, h3, f3⟩ := pd_c d n hn m (i + 1) (c + 1) (by omega) (by omega) h2 hI
        exact ⟨S3, e3, h3, FrX_t fx f3⟩
    · rw [if_pos (show (9999 : Int32) ≤ nI (dN Z) from nI_le (a := 9999) (by omega) (by omega)), pdN_9 (m + 1) (s := (Z, c)) h9]
      exact OkC_0 h
theorem pd_m {r : Nat} (d n : Nat) (hn : n ≤ 60) : ∀ (m i c : Nat) {S : Mem} {Z : Zs}, i + m = n → c ≤ i → rdI S r 25 = nI c → MoR S r Z → ZI Z → ∃ S', ev (d + 9) 268 7 [vR 8 r, vI (nI n), vI (nI i)] [] S = some (some (vI (b2i (decide (dN Z + m ≤ 9999)))), S') ∧ MoR S' r (pdN m (Z, c)).1 ∧ rdI S' r 25 = nI (pdN m (Z, c)).2 ∧ FrY r S S'
  | 0, i, c, S, Z, hi, hc, h25, h, I => by
    obtain ⟨hd, ed⟩ := dN_e I
    rw [B_X8_arePassed_7, if_pos (nI_le (by omega) (by omega)), gd_p isZ_1, decide_eq_true (by omega)]
    exact ⟨S, rfl, h, h25, FrY_r⟩
  | m + 1, i, c, S, Z, hi, hc, h25, h, I => by
    obtain ⟨hd, ed⟩ := dN_e I
    have e4 : rdI S (r + 1) 4 = nI (dN Z) := (m0 (mA h) (j := 0) (by decide)).trans ed
    rw [B_X8_arePassed_7, if_neg (nI_ge (show i < n by omega) (by omega)), i13_4, gd_t, x13_4, e4]
    by_cases h9 : dN Z < 9999
    · have hne : ¬ nI (dN Z) = 9999 := fun z => by have := (nI_eq (b := 9999) (by omega) (by decide)).mp z; omega
      obtain ⟨S1, e1, k⟩ := kt_m h (d + 7)
      have h1 := kpZ_m h I k
      have I1 : ZI (zK' Z (zA Z)) := zK_I I (zAI I)
      obtain ⟨S2, e2, h2, q25, f2⟩ := dayZ_m h1 I1 d
      have fy := FrY_t k.2.2.1 f2
      have hI : ZI (zK' Z (dayA (zL Z) (zA Z))) := zK_I I (day_Inv _ (zAI I) ed h9)
      have k25 : rdI S1 r 25 = nI c := (k.2.2.2 r 25 (by omega)).trans h25
      have eD : dyD (zA (zK' Z (zA Z))) = dyD (zA Z) := rfl
      have edd : dN (zK' Z (dayA (zL Z) (zA Z))) = dN Z + 1 := dayZ_d I
      rw [if_neg hne, e1, bV_s, e2, bV_s, nI_1]
      show ∃ S', _ ∧ MoR S' r (pdN m (pdS (Z, c))).1 ∧ rdI S' r 25 = nI (pdN m (pdS (Z, c))).2 ∧ _
      rw [pdS_p (s := (Z, c)) h9]
      show ∃ S', _ ∧ MoR S' r (pdN m (zK' Z (dayA (zL Z) (zA Z)), c + (if dyD (zA Z) = true then 1 else 0))).1 ∧ rdI S' r 25 = nI (pdN m (zK' Z (dayA (zL Z) (zA Z)), c + (if dyD (zA Z) = true then 1 else 0))).2 ∧ _
      rw [eD, k25] at q25
      have e26 : decide (dN Z + (m + 1) ≤ 9999) = decide (dN (zK' Z (dayA (zL Z) (zA Z))) + m ≤ 9999) := by
        rw [edd]; exact decide_eq_decide.mpr (by omega)
      rw [e26]
      cases hD : dyD (zA Z)
      · rw [hD, if_neg (by decide)] at q25
        rw [if_neg (by decide), Nat.add_zero]
        obtain ⟨S3, e3, h3, t3, f3⟩ := pd_m d n hn m (i + 1) c (by omega) (by omega) q25 h2 hI
        exact ⟨S3, e3, h3, t3, FrY_t fy f3⟩
      · rw [hD, if_pos rfl, nI_1] at q25
        rw [if_pos rfl]
        obtain ⟨S3, e3, h3, t3, f3⟩ := pd_m d n hn m (i + 1) (c + 1) (by omega) (by omega) q25 h2 hI
        exact ⟨S3, e3, h3, t3, FrY_t fy f3⟩
    · have he : nI (dN Z) = 9999 := by rw [show dN Z = 9999 by omega]; rfl
      rw [if_pos he, gd_p isZ_0, decide_eq_false (by omega), pdN_9 (m + 1) (s := (Z, c)) h9]
      exact ⟨S, rfl, h, h25, FrY_r⟩
def daZ (Z : Zs) (a : Int32) : Int32 × Zs := if inb (a - 1) 60 = true ∧ dN Z + ix a ≤ 9999 then (nI (pdN (ix a) (Z, 0)).2, (pdN (ix a) (Z, 0)).1) else (-1, Z)
theorem daZ_I {Z : Zs} (I : ZI Z) (a : Int32) : ZI (daZ Z a).2 := by
  unfold daZ
  by_cases h : inb (a - 1) 60 = true ∧ dN Z + ix a ≤ 9999
  · rw [if_pos h]; exact pdN_I _ I
  · rw [if_neg h]; exact I
/-- a number from 1 to N -/
theorem rng1 {N : Nat} (hN : N < 1000) (a : Int32) : (a < 1 ∧ inb (a - 1) N = false) ∨ (nI N < a ∧ ¬ a < 1 ∧ inb (a - 1) N = false) ∨ ∃ k, 1 ≤ k ∧ k ≤ N ∧ a = nI k ∧ inb (a - 1) N = true ∧ ¬ a < 1 ∧ ¬ nI N < a := by
  by_cases h1 : a < 1
  · refine Or.inl ⟨h1, ?_⟩
    cases hb : inb (a - 1) N
    · rfl
    · obtain ⟨p, hp, e⟩ := inb_ex hb (by omega)
      have ea : a = nI (p + 1) := by
        rw [← nI_1, ← e, Int32.sub_add_cancel]
      rw [ea] at h1
      exact absurd h1 (nlt1 (by omega) (by omega))
  · have h0 : ¬ a < 0 := fun z => h1 (Int32.lt_of_lt_of_le z (by decide))
    obtain ⟨j, hj, rfl⟩ := nI_of h0
    have hj1 : 1 ≤ j := by
      rcases Nat.lt_or_ge j 1 with z | z
      · exact absurd (nI_lt (b := 1) z (by decide)) h1
      · exact z
    rw [s1_sub (by omega), inb_nI (by omega)]
    by_cases h2 : N < j
    · exact Or.inr (Or.inl ⟨nI_lt h2 hj, h1, decide_eq_false (by omega)⟩)
    · exact Or.inr (Or.inr ⟨j, hj1, by omega, rfl, decide_eq_true (by omega), h1, nI_nlt (by omega) (by omega)⟩)
theorem isIn1 {N : Nat} (hN : N < 1000) (a : Int32) : (decide ((1 : Int32) ≤ a) && decide (a ≤ nI N)) = inb (a - 1) N := by
  rcases rng1 hN a with ⟨h1, e⟩ | ⟨h1, h2, e⟩ | ⟨k, k1, k2, -, e, h1, h2⟩
  · rw [e, decide_eq_false (Int32.not_le.mpr h1), Bool.false_and]
  · rw [e, decide_eq_false (p := a ≤ nI N) (Int32.not_le.mpr h1), Bool.and_false]
  · rw [e, decide_eq_true (Int32.not_lt.mp h1), decide_eq_true (Int32.not_lt.mp h2)]; rfl
theorem da_c {S : Mem} {x : Nat} {Z : Zs} (h : ClR S x Z) (I : ZI Z) (a : Int32) (d : Nat) : OkC x S (cal (d + 10) 112 [vR 7 x, vI a] S) (daZ Z a).1 (daZ Z a).2 := by
  obtain ⟨hd, ed⟩ := dN_e I
  rw [B_X7_day, c0 (cA h) (by decide), ed]
  unfold daZ
  rcases rng1 (N := 60) (by decide) a with ⟨h1, e⟩ | ⟨h1, h2, e⟩ | ⟨k, k1, k2, rfl, e, h1, h2⟩
  · rw [if_pos h1, if_neg (fun z => by rw [e] at z; cases z.1)]; exact OkC_0 h
  · rw [if_neg h2, if_pos (show (60 : Int32) < a from h1), if_neg (fun z => by rw [e] at z; cases z.1)]; exact OkC_0 h
  · rw [if_neg h1, if_neg (show ¬ (60 : Int32) < nI k from h2), nI_add, ix_nI (by omega)]
    by_cases h9 : dN Z + k ≤ 9999
    · obtain ⟨S1, e1, h3, f1⟩ := pd_c (x := x) d k k2 k 0 0 (Nat.zero_add k) (Nat.le_refl _) h I
      have e1' : cal (d + 9) 150 [vR 7 x, vI (nI k)] S = some (some (vI (nI (pdN k (Z, 0)).2)), S1) := by rw [B_X7_passDays]; exact e1
      rw [if_pos (show nI (dN Z + k) ≤ 9999 from nI_le (b := 9999) h9 (by decide)), e1', bI_s, if_pos ⟨e, h9⟩]
      exact ⟨S1, rfl, h3, f1⟩
    · rw [if_neg (show ¬ nI (dN Z + k) ≤ 9999 from nI_ge (a := 9999) (by omega) (by omega)), if_neg (fun z => h9 z.2)]
      exact OkC_0 h
theorem MoR_25 {S : Mem} {r : Nat} {Z : Zs} (h : MoR S r Z) (I : ZI Z) (v : Int32) : MoR (wrI S r 25 v) r Z ∧ FrY r S (wrI S r 25 v) := by
  have fy := FrY_D (FrD_w r v S)
  exact ⟨MoR_up h fy (RP_o (mA h) (funext fun b => by rw [rdI_wrI, if_neg (by omega)])) (StM_k (mS' h) (fun i _ => by rw [rdI_wrI, if_neg (by omega)])) I.1.2.2.2.2.2.1, fy⟩
theorem ap_m {S : Mem} {r : Nat} {Z : Zs} (h : MoR S r Z) (I : ZI Z) {k : Nat} (hk : k ≤ 60) (d : Nat) : ∃ S', cal (d + 9) 268 [vR 8 r, vI (nI k)] S = some (some (vI (b2i (decide (dN Z + k ≤ 9999)))), S') ∧ MoR S' r (pdN k (Z, 0)).1 ∧ rdI S' r 25 = nI (pdN k (Z, 0)).2 ∧ FrY r S S' := by
  obtain ⟨h0, f0⟩ := MoR_25 h I 0
  obtain ⟨S1, e1, h1, t1, f1⟩ := pd_m d k hk k 0 0 (Nat.zero_add k) (Nat.le_refl _) (show rdI (wrI S r 25 0) r 25 = nI 0 by rw [rdI_wrI, if_pos ⟨rfl, rfl⟩]; rfl) h0 I
  rw [B_X8_arePassed]
  exact ⟨S1, e1, h1, t1, FrY_t f0 f1⟩
theorem da_m {S : Mem} {r : Nat} {Z : Zs} (h : MoR S r Z) (I : ZI Z) (a : Int32) (d : Nat) : OkM r S (cal (d + 10) 269 [vR 8 r, vI a] S) (daZ Z a).1 (daZ Z a).2 := by
  obtain ⟨hd, ed⟩ := dN_e I
  have e4 : rdI S (r + 1) 4 = nI (dN Z) := (m0 (mA h) (j := 0) (by decide)).trans ed
  have e60 : (decide ((1 : Int32) ≤ a) && decide (a ≤ (60 : Int32))) = inb (a - 1) 60 := isIn1 (N := 60) (by decide) a
  rw [B_X8_day, sp_isIn, bI_s, e60, ite_b0]
  unfold daZ
  rcases rng1 (N := 60) (by decide) a with ⟨h1, e⟩ | ⟨h1, h2, e⟩ | ⟨k, k1, k2, rfl, e, h1, h2⟩
  · rw [e, if_pos rfl, if_neg (fun z => by cases z.1)]; exact OkM_0 h
  · rw [e, if_pos rfl, if_neg (fun z => by cases z.1)]; exact OkM_0 h
  · rw [e, if_neg (by decide), i13_4, gd_t, x13_4, e4, nI_add, ix_nI (by omega)]
    by_cases h9 : dN Z + k ≤ 9999
    · obtain ⟨S1, e1, h3, t1, f1⟩ := ap_m h I k2 d
      rw [if_neg (show ¬ (9999 : Int32) < nI (dN Z + k) from nI_nlt (a := 9999) h9 (by decide)), e1, bI_s, decide_eq_true h9, if_neg (show ¬ b2i true = 0 by decide), t1, if_pos ⟨rfl, h9⟩]
      exact ⟨S1, rfl, h3, f1⟩
    · rw [if_pos (show (9999 : Int32) < nI (dN Z + k) from nI_lt (a := 9999) (by omega) (by omega)), if_neg (fun z => h9 z.2)]
      exact OkM_0 h
/-! years -/
def ydN (L : Nat → Option (Env → Int)) : Nat → AS → AS
  | 0, A => A
  | m + 1, A => ydN L m (if ix (A 0 0) < 9999 then dayA L A else A)
theorem ydN_9 (L : Nat → Option (Env → Int)) : ∀ (m : Nat) {A : AS}, ¬ ix (A 0 0) < 9999 → ydN L m A = A
  | 0, _, _ => rfl
  | m + 1, A, h => by
    show ydN L m (if ix (A 0 0) < 9999 then dayA L A else A) = A
    rw [if_neg h]; exact ydN_9 L m h
theorem ydN_s (L : Nat → Option (Env → Int)) (m : Nat) {A : AS} (h : ix (A 0 0) < 9999) : ydN L (m + 1) A = ydN L m (dayA L A) := by
  show ydN L m (if ix (A 0 0) < 9999 then dayA L A else A) = _
  rw [if_pos h]
theorem ydN_I (L : Nat → Option (Env → Int)) : ∀ (m : Nat) {A : AS}, Inv A → Inv (ydN L m A)
  | 0, _, I => I
  | m + 1, A, I => by
    by_cases h : ix (A 0 0) < 9999
    · rw [ydN_s L m h]
      obtain ⟨dd, hd, e⟩ := iD I
      rw [e, ix_nI (by omega)] at h
      exact ydN_I L m (day_Inv L I e h)
    · rw [ydN_9 L (m + 1) h]; exact I
def zPg (Z : Zs) (A : AS) : Zs := zUp Z A (zN Z) (zSt Z)
theorem zPg_I {Z : Zs} (I : ZI Z) {A : AS} (hA : Inv A) : ZI (zPg Z A) := ZI_up I hA I.1.2.2.1 I.1.2.1
theorem yr_c {x : Nat} (d n : Nat) (hn : n ≤ 100) : ∀ (m i : Nat) {S : Mem} {Z : Zs} (u1 : AV), i + m = n → ClR S x Z → ZI Z → OkC x S (ev (d + 9) 114 60 [vR 7 x, u1, vI (nI n), vI (nI i)] [] S) (ydN (zL Z) m (zA Z) 0 0) (zPg Z (ydN (zL Z) m (zA Z)))
  | 0, i, S, Z, u1, hi, h, I => by
    rw [B_X7_years_60, if_pos (nI_le (by omega) (by omega)), c0 (cA h) (by decide)]
    exact OkC_0 h
  | m + 1, i, S, Z, u1, hi, h, I => by
    obtain ⟨hd, ed⟩ := dN_e I
    have ei : ix (zA Z 0 0) = dN Z := rfl
    rw [B_X7_years_60, if_neg (nI_ge (show i < n by omega) (by omega)), c0 (cA h) (by decide)]
    by_cases h9 : dN Z < 9999
    · obtain ⟨τ, S2, er, e2, h2, f2⟩ := dayZ_c h I (d + 1)
      obtain ⟨S3, e3, h3, f3⟩ := yr_c d n hn m (i + 1) vU (by omega) h2 (dayZ_I I h9)
      rw [if_neg (show ¬ (9999 : Int32) ≤ zA Z 0 0 by rw [ed]; exact nI_ge (b := 9999) h9 (by decide)), er, bR_s, e2, bI_s, nI_1, ydN_s _ _ h9]
      exact ⟨S3, e3, h3, FrX_t f2 f3⟩
    · rw [if_pos (show (9999 : Int32) ≤ zA Z 0 0 by rw [ed]; exact nI_le (a := 9999) (by omega) (by omega)), ydN_9 _ (m + 1) h9]
      exact OkC_0 h
theorem yr_m {r : Nat} (d n : Nat) (hn : n ≤ 100) : ∀ (m i : Nat) {S : Mem} {Z : Zs} (u1 : AV), i + m = n → MoR S r Z → ZI Z → OkM r S (ev (d + 9) 272 42 [vR 8 r, u1, vI (nI n), vI (nI i)] [] S) (ydN (zL Z) m (zA Z) 0 0) (zPg Z (ydN (zL Z) m (zA Z)))
  | 0, i, S, Z, u1, hi, h, I => by
    rw [B_X8_years_42, if_pos (nI_le (by omega) (by omega)), i13_4, gd_t, x13_4, show rdI S (r + 1) 4 = zA Z 0 0 from m0 (mA h) (j := 0) (by decide)]
    exact OkM_0 h
  | m + 1, i, S, Z, u1, hi, h, I => by
    obtain ⟨hd, ed⟩ := dN_e I
    rw [B_X8_years_42, if_neg (nI_ge (show i < n by omega) (by omega)), i13_4, gd_t, x13_4, show rdI S (r + 1) 4 = zA Z 0 0 from m0 (mA h) (j := 0) (by decide)]
    by_cases h9 : dN Z < 9999
    · obtain ⟨S2, e2, h2, -, f2⟩ := dayZ_m h I d
      obtain ⟨S3, e3, h3, f3⟩ := yr_m d n hn m (i + 1) vU (by omega) h2 (dayZ_I I h9)
      rw [if_neg (show ¬ (9999 : Int32) ≤ zA Z 0 0 by rw [ed]; exact nI_ge (b := 9999) h9 (by decide)), e2, bV_s, nI_1, ydN_s _ _ h9]
      exact ⟨S3, e3, h3, FrY_t f2 f3⟩
    · rw [if_pos (show (9999 : Int32) ≤ zA Z 0 0 by rw [ed]; exact nI_le (a := 9999) (by omega) (by omega)), nI_1, ydN_9 _ (m + 1) h9]
      obtain ⟨S3, e3, h3, f3⟩ := yr_m d n hn m (i + 1) vU (by omega) h I
      rw [ydN_9 _ m h9] at e3 h3
      exact ⟨S3, e3, h3, f3⟩
def seA (s : Nat) (A : AS) : AS := up A 0 1 (nI (s * 2 + 503))
theorem seA_I {A : AS} (I : Inv A) {s : Nat} (hs : s ≤ 9999) : Inv (seA s A) := by
  obtain ⟨i1, i2, i3, i4, i5, i6, i7, i8, i9, i10⟩ := I
  have k : ∀ a, ¬ a = 0 → seA s A a = A a := fun a ha => up_k ha
  have k0 : ∀ j, ¬ j = 1 → seA s A 0 j = A 0 j := fun j hj => up_n (fun z => hj z.2)
  exact ⟨by rw [k 1 (by decide)]; exact i1, by rw [k 2 (by decide)]; exact i2, by rw [k 1 (by decide), k 2 (by decide)]; exact i3, by rw [k 1 (by decide), k 2 (by decide)]; exact i4, by unfold GSOK; rw [k0 3 (by decide), k0 4 (by decide), k0 5 (by decide), k 1 (by decide), k 2 (by decide)]; exact i5, ⟨s * 2 + 503, by omega, up_s _ _ _ _⟩, DOK_c (k0 0 (by decide)) i7, by unfold VcOK; rw [k 1 (by decide), k 3 (by decide)]; exact i8, by unfold VlOK; rw [k 4 (by decide)]; exact i9, LnOK_c (k0 6 (by decide)) i10⟩
def yeA (Z : Zs) (s n : Nat) : AS := ydN (zL Z) n (seA s (zA Z))
def yeZ (Z : Zs) (a b : Int32) : Int32 × Zs := if inb a 10000 = true ∧ inb (b - 1) 40 = true then (yeA Z (ix a) (ix b) 0 0, zK' Z (yeA Z (ix a) (ix b))) else (-1, Z)
theorem yeZ_I {Z : Zs} (I : ZI Z) (a b : Int32) : ZI (yeZ Z a b).2 := by
  unfold yeZ
  by_cases h : inb a 10000 = true ∧ inb (b - 1) 40 = true
  · rw [if_pos h]
    obtain ⟨p, hp, rfl⟩ := inb_ex h.1 (by decide)
    rw [ix_nI (by omega)]
    exact zK_I I (ydN_I _ _ (seA_I (zAI I) (by omega)))
  · rw [if_neg h]; exact I
theorem rng0 {N : Nat} (hN : N < 20000) (a : Int32) : (a < 0 ∧ inb a (N + 1) = false) ∨ (¬ a < 0 ∧ nI N < a ∧ inb a (N + 1) = false) ∨ ∃ k, k ≤ N ∧ a = nI k ∧ inb a (N + 1) = true ∧ ¬ a < 0 ∧ ¬ nI N < a := by
  by_cases h0 : a < 0
  · refine Or.inl ⟨h0, ?_⟩
    cases hb : inb a (N + 1)
    · rfl
    · obtain ⟨p, hp, rfl⟩ := inb_ex hb (by omega)
      exact absurd h0 (nI_pos (by omega))
  · obtain ⟨j, hj, rfl⟩ := nI_of h0
    rw [inb_nI hj]
    by_cases h2 : N < j
    · exact Or.inr (Or.inl ⟨h0, nI_lt h2 hj, decide_eq_false (by omega)⟩)
    · exact Or.inr (Or.inr ⟨j, by omega, rfl, decide_eq_true (by omega), h0, nI_nlt (by omega) (by omega)⟩)
theorem ye_c {S : Mem} {x : Nat} {Z : Zs} (h : ClR S x Z) (I : ZI Z) (a b : Int32) (d : Nat) : OkC x S (cal (d + 9) 114 [vR 7 x, vI a, vI b] S) (yeZ Z a b).1 (yeZ Z a b).2 := by
  rw [B_X7_years]
  unfold yeZ
  rcases rng0 (N := 9999) (by decide) a with ⟨h1, e⟩ | ⟨h1, h2, e⟩ | ⟨s, s1, rfl, e, h1, h2⟩
  · rw [if_pos h1, if_neg (fun z => by rw [e] at z; cases z.1)]; exact OkC_0 h
  · rw [if_neg h1, if_pos (show (9999 : Int32) < a from h2), if_neg (fun z => by rw [e] at z; cases z.1)]; exact OkC_0 h
  · rw [if_neg h1, if_neg (show ¬ (9999 : Int32) < nI s from h2)]
    rcases rng1 (N := 40) (by decide) b with ⟨g1, e'⟩ | ⟨g1, g2, e'⟩ | ⟨k, k1, k2, rfl, e', g1, g2⟩
    · rw [if_pos g1, if_neg (fun z => by rw [e'] at z; cases z.2)]; exact OkC_0 h
    · rw [if_neg g2, if_neg (show ¬ b ≤ (40 : Int32) from Int32.not_le.mpr g1), if_neg (fun z => by rw [e'] at z; cases z.2)]; exact OkC_0 h
    · obtain ⟨S1, e1, kk⟩ := kt_c h (d + 6)
      have es : nI s * 2 + 503 = nI (s * 2 + 503) := by
        show nI s * nI 2 + nI 503 = _
        rw [pk_mul, nI_add]
      have w : CP (wrI S1 (x + 27 + 1) 1 (nI (s * 2 + 503))) (x + 27 + 1) (seA s (zA Z)) := CP_w kk.1 (k := 0) (i := 1) (by decide) (by decide) _
      obtain ⟨c1', f1⟩ := fin_C h kk (FrC_w (by omega) (by omega)) w
      have I1 : ZI (zK' Z (seA s (zA Z))) := zK_I I (seA_I (zAI I) s1)
      obtain ⟨S3, e3, h3, f3⟩ := yr_c (x := x) d k (by omega) k 0 (vI (nI s)) (Nat.zero_add k) c1' I1
      rw [if_neg g1, if_pos (show nI k ≤ (40 : Int32) from Int32.not_lt.mp g2), e1, bV_s, es, if_pos ⟨e, e'⟩, ix_nI (by omega), ix_nI (by omega)]
      exact ⟨S3, e3, h3, FrX_t f1 f3⟩
theorem ye_m {S : Mem} {r : Nat} {Z : Zs} (h : MoR S r Z) (I : ZI Z) (a b : Int32) (d : Nat) : OkM r S (cal (d + 9) 272 [vR 8 r, vI a, vI b] S) (yeZ Z a b).1 (yeZ Z a b).2 := by
  have e1 : (decide ((0 : Int32) ≤ a) && decide (a ≤ (9999 : Int32))) = inb a 10000 := isIn_inb 9999 (by decide) a
  have e2 : (decide ((1 : Int32) ≤ b) && decide (b ≤ (40 : Int32))) = inb (b - 1) 40 := isIn1 (N := 40) (by decide) b
  rw [B_X8_years, sp_isIn, bI_s, e1, ite_b0]
  unfold yeZ
  cases ha : inb a 10000
  · rw [if_pos rfl, if_neg (fun z => by cases z.1)]; exact OkM_0 h
  · rw [if_neg (by decide), sp_isIn, bI_s, e2, ite_b0]
    cases hb : inb (b - 1) 40
    · rw [if_pos rfl, if_neg (fun z => by cases z.2)]; exact OkM_0 h
    · obtain ⟨s, hs, rfl⟩ := inb_ex ha (by decide)
      rcases rng1 (N := 40) (by decide) b with ⟨g1, e'⟩ | ⟨g1, g2, e'⟩ | ⟨k, k1, k2, rfl, e', g1, g2⟩
      · rw [hb] at e'; cases e'
      · rw [hb] at e'; cases e'
      · obtain ⟨S1, e1, kk⟩ := kt_m h (d + 7)
        have es : nI s * 2 + 503 = nI (s * 2 + 503) := by
          show nI s * nI 2 + nI 503 = _
          rw [pk_mul, nI_add]
        have w : RP (wrI S1 (r + 1) 5 (nI (s * 2 + 503))) (r + 1) 4 (seA s (zA Z)) := RP_w kk.1 (k := 0) (i := 1) (by decide) (by decide) (by decide) _ (fun z => absurd z (by decide))
        obtain ⟨c1', f1⟩ := fin_M h I kk (FrM_w (by omega) (by omega)) w
        have I1 : ZI (zK' Z (seA s (zA Z))) := zK_I I (seA_I (zAI I) (by omega))
        obtain ⟨S3, e3, h3, f3⟩ := yr_m (r := r) d k (by omega) k 0 (vI (nI s)) (Nat.zero_add k) c1' I1
        rw [if_neg (by decide), e1, bV_s, i13_5, gd_t, x13_5, es, if_pos ⟨rfl, rfl⟩, ix_nI (by omega), ix_nI (by omega)]
        exact ⟨S3, e3, h3, FrY_t f1 f3⟩
