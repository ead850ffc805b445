/-! what comes, what can be, what is let: class and reference -/
theorem ClR_K {S S' : Mem} {x τ : Nat} {Z : Zs} (h : ClR S x Z) (hτ : TxP x τ) (f : FrK (x + 469) τ S S') : ClR S' x Z ∧ FrX x S S' := by
  have fx := FrX_K f (Or.inr rfl) hτ
  have e : ∀ c, x + 28 ≤ c → c < x + 247 → rdI S' c = rdI S c := fun c c1 c2 => f.1 c (by omega) (by rcases hτ with rfl | ⟨j, hj, rfl⟩ <;> omega) (by rcases hτ with rfl | ⟨j, hj, rfl⟩ <;> omega)
  exact ⟨ClR_up h fx (CP_e (cA h) (fun c c1 c2 => e c (by omega) (by omega))) (StC_k (cS' h) (fun c c1 c2 => e c (by omega) (by omega))), fx⟩
theorem trial_c {S : Mem} {x : Nat} {Z : Zs} (h : ClR S x Z) (d : Nat) : ∃ S1, cal (d + 1) 5 [vR 1 (x + 469), vR 1 (x + 27 + 1)] S = some (none, S1) ∧ ClR S1 x Z ∧ FrX x S S1 ∧ CP S1 (x + 469) (zA Z) := by
  obtain ⟨e, f, k⟩ := copy_c (a := x + 469) (b := x + 27 + 1) (by omega) d S
  obtain ⟨c, fx⟩ := ClR_K h (Or.inl rfl) (FrK_C (x + 17) f)
  exact ⟨_, e, c, fx, k _ (cA h)⟩
theorem tx_d2 {x τ : Nat} (hτ : TxP x τ) : τ + 9 < x + 469 ∨ x + 469 + 7 ≤ τ := by rcases hτ with rfl | ⟨j, hj, rfl⟩ <;> omega
def foV (B : AS) (w : Nat) : Int32 := if w = 0 then bitc (fUsed (B 1)) else if w = 1 then fTotal (B 2) else B 0 2
def foZ (Z : Zs) (a b : Int32) : Int32 := if inb (a - 1) 60 = true ∧ inb b 3 = true then foV (ydN (zL Z) (ix a) (zA Z)) (ix b) else -1
theorem fo_c {x : Nat} {Z : Zs} (I : ZI Z) (d n w : Nat) (hn : n ≤ 60) (hw : w < 3) : ∀ (m i : Nat) {S : Mem} {B : AS}, i + m = n → ClR S x Z → CP S (x + 469) B → Inv B → OkC x S (ev (d + 9) 122 38 [vR 7 x, vI (nI n), vI (nI w), vI (nI i)] [] S) (foV (ydN (zL Z) m B) w) Z
  | m, i, S, B, hi, h, hB, IB => by
    have ret : ∀ (X : Option Res), OkC x S (if nI w = 0 then bI (cal (d + 8) 16 [vR 1 (x + 469)] S) (fun x2 S1 => bI (cal (d + 8) 318 [vI x2] S1) (fun x4 S3 => some (some (vI x4), S3))) else (if nI w = 1 then bI (cal (d + 8) 18 [vR 1 (x + 469)] S) (fun x6 S5 => some (some (vI x6), S5)) else (some (some (vI (rdI S (x + 469) 2)), S)))) (foV B w) Z := by
      intro _
      unfold foV
      rcases (show w = 0 ∨ w = 1 ∨ w = 2 by omega) with rfl | rfl | rfl
      · rw [if_pos (show nI 0 = 0 from rfl), kc_used hB, bI_s, sp_bitCount, bI_s, if_pos rfl]; exact OkC_0 h
      · rw [if_neg (show ¬ nI 1 = 0 by decide), if_pos (show nI 1 = 1 from rfl), kc_total hB, bI_s, if_neg (by decide), if_pos rfl]; exact OkC_0 h
      · rw [if_neg (show ¬ nI 2 = 0 by decide), if_neg (show ¬ nI 2 = 1 by decide), c0 hB (by decide), if_neg (by decide), if_neg (by decide)]; exact OkC_0 h
    rw [B_X7_foretold_38]
    cases m with
    | zero =>
      rw [if_pos (nI_le (by omega) (by omega))]
      exact ret none
    | succ m =>
      obtain ⟨dd, hd, ed⟩ := iD IB
      have ei : ix (B 0 0) = dd := by rw [ed, ix_nI (by omega)]
      rw [if_neg (nI_ge (show i < n by omega) (by omega)), c0 hB (by decide), ed]
      by_cases h9 : dd < 9999
      · obtain ⟨τ, er, hτ, l0, l1⟩ := ruling_c h I (d + 7)
        obtain ⟨S2, e2, h2, f2⟩ := day_c (L := zL Z) hB IB l0 l1 (tx_d2 hτ) (d + 2)
        obtain ⟨c2', fx⟩ := ClR_K h hτ f2
        obtain ⟨S3, e3, h3, f3⟩ := fo_c I d n w hn hw m (i + 1) (by omega) c2' h2 (day_Inv _ IB ed h9)
        rw [if_neg (show ¬ (9999 : Int32) ≤ nI dd from nI_ge (b := 9999) h9 (by decide)), er, bR_s, e2, bI_s, nI_1, ydN_s _ _ (by rw [ei]; exact h9)]
        exact ⟨S3, e3, h3, FrX_t fx f3⟩
      · rw [if_pos (show (9999 : Int32) ≤ nI dd from nI_le (a := 9999) (by omega) (by omega)), ydN_9 _ (m + 1) (by rw [ei]; exact h9)]
        exact ret none
theorem foZ_c {S : Mem} {x : Nat} {Z : Zs} (h : ClR S x Z) (I : ZI Z) (a b : Int32) (d : Nat) : OkC x S (cal (d + 9) 122 [vR 7 x, vI a, vI b] S) (foZ Z a b) Z := by
  rw [B_X7_foretold]
  unfold foZ
  rcases rng1 (N := 60) (by decide) a with ⟨h1, e⟩ | ⟨h1, h2, e⟩ | ⟨k, k1, k2, rfl, e, h1, h2⟩
  · rw [if_pos h1, if_neg (fun z => by rw [e] at z; cases z.1)]; exact OkC_0 h
  · rw [if_neg h2, if_pos (show (60 : Int32) < a from h1), if_neg (fun z => by rw [e] at z; cases z.1)]; exact OkC_0 h
  · rw [if_neg h1, if_neg (show ¬ (60 : Int32) < nI k from h2)]
    rcases rng0 (N := 2) (by decide) b with ⟨g1, e'⟩ | ⟨g1, g2, e'⟩ | ⟨w, w1, rfl, e', g1, g2⟩
    · rw [if_pos g1, if_neg (fun z => by rw [e'] at z; cases z.2)]; exact OkC_0 h
    · rw [if_neg g1, if_neg (show ¬ b ≤ (2 : Int32) from Int32.not_le.mpr g2), if_neg (fun z => by rw [e'] at z; cases z.2)]; exact OkC_0 h
    · obtain ⟨S1, e1, c1', f1, t1⟩ := trial_c h (d + 7)
      obtain ⟨S2, e2, h2', f2⟩ := fo_c I d k w k2 (by omega) k 0 (Nat.zero_add k) c1' t1 (zAI I)
      rw [if_neg g1, if_pos (show nI w ≤ (2 : Int32) from Int32.not_lt.mp g2), e1, bV_s, if_pos ⟨e, e'⟩, ix_nI (by omega), ix_nI (by omega)]
      exact ⟨S2, e2, h2', FrX_t f1 f2⟩
/-- put aside, brought back -/
theorem pa_m (d r : Nat) (S : Mem) : cal d 281 [vR 8 r] S = some (none, mc (r + 1) 4 (r + 11) 0 440 S) := by
  have key := loop_it (fun j (S : Mem) => ev d 281 2 [vR 8 r, vI (nI j)] [] S) 440 (fun j S => wrI S (r + 11) (0 + j) (rdI S (r + 1) (4 + j))) (fun j S hj => by
    try dsimp only
    rw [B_X8_putAside_2, if_neg (n440 hj), show (4 : Int32) + nI j = nI (4 + j) from nI_add 4 j, i13 (by omega), gd_t, inb_t hj (by decide), gd_t, nI_1, ix_nI (by omega), ix_nI (by omega), Nat.zero_add]) S
  rw [B_X8_putAside]
  refine key.trans ?_
  try dsimp only
  rw [B_X8_putAside_2, if_pos y440]
  rfl
theorem bb_m (d r : Nat) (S : Mem) : cal d 282 [vR 8 r] S = some (none, mc (r + 11) 0 (r + 1) 4 440 S) := by
  have key := loop_it (fun j (S : Mem) => ev d 282 2 [vR 8 r, vI (nI j)] [] S) 440 (fun j S => wrI S (r + 1) (4 + j) (rdI S (r + 11) (0 + j))) (fun j S hj => by
    try dsimp only
    rw [B_X8_bringBack_2, if_neg (n440 hj), show (4 : Int32) + nI j = nI (4 + j) from nI_add 4 j, inb_t hj (by decide), gd_t, i13 (by omega), gd_t, nI_1, ix_nI (by omega), ix_nI (by omega), Nat.zero_add]) S
  rw [B_X8_bringBack]
  refine key.trans ?_
  try dsimp only
  rw [B_X8_bringBack_2, if_pos y440]
  rfl
theorem pa_Z {S : Mem} {r : Nat} {Z : Zs} (h : MoR S r Z) (I : ZI Z) : MoR (mc (r + 1) 4 (r + 11) 0 440 S) r Z ∧ FrY r S (mc (r + 1) 4 (r + 11) 0 440 S) ∧ RP (mc (r + 1) 4 (r + 11) 0 440 S) (r + 11) 0 (zA Z) := by
  have q := rdI_mc (c := r + 1) (o := 4) (c' := r + 11) (o' := 0) S 440 (fun z => by omega)
  have o : ∀ i, rdI (mc (r + 1) 4 (r + 11) 0 440 S) (r + 1) i = rdI S (r + 1) i := fun i => by rw [q, if_neg (by omega)]
  have fy : FrY r S (mc (r + 1) 4 (r + 11) 0 440 S) := ⟨fun c i hc => by
    rw [q, if_neg]
    rintro ⟨z, -⟩
    exact hc (Or.inr (Or.inr (Or.inr (Or.inr ⟨by omega, by omega⟩)))), congrArg Prod.snd (mc_2 _ _ _ _ S 440)⟩
  exact ⟨MoR_up h fy (RP_fr (mA h) (fun i _ _ => o i)) (StM_k (mS' h) (fun i _ => o i)) I.1.2.2.2.2.2.1, fy, mc_RP (fun z => by omega) (mA h)⟩
theorem bb_Z {S : Mem} {r : Nat} {Z : Zs} {B : AS} (h : MoR S r (zPg Z B)) (I : ZI Z) (hA : RP S (r + 11) 0 (zA Z)) : MoR (mc (r + 11) 0 (r + 1) 4 440 S) r Z ∧ FrY r S (mc (r + 11) 0 (r + 1) 4 440 S) := by
  have q := rdI_mc (c := r + 11) (o := 0) (c' := r + 1) (o' := 4) S 440 (fun z => by omega)
  have fy : FrY r S (mc (r + 11) 0 (r + 1) 4 440 S) := ⟨fun c i hc => by
    rw [q, if_neg]
    rintro ⟨z, z2, z3⟩
    exact hc (Or.inl ⟨z, Or.inr (Or.inl ⟨z2, z3⟩)⟩), congrArg Prod.snd (mc_2 _ _ _ _ S 440)⟩
  refine ⟨?_, fy⟩
  have hs : StM S (r + 1) (zN Z) (zSt Z) := mS' (Z := zPg Z B) h
  have := MoR_up h fy (mc_RP (fun z => by omega) hA) (StM_k hs (fun i hi => by rw [q, if_neg (by omega)])) I.1.2.2.2.2.2.1
  exact this
theorem as_D {S S' : Mem} {r : Nat} {A : AS} (h : RP S (r + 11) 0 A) (f : FrD r S S') : RP S' (r + 11) 0 A := RP_fr h (fun i _ _ => f.1 (r + 11) i (by omega) (by omega) (by omega) (by omega) (by omega) (by omega))
theorem fo_m {r : Nat} {Z : Zs} (I : ZI Z) (d n w : Nat) (hn : n ≤ 60) (hw : w < 3) : ∀ (m i : Nat) {S : Mem} {B : AS}, i + m = n → MoR S r (zPg Z B) → RP S (r + 11) 0 (zA Z) → Inv B → OkM r S (ev (d + 9) 283 27 [vR 8 r, vI (nI n), vI (nI w), vI (nI i)] [] S) (foV (ydN (zL Z) m B) w) Z
  | 0, i, S, B, hi, h, hA, IB => by
    obtain ⟨c, f⟩ := bb_Z h I hA
    have hB : RP S (r + 1) 4 B := mA h
    rw [B_X8_foretold_27, if_pos (nI_le (by omega) (by omega))]
    show OkM r S _ (foV B w) Z
    unfold foV
    rcases (show w = 0 ∨ w = 1 ∨ w = 2 by omega) with rfl | rfl | rfl
    · rw [if_pos (show nI 0 = 0 from rfl), km_used hB, bI_s, km_bits _ (fUsed_ok (iF IB)), bI_s, bb_m, bV_s, if_pos rfl]
      exact ⟨_, rfl, c, f⟩
    · rw [if_neg (show ¬ nI 1 = 0 by decide), if_pos (show nI 1 = 1 from rfl), km_total hB IB, bI_s, bb_m, bV_s, if_neg (by decide), if_pos rfl]
      exact ⟨_, rfl, c, f⟩
    · rw [if_neg (show ¬ nI 2 = 0 by decide), if_neg (show ¬ nI 2 = 1 by decide), i13_6, gd_t, bb_m, bV_s, x13_6, show rdI S (r + 1) 6 = B 0 2 from m0 hB (j := 2) (by decide), if_neg (by decide), if_neg (by decide)]
      exact ⟨_, rfl, c, f⟩
  | m + 1, i, S, B, hi, h, hA, IB => by
    obtain ⟨dd, hd, ed⟩ := iD IB
    have ei : ix (B 0 0) = dd := by rw [ed, ix_nI (by omega)]
    have hB : RP S (r + 1) 4 B := mA h
    have e4 : rdI S (r + 1) 4 = nI dd := (m0 hB (j := 0) (by decide)).trans ed
    rw [B_X8_foretold_27, if_neg (nI_ge (show i < n by omega) (by omega)), i13_4, gd_t, x13_4, e4, nI_1]
    by_cases h9 : dd < 9999
    · have IZ : ZI (zPg Z B) := zPg_I I IB
      obtain ⟨S2, e2, h2, h25, f2⟩ := day_m (L := zL Z) hB IB (ruling_m h IZ 0 (by decide)) (ruling_m h IZ 1 (by decide)) d
      have fy := FrY_D f2
      have hs : StM S (r + 1) (zN Z) (zSt Z) := mS' (Z := zPg Z B) h
      have hM : MoR S2 r (zPg Z (dayA (zL Z) B)) := MoR_up h fy h2 (StM_k hs (fun i hi => f2.1 (r + 1) i (by omega) (by omega) (by omega) (by omega) (by omega) (by omega))) I.1.2.2.2.2.2.1
      obtain ⟨S3, e3, h3, f3⟩ := fo_m I d n w hn hw m (i + 1) (by omega) hM (as_D hA f2) (day_Inv _ IB ed h9)
      rw [if_neg (show ¬ (9999 : Int32) ≤ nI dd from nI_ge (b := 9999) h9 (by decide)), e2, bV_s, ydN_s _ _ (by rw [ei]; exact h9)]
      exact ⟨S3, e3, h3, FrY_t fy f3⟩
    · obtain ⟨S3, e3, h3, f3⟩ := fo_m I d n w hn hw m (i + 1) (by omega) h hA IB
      have ey : ydN (zL Z) (m + 1) B = ydN (zL Z) m B := by rw [ydN_9 _ (m + 1) (by rw [ei]; exact h9), ydN_9 _ m (by rw [ei]; exact h9)]
      rw [if_pos (show (9999 : Int32) ≤ nI dd from nI_le (a := 9999) (by omega) (by omega)), ey]
      exact ⟨S3, e3, h3, f3⟩
theorem foZ_m {S : Mem} {r : Nat} {Z : Zs} (h : MoR S r Z) (I : ZI Z) (a b : Int32) (d : Nat) : OkM r S (cal (d + 9) 283 [vR 8 r, vI a, vI b] S) (foZ Z a b) Z := by
  have e1 : (decide ((1 : Int32) ≤ a) && decide (a ≤ (60 : Int32))) = inb (a - 1) 60 := isIn1 (N := 60) (by decide) a
  have e2 : (decide ((0 : Int32) ≤ b) && decide (b ≤ (2 : Int32))) = inb b 3 := isIn_inb 2 (by decide) b
  rw [B_X8_foretold, sp_isIn, bI_s, e1, ite_b0]
  unfold foZ
  cases ha : inb (a - 1) 60
  · rw [if_pos rfl, if_neg (fun z => by cases z.1)]; exact OkM_0 h
  · rw [if_neg (by decide), sp_isIn, bI_s, e2, ite_b0]
    cases hb : inb b 3
    · rw [if_pos rfl, if_neg (fun z => by cases z.2)]; exact OkM_0 h
    · rcases rng1 (N := 60) (by decide) a with ⟨g1, e'⟩ | ⟨g1, g2, e'⟩ | ⟨k, k1, k2, rfl, e', g1, g2⟩
      · rw [ha] at e'; cases e'
      · rw [ha] at e'; cases e'
      · obtain ⟨w, hw, rfl⟩ := inb_ex hb (by decide)
        obtain ⟨c, f, p⟩ := pa_Z h I
        obtain ⟨S3, e3, h3, f3⟩ := fo_m (r := r) I d k w k2 hw k 0 (B := zA Z) (Nat.zero_add k) c p (zAI I)
        rw [if_neg (by decide), pa_m, bV_s, if_pos ⟨rfl, rfl⟩, ix_nI (by omega), ix_nI (by omega)]
        exact ⟨S3, e3, h3, FrY_t f f3⟩
/-! would -/
def woZ (Z : Zs) : Int32 := nI (cpC (zL Z) (zA Z)).2.2
theorem wo_c {S : Mem} {x : Nat} {Z : Zs} (h : ClR S x Z) (I : ZI Z) (d : Nat) : OkC x S (cal (d + 9) 130 [vR 7 x] S) (woZ Z) Z := by
  obtain ⟨S1, e1, h1, f1, t1⟩ := trial_c h (d + 7)
  obtain ⟨τ, er, hτ, l0, l1⟩ := ruling_c h1 I (d + 7)
  obtain ⟨S2, e2, h2, f2⟩ := comp_c (L := zL Z) t1 (zAI I) l0 l1 (tx_d2 hτ) (d + 3)
  obtain ⟨c, fx⟩ := ClR_K h1 hτ f2
  rw [B_X7_would, e1, bV_s, er, bR_s, e2, bI_s]
  exact ⟨S2, rfl, c, FrX_t f1 fx⟩
theorem wo_m {S : Mem} {r : Nat} {Z : Zs} (h : MoR S r Z) (I : ZI Z) (d : Nat) : OkM r S (cal (d + 9) 284 [vR 8 r] S) (woZ Z) Z := by
  obtain ⟨c, f, p⟩ := pa_Z h I
  obtain ⟨S2, e2, h2, f2⟩ := comp_m (L := zL Z) (mA c) (zAI I) (ruling_m c I 0 (by decide)) (ruling_m c I 1 (by decide)) (d + 1)
  have fd := FrD_N f2
  have fy := FrY_D fd
  have hM : MoR S2 r (zPg Z (cpC (zL Z) (zA Z)).1) := MoR_up c fy h2 (StM_k (mS' c) (fun i hi => f2.1 (r + 1) i (by omega) (by omega) (by omega) (by omega) (by omega))) I.1.2.2.2.2.2.1
  obtain ⟨c3, f3⟩ := bb_Z hM I (as_D p fd)
  rw [B_X8_would, pa_m, bV_s, e2, bI_s, bb_m, bV_s]
  exact ⟨_, rfl, c3, FrY_t (FrY_t f fy) f3⟩
/-! can, probes, meshes -/
def caZ (Z : Zs) (a b : Int32) : Int32 := if (inb a 12 && inb b 12) = true then nI (hinA (zL Z) (zA Z) (ix a) (ix b)) else -1
theorem ca_c {S : Mem} {x : Nat} {Z : Zs} (h : ClR S x Z) (I : ZI Z) (a b : Int32) (d : Nat) : OkC x S (cal (d + 9) 124 [vR 7 x, vI a, vI b] S) (caZ Z a b) Z := by
  obtain ⟨τ, er, hτ, l0, -⟩ := ruling_c h I (d + 7)
  obtain ⟨S1, e1, f1⟩ := hind_c h I hτ l0 a b (d + 4)
  obtain ⟨h1, fx⟩ := ClR_T h hτ f1
  rw [B_X7_can, er, bR_s, e1, bI_s]
  exact ⟨S1, rfl, h1, fx⟩
theorem ca_m {S : Mem} {r : Nat} {Z : Zs} (h : MoR S r Z) (I : ZI Z) (a b : Int32) (d : Nat) : OkM r S (cal (d + 9) 286 [vR 8 r, vI a, vI b] S) (caZ Z a b) Z := by
  rw [B_X8_can, sp_misNumber, bI_s, ite_b0]
  unfold caZ
  cases ha : inb a 12
  · rw [if_pos rfl, Bool.false_and, if_neg Bool.false_ne_true]; exact OkM_0 h
  · rw [if_neg (by decide), sp_misNumber, bI_s, ite_b0]
    cases hb : inb b 12
    · rw [if_pos rfl, Bool.and_false, if_neg Bool.false_ne_true]; exact OkM_0 h
    · obtain ⟨p, hp, rfl⟩ := inb_ex ha (by decide)
      obtain ⟨q, hq, rfl⟩ := inb_ex hb (by decide)
      obtain ⟨S', e, f⟩ := can_m (L := zL Z) (mA h) (zAI I) (ruling_m h I 0 (by decide)) hp hq (d + 3)
      obtain ⟨h1, fy⟩ := MoR_L h I f
      rw [if_neg (by decide), e, bI_s, if_pos (by decide), ix_nI (by omega), ix_nI (by omega)]
      exact ⟨S', rfl, h1, fy⟩
theorem prb_c {S : Mem} {x : Nat} {Z : Zs} (h : ClR S x Z) (I : ZI Z) (d : Nat) : OkC x S (cal (d + 9) 140 [vR 7 x] S) (nI (prN (zL Z) (zA Z))) Z := by
  obtain ⟨τ, er, hτ, -, l1⟩ := ruling_c h I (d + 7)
  obtain ⟨S1, e1, f1⟩ := probes_c (L := zL Z) (cA h) (zAI I) l1 (tx_d hτ) (d + 4)
  obtain ⟨h1, fx⟩ := ClR_T h hτ f1
  rw [B_X7_probes, er, bR_s, e1, bI_s]
  exact ⟨S1, rfl, h1, fx⟩
theorem prb_m {S : Mem} {r : Nat} {Z : Zs} (h : MoR S r Z) (I : ZI Z) (d : Nat) : OkM r S (cal (d + 9) 311 [vR 8 r] S) (nI (prN (zL Z) (zA Z))) Z := by
  obtain ⟨S1, e1, f1⟩ := probes_m (L := zL Z) (mA h) (zAI I) (ruling_m h I 1 (by decide)) (d + 5)
  obtain ⟨h1, fy⟩ := MoR_L h I f1
  rw [B_X8_probes, e1, bI_s]
  exact ⟨S1, rfl, h1, fy⟩
def msB (Z : Zs) (a b : Int32) : Bool := fOpen (zA Z 1) a && fOpen (zA Z 1) b && letA (zL Z) (zA Z) (ix a) (ix b)
theorem ms_c {S : Mem} {x : Nat} {Z : Zs} (h : ClR S x Z) (I : ZI Z) (a b : Int32) (d : Nat) : OkC x S (cal (d + 9) 141 [vR 7 x, vI a, vI b] S) (b2i (msB Z a b)) Z := by
  have hA := cA h
  rw [B_X7_meshes, kc_open hA, bI_s, ite_b0]
  unfold msB
  cases ha : fOpen (zA Z 1) a
  · rw [if_pos rfl, gd_p isZ_0, Bool.false_and, Bool.false_and]; exact OkC_0 h
  · rw [if_neg (by decide), kc_open hA, bI_s, ite_b0, Bool.true_and]
    cases hb : fOpen (zA Z 1) b
    · rw [if_pos rfl, gd_p isZ_0, Bool.false_and]; exact OkC_0 h
    · obtain ⟨p, f, hp, hf, rfl, ef⟩ := fOpen_ex (iF (zAI I)) ha
      obtain ⟨q, g, hq, hg, rfl, eg⟩ := fOpen_ex (iF (zAI I)) hb
      obtain ⟨τ, er, hτ, l0, -⟩ := ruling_c h I (d + 7)
      obtain ⟨e1, l1⟩ := bcN_e (lvP_ok (zAI I) p)
      obtain ⟨e2, l2⟩ := bcN_e (lvP_ok (zAI I) q)
      obtain ⟨S', w, e, hw, f'⟩ := worth_c (L := zL Z) hA (zAI I) (l := 0) (by decide) l0 (tx_d hτ) l1 l2 (d + 5)
      obtain ⟨h1, fx⟩ := ClR_T h hτ f'
      have e' : cal (d + 8) 93 [vR 5 τ, vI 0, vR 1 (x + 27 + 1), vI (nI (bcN (lvP (zA Z) p))), vI (nI (bcN (lvP (zA Z) q)))] S = some (some (vI w), S') := e
      have k1 : cal (d + 8) 15 [vR 1 (x + 27 + 1), vI (zA Z 1 p)] S = some (some (vI (lvP (zA Z) p)), S) := kc_liveIn hA (d + 8) _
      have k2 : cal (d + 8) 15 [vR 1 (x + 27 + 1), vI (zA Z 1 q)] S = some (some (vI (lvP (zA Z) q)), S) := kc_liveIn hA (d + 8) _
      rw [if_neg (show ¬ 0 = 1 by decide)] at hw
      rw [if_neg (by decide), i12 hp, gd_t, x12 hp, c1 hA p hp, k1, bI_s, sp_bitCount, bI_s, i12 hq, gd_t, x12 hq, c1 hA q hq, k2, bI_s, sp_bitCount, bI_s, er, bR_s, e1, e2, e', bI_s, Bool.true_and]
      unfold letA
      rw [← hw]
      have h0 : (0 : Int32).toInt = 0 := rfl
      by_cases y : w ≤ 0
      · have y' : ¬ 0 < w.toInt := by
          have := Int32.le_iff_toInt_le.mp y
          rw [h0] at this; omega
        rw [if_pos y, gd_p isZ_0, decide_eq_false y']
        exact ⟨S', rfl, h1, fx⟩
      · have y' : 0 < w.toInt := by
          rcases Int.lt_trichotomy w.toInt 0 with v | v | v
          · exact absurd (Int32.le_iff_toInt_le.mpr (by rw [h0]; omega)) y
          · exact absurd (Int32.le_iff_toInt_le.mpr (by rw [h0]; omega)) y
          · exact v
        rw [if_neg y, gd_p isZ_1, decide_eq_true y']
        exact ⟨S', rfl, h1, fx⟩
theorem ms_m {S : Mem} {r : Nat} {Z : Zs} (h : MoR S r Z) (I : ZI Z) (a b : Int32) (d : Nat) : OkM r S (cal (d + 9) 312 [vR 8 r, vI a, vI b] S) (b2i (msB Z a b)) Z := by
  rw [B_X8_meshes, km_areOpen (mA h), bI_s, ite_b0]
  unfold msB
  cases ha : fOpen (zA Z 1) a
  · rw [Bool.false_and, if_pos rfl, gd_p isZ_0, Bool.false_and]; exact OkM_0 h
  · cases hb : fOpen (zA Z 1) b
    · rw [Bool.and_false, if_pos rfl, gd_p isZ_0, Bool.false_and]; exact OkM_0 h
    · obtain ⟨p, f, hp, hf, rfl, ef⟩ := fOpen_ex (iF (zAI I)) ha
      obtain ⟨q, g, hq, hg, rfl, eg⟩ := fOpen_ex (iF (zAI I)) hb
      obtain ⟨S', e, f'⟩ := letNow_m (L := zL Z) (mA h) (zAI I) (ruling_m h I 0 (by decide)) (p := p) (q := q) (by rw [ef]; exact nI_m1 (by omega)) (by rw [eg]; exact nI_m1 (by omega)) (d + 4)
      obtain ⟨h1, fy⟩ := MoR_L h I f'
      have r1 : rdI S (r + 1) (11 + p) = zA Z 1 p := m1 (mA h) p hp
      have r2 : rdI S (r + 1) (11 + q) = zA Z 1 q := m1 (mA h) q hq
      rw [if_neg (by decide), a11, a11, i13 (by omega), gd_t, i13 (by omega), gd_t, ix_nI (by omega), ix_nI (by omega), r1, r2, e, bI_s, ite_b0, ix_nI (by omega), ix_nI (by omega), Bool.true_and, Bool.true_and]
      cases letA (zL Z) (zA Z) p q
      · rw [if_pos rfl, gd_p isZ_0]; exact ⟨S', rfl, h1, fy⟩
      · rw [if_neg (by decide), gd_p isZ_1]; exact ⟨S', rfl, h1, fy⟩
