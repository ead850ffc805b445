/-! what was said -/
def zSd (Z : Zs) (k : Nat) (D : Nat → Nat × (Nat × Nat)) : Zs := ((Z.1.1, (Z.1.2.1, (Z.1.2.2.1, (k, D)))), Z.2)
theorem ClR_sd {S S' : Mem} {x : Nat} {Z : Zs} (h : ClR S x Z) {k : Nat} {D : Nat → Nat × (Nat × Nat)} (e : ∀ c, ¬ (c = x + 27 ∨ c = x + 27 + 220) → rdI S' c = rdI S c) (n : ∀ i, ¬ i = 3 → rdI S' (x + 27) i = rdI S (x + 27) i) (hk : rdI S' (x + 27) 3 = nI k) (hD : ∀ i, i < k → rdI S' (x + 27 + 220) i = nI ((D i).1 * 256 + (D i).2.1 * 2 + (D i).2.2)) : ClR S' x (zSd Z k D) := by
  obtain ⟨⟨w1, w2, w3, w4, w5, w6⟩, h2, h3, h4, h5⟩ := h
  refine ⟨⟨CP_e w1 (fun c c1 c2 => e c (by omega)), StC_k w2 (fun c c1 c2 => e c (by omega)), ?_, ?_, hk, hD⟩, WC_k h2 (fun c c1 c2 => e c (by omega)), fun j hj => TxC_k (h3 j hj) (fun c c1 c2 => e c (by omega)), ⟨LC_k h4.1 (fun c c1 c2 => e c (by omega)), LC_k h4.2 (fun c c1 c2 => e c (by omega))⟩, ?_⟩
  · rw [n 4 (by decide)]; exact w3
  · rw [n 5 (by decide)]; exact w4
  · unfold TpC at h5 ⊢
    rw [e (x + 1) (by omega), e (x + 1 + 1) (by omega)]; exact h5
theorem MoR_sd {S S' : Mem} {r : Nat} {Z : Zs} (h : MoR S r Z) {k : Nat} {D : Nat → Nat × (Nat × Nat)} (e : ∀ c, ¬ c = r + 1 → rdI S' c = rdI S c) (n : ∀ i, ¬ (i = 3 ∨ (444 ≤ i ∧ i < 468)) → rdI S' (r + 1) i = rdI S (r + 1) i) (hk : rdI S' (r + 1) 3 = nI k) (hD : ∀ i, i < k → rdI S' (r + 1) (444 + 3 * i) = nI (D i).1 ∧ rdI S' (r + 1) (444 + 3 * i + 1) = nI (D i).2.1 ∧ rdI S' (r + 1) (444 + 3 * i + 2) = nI (D i).2.2) : MoR S' r (zSd Z k D) := by
  obtain ⟨⟨w1, w2, w3, w4, w5, w6⟩, h2, h3, h5⟩ := h
  refine ⟨⟨RP_fr w1 (fun i i1 i2 => n i (by omega)), StM_k w2 (fun i hi => n i (by omega)), ?_, ?_, hk, hD⟩, WM_k h2 (fun i => congrFun (e (r + 2) (by omega)) i), fun j hj => TxM_k (h3 j hj) (e (r + 3) (by omega)), ?_⟩
  · rw [n 0 (by decide)]; exact w3
  · rw [n 1 (by decide)]; exact w4
  · unfold TpM at h5 ⊢
    rw [e r (by omega), e (r + 4) (by omega)]; exact h5
def sdB (Z : Zs) (a b c : Int32) : Bool := inb a 17 && (inb b 17 && (inb c 2 && decide (zK Z < 8)))
def sdD (Z : Zs) (a b c : Int32) : Nat → Nat × (Nat × Nat) := fun i => if i = zK Z then (ix a, (ix b, ix c)) else zD Z i
def sdS (Z : Zs) (a b c : Int32) : Zs := if a = -1 then zSd Z 0 (zD Z) else if sdB Z a b c = true then zSd Z (zK Z + 1) (sdD Z a b c) else Z
def sdV (Z : Zs) (a b c : Int32) : Int32 := if a = -1 then 0 else if sdB Z a b c = true then nI (zK Z + 1) else -2
theorem sd_I {Z : Zs} (I : ZI Z) (a b c : Int32) : ZI (sdS Z a b c) := by
  obtain ⟨⟨i1, i2, i3, i4, i5, i6, i8⟩, i7⟩ := I
  unfold sdS
  by_cases z : a = -1
  · rw [if_pos z]
    exact ⟨⟨i1, i2, i3, i4, i5, Nat.zero_le 8, fun i hi => absurd hi (Nat.not_lt_zero i)⟩, i7⟩
  · rw [if_neg z]
    cases hb : sdB Z a b c
    · rw [if_neg Bool.false_ne_true]; exact ⟨⟨i1, i2, i3, i4, i5, i6, i8⟩, i7⟩
    · rw [if_pos rfl]
      unfold sdB at hb
      obtain ⟨ha, hb1⟩ := (Bool.and_eq_true _ _).mp hb
      obtain ⟨hb2, hc1⟩ := (Bool.and_eq_true _ _).mp hb1
      obtain ⟨hc2, hk⟩ := (Bool.and_eq_true _ _).mp hc1
      have hk' := of_decide_eq_true hk
      obtain ⟨j, hj, rfl⟩ := inb_ex ha (by decide)
      obtain ⟨q, hq, rfl⟩ := inb_ex hb2 (by decide)
      obtain ⟨l, hl, rfl⟩ := inb_ex hc2 (by decide)
      refine ⟨⟨i1, i2, i3, i4, i5, hk', fun i hi => ?_⟩, i7⟩
      show (sdD Z (nI j) (nI q) (nI l) i).1 ≤ 16 ∧ (sdD Z (nI j) (nI q) (nI l) i).2.1 ≤ 16 ∧ (sdD Z (nI j) (nI q) (nI l) i).2.2 ≤ 1
      unfold sdD
      by_cases y : i = zK Z
      · rw [if_pos y]
        show ix (nI j) ≤ 16 ∧ ix (nI q) ≤ 16 ∧ ix (nI l) ≤ 1
        rw [ix_nI (by omega), ix_nI (by omega), ix_nI (by omega)]
        omega
      · rw [if_neg y]
        have hi' : i < zK Z + 1 := hi
        exact i8 i (show i < zK Z by omega)
theorem pk3 {a b c : Nat} (ha : a < 17) (hb : b < 17) (hc : c < 2) : shlI (nI a) 8 ||| shlI (nI b) 1 ||| nI c = nI (a * 256 + b * 2 + c) := (by decide +kernel : ∀ (a : Fin 17) (b : Fin 17) (c : Fin 2), shlI (nI a.1) 8 ||| shlI (nI b.1) 1 ||| nI c.1 = nI (a.1 * 256 + b.1 * 2 + c.1)) ⟨a, ha⟩ ⟨b, hb⟩ ⟨c, hc⟩
theorem sd_c {S : Mem} {x : Nat} {Z : Zs} (h : ClR S x Z) (I : ZI Z) (a b c : Int32) (d : Nat) : OwC x S (cal d 142 [vR 7 x, vI a, vI b, vI c] S) (sdV Z a b c) (sdS Z a b c) := by
  have e3 : rdI S (x + 27) 3 = nI (zK Z) := h.1.2.2.2.2.1
  have hk8 : zK Z ≤ 8 := I.1.2.2.2.2.2.1
  rw [B_X7_said, e3]
  unfold sdV sdS
  by_cases z : a = -1
  · rw [if_pos z, if_pos z, if_pos z]
    refine ⟨_, rfl, ClR_sd h (fun c hc => funext fun i => by rw [rdI_wrI, if_neg (fun z => hc (Or.inl z.1))]) (fun i hi => by rw [rdI_wrI, if_neg (fun z => hi z.2)]) (by rw [rdI_wrI, if_pos ⟨rfl, rfl⟩]; rfl) (fun i hi => absurd hi (Nat.not_lt_zero i)), fun c hc => funext fun i => by rw [rdI_wrI, if_neg (fun z => hc (by omega))], rfl⟩
  · rw [if_neg z, if_neg z, if_neg z]
    have no : sdB Z a b c = false → OwC x S (some (some (vI (-2)), S)) (if sdB Z a b c = true then nI (zK Z + 1) else -2) (if sdB Z a b c = true then zSd Z (zK Z + 1) (sdD Z a b c) else Z) := fun y => by
      rw [y, if_neg Bool.false_ne_true, if_neg Bool.false_ne_true]; exact OwC_k (OkC_0 h)
    rcases rng0 (N := 16) (by decide) a with ⟨g1, e⟩ | ⟨g1, g2, e⟩ | ⟨j, j1, rfl, e, g1, g2⟩
    · rw [if_pos g1]; exact no (by unfold sdB; rw [e]; rfl)
    · rw [if_neg g1, if_pos (show (16 : Int32) < a from g2)]; exact no (by unfold sdB; rw [e]; rfl)
    · rw [if_neg g1, if_neg (show ¬ (16 : Int32) < nI j from g2)]
      rcases rng0 (N := 16) (by decide) b with ⟨g3, e'⟩ | ⟨g3, g4, e'⟩ | ⟨q, q1, rfl, e', g3, g4⟩
      · rw [if_pos g3]; exact no (by unfold sdB; rw [e']; rw [Bool.false_and, Bool.and_false])
      · rw [if_neg g3, if_pos (show (16 : Int32) < b from g4)]; exact no (by unfold sdB; rw [e']; rw [Bool.false_and, Bool.and_false])
      · rw [if_neg g3, if_neg (show ¬ (16 : Int32) < nI q from g4)]
        rcases rng0 (N := 1) (by decide) c with ⟨g5, e2⟩ | ⟨g5, g6, e2⟩ | ⟨l, l1, rfl, e2, g5, g6⟩
        · rw [if_pos g5]; exact no (by unfold sdB; rw [e2]; rw [Bool.false_and, Bool.and_false, Bool.and_false])
        · rw [if_neg g5, if_neg (show ¬ c ≤ (1 : Int32) from Int32.not_le.mpr g6)]; exact no (by unfold sdB; rw [e2]; rw [Bool.false_and, Bool.and_false, Bool.and_false])
        · rw [if_neg g5, if_pos (show nI l ≤ (1 : Int32) from Int32.not_lt.mp g6), if_neg (nI_pos (by omega))]
          by_cases k8 : zK Z < 8
          · have hb : sdB Z (nI j) (nI q) (nI l) = true := by unfold sdB; rw [e, e', e2, decide_eq_true k8]; rfl
            rw [if_pos (show nI (zK Z) < (8 : Int32) from nI_lt (b := 8) k8 (by decide)), inb_t k8 (by decide), gd_t, hb, if_pos rfl, if_pos rfl, pk3 (by omega) (by omega) (by omega), ix_nI (by omega), rdI_wrI, if_pos ⟨rfl, rfl⟩, show ∀ v, rdI (wrI S (x + 27 + 220) (zK Z) v) (x + 27) 3 = nI (zK Z) from fun v => by rw [rdI_wrI, if_neg (by omega), e3], nI_1]
            refine ⟨_, rfl, ClR_sd h (fun c hc => funext fun i => by rw [rdI_wrI, if_neg (fun z => hc (Or.inl z.1)), rdI_wrI, if_neg (fun z => hc (Or.inr z.1))]) (fun i hi => by rw [rdI_wrI, if_neg (fun z => hi z.2), rdI_wrI, if_neg (by omega)]) (by rw [rdI_wrI, if_pos ⟨rfl, rfl⟩]) (fun i hi => ?_), fun c hc => funext fun i => by rw [rdI_wrI, if_neg (fun z => hc (by omega)), rdI_wrI, if_neg (fun z => hc (by omega))], rfl⟩
            rw [rdI_wrI, if_neg (by omega), rdI_wrI]
            unfold sdD
            by_cases y : i = zK Z
            · rw [if_pos ⟨rfl, y⟩, if_pos y, ix_nI (by omega), ix_nI (by omega), ix_nI (by omega)]
            · rw [if_neg (fun z => y z.2), if_neg y]
              exact h.1.2.2.2.2.2 i (show i < zK Z by omega)
          · rw [if_neg (show ¬ nI (zK Z) < (8 : Int32) from nI_nlt (b := 8) (by omega) (by omega))]
            exact no (by unfold sdB; rw [decide_eq_false k8, Bool.and_false, Bool.and_false, Bool.and_false])
theorem sd_m {S : Mem} {r : Nat} {Z : Zs} (h : MoR S r Z) (I : ZI Z) (a b c : Int32) (d : Nat) : OwM r S (cal (d + 1) 313 [vR 8 r, vI a, vI b, vI c] S) (sdV Z a b c) (sdS Z a b c) := by
  have e3 : rdI S (r + 1) 3 = nI (zK Z) := h.1.2.2.2.2.1
  have hk8 : zK Z ≤ 8 := I.1.2.2.2.2.2.1
  have i3 : inb 3 13669 = true := i13 (k := 3) (by decide)
  have x3 : ix 3 = 3 := ix_nI (p := 3) (by decide)
  rw [B_X8_said, i3, gd_t, x3]
  unfold sdV sdS
  by_cases z : a = -1
  · rw [if_pos z, if_pos z, if_pos z]
    refine ⟨_, rfl, MoR_sd h (fun c hc => funext fun i => by rw [rdI_wrI, if_neg (fun z => hc z.1)]) (fun i hi => by rw [rdI_wrI, if_neg (fun z => hi (Or.inl z.2))]) (by rw [rdI_wrI, if_pos ⟨rfl, rfl⟩]; rfl) (fun i hi => absurd hi (Nat.not_lt_zero i)), fun c i hc => by rw [rdI_wrI, if_neg (fun z => hc (by omega))], rfl⟩
  · rw [if_neg z, if_neg z, if_neg z]
    have no : sdB Z a b c = false → OwM r S (some (some (vI (-2)), S)) (if sdB Z a b c = true then nI (zK Z + 1) else -2) (if sdB Z a b c = true then zSd Z (zK Z + 1) (sdD Z a b c) else Z) := fun y => by
      rw [y, if_neg Bool.false_ne_true, if_neg Bool.false_ne_true]; exact OwM_k (OkM_0 h)
    have q16 : ∀ y : Int32, (decide ((0 : Int32) ≤ y) && decide (y ≤ (16 : Int32))) = inb y 17 := fun y => isIn_inb 16 (by decide) y
    rw [sp_isIn, bI_s, q16, ite_b0]
    cases ha : inb a 17
    · rw [if_pos rfl]; exact no (by unfold sdB; rw [ha]; rfl)
    · rw [if_neg (by decide), sp_isIn, bI_s, q16, ite_b0]
      cases hb : inb b 17
      · rw [if_pos rfl]; exact no (by unfold sdB; rw [hb]; rw [Bool.false_and, Bool.and_false])
      · rw [if_neg (by decide), sp_isIn, bI_s, show (decide ((0 : Int32) ≤ c) && decide (c ≤ (1 : Int32))) = inb c 2 from isIn_inb 1 (by decide) c, ite_b0]
        cases hc : inb c 2
        · rw [if_pos rfl]; exact no (by unfold sdB; rw [hc]; rw [Bool.false_and, Bool.and_false, Bool.and_false])
        · rw [if_neg (by decide), gd_t, e3]
          obtain ⟨j, hj, rfl⟩ := inb_ex ha (by decide)
          obtain ⟨q, hq, rfl⟩ := inb_ex hb (by decide)
          obtain ⟨l, hl, rfl⟩ := inb_ex hc (by decide)
          by_cases k8 : zK Z < 8
          · have hb : sdB Z (nI j) (nI q) (nI l) = true := by unfold sdB; rw [ha, hb, hc, decide_eq_true k8]; rfl
            have ea : (444 : Int32) + 3 * nI (zK Z) = nI (444 + 3 * zK Z) := by
              show nI 444 + nI 3 * nI (zK Z) = _
              rw [pk_mul, nI_add]
            have ea2 : nI (444 + 3 * zK Z) + 2 = nI (444 + 3 * zK Z + 2) := nI_add _ 2
            rw [if_neg (fun y => by have := (nI_eq (b := 8) (by omega) (by decide)).mp y; omega), gd_t, ea, nI_1, ea2, i13 (by omega), gd_t, i13 (by omega), gd_t, i13 (by omega), gd_t, gd_t, gd_t, gd_t, hb, if_pos rfl, if_pos rfl, ix_nI (by omega), ix_nI (by omega), ix_nI (by omega)]
            generalize hS3 : wrI (wrI (wrI S (r + 1) (444 + 3 * zK Z) (nI j)) (r + 1) (444 + 3 * zK Z + 1) (nI q)) (r + 1) (444 + 3 * zK Z + 2) (nI l) = S3
            have rd : ∀ c i, rdI S3 c i = if c = r + 1 ∧ i = 444 + 3 * zK Z + 2 then nI l else if c = r + 1 ∧ i = 444 + 3 * zK Z + 1 then nI q else if c = r + 1 ∧ i = 444 + 3 * zK Z then nI j else rdI S c i := fun c i => by rw [← hS3]; rfl
            have g3 : S3.2.2 = S.2.2 := by rw [← hS3]; rfl
            have r3 : rdI S3 (r + 1) 3 = nI (zK Z) := by rw [rd, if_neg (by omega), if_neg (by omega), if_neg (by omega), e3]
            rw [r3, nI_1, rdI_wrI, if_pos ⟨rfl, rfl⟩]
            refine ⟨_, rfl, MoR_sd h (fun c hc => funext fun i => by rw [rdI_wrI, if_neg (fun z => hc z.1), rd, if_neg (fun z => hc z.1), if_neg (fun z => hc z.1), if_neg (fun z => hc z.1)]) (fun i hi => by rw [rdI_wrI, if_neg (by omega), rd, if_neg (by omega), if_neg (by omega), if_neg (by omega)]) (by rw [rdI_wrI, if_pos ⟨rfl, rfl⟩]) (fun i hi => ?_), fun c i hc => by rw [rdI_wrI, if_neg (by omega), rd, if_neg (by omega), if_neg (by omega), if_neg (by omega)], g3⟩
            unfold sdD
            by_cases y : i = zK Z
            · subst y
              rw [if_pos rfl, rdI_wrI, if_neg (by omega), rd, if_neg (by omega), if_neg (by omega), if_pos ⟨rfl, rfl⟩, rdI_wrI, if_neg (by omega), rd, if_neg (by omega), if_pos ⟨rfl, rfl⟩, rdI_wrI, if_neg (by omega), rd, if_pos ⟨rfl, rfl⟩, ix_nI (by omega), ix_nI (by omega), ix_nI (by omega)]
              exact ⟨rfl, rfl, rfl⟩
            · rw [if_neg y]
              have hi' : i < zK Z := by omega
              have w6 := h.1.2.2.2.2.2 i hi'
              rw [rdI_wrI, if_neg (by omega), rd, if_neg (by omega), if_neg (by omega), if_neg (by omega), rdI_wrI, if_neg (by omega), rd, if_neg (by omega), if_neg (by omega), if_neg (by omega), rdI_wrI, if_neg (by omega), rd, if_neg (by omega), if_neg (by omega), if_neg (by omega)]
              exact w6
          · have k8' : zK Z = 8 := by omega
            rw [if_pos (show nI (zK Z) = 8 by rw [k8']; rfl)]
            exact no (by unfold sdB; rw [decide_eq_false k8, Bool.and_false, Bool.and_false, Bool.and_false])
