/-! steps by hand: class and reference -/
theorem isValue_c (d : Nat) (a : Int32) (S : Mem) : cal d 153 [vI a] S = some (some (vI (b2i (inb a 1000))), S) := by
  rw [B_X7_isValue]
  show (if a < 0 then _ else if nI 1000 ≤ a then _ else _) = _
  rw [ifr 1000 (by decide)]
  cases h : inb a 1000
  · rw [if_neg (by decide), gd_p isZ_0]; rfl
  · rw [if_pos rfl, gd_p isZ_1]; rfl
theorem isValue_m (d : Nat) (a : Int32) (S : Mem) : cal (d + 1) 258 [vI a] S = some (some (vI (b2i (inb a 1000))), S) := by
  have e := isIn_inb 999 (by decide) a
  rw [B_X8_isValue, sp_isIn, bI_s, show (decide ((0 : Int32) ≤ a) && decide (a ≤ (999 : Int32))) = inb a 1000 from e, gd_p (isZ_b _)]
def OkC (x : Nat) (S : Mem) (o : Option Res) (v : Int32) (Z' : Zs) : Prop := ∃ S', o = some (some (vI v), S') ∧ ClR S' x Z' ∧ FrX x S S'
def OkM (r : Nat) (S : Mem) (o : Option Res) (v : Int32) (Z' : Zs) : Prop := ∃ S', o = some (some (vI v), S') ∧ MoR S' r Z' ∧ FrY r S S'
theorem OkC_0 {x : Nat} {S : Mem} {v : Int32} {Z : Zs} (h : ClR S x Z) : OkC x S (some (some (vI v), S)) v Z := ⟨S, rfl, h, FrX_r⟩
theorem OkM_0 {r : Nat} {S : Mem} {v : Int32} {Z : Zs} (h : MoR S r Z) : OkM r S (some (some (vI v), S)) v Z := ⟨S, rfl, h, FrY_r⟩
theorem cA {S : Mem} {x : Nat} {Z : Zs} (h : ClR S x Z) : CP S (x + 27 + 1) (zA Z) := h.1.1
theorem cS' {S : Mem} {x : Nat} {Z : Zs} (h : ClR S x Z) : StC S (x + 27 + 8) (zN Z) (zSt Z) := h.1.2.1
theorem mA {S : Mem} {r : Nat} {Z : Zs} (h : MoR S r Z) : RP S (r + 1) 4 (zA Z) := h.1.1
theorem mS' {S : Mem} {r : Nat} {Z : Zs} (h : MoR S r Z) : StM S (r + 1) (zN Z) (zSt Z) := h.1.2.1
/-- kept, in the class -/
def KtC (x : Nat) (Z : Zs) (S S1 : Mem) : Prop := CP S1 (x + 27 + 1) (zA Z) ∧ StC S1 (x + 27 + 8) (kpN (zN Z)) (kpS (zN Z) (zSt Z) (zA Z)) ∧ FrX x S S1 ∧ ∀ c, ¬ (x + 35 ≤ c ∧ c < x + 247) → rdI S1 c = rdI S c
theorem kt_c {S : Mem} {x : Nat} {Z : Zs} (h : ClR S x Z) (d : Nat) : ∃ S1, cal (d + 2) 81 [vR 4 (x + 27 + 8), vR 1 (x + 27 + 1)] S = some (none, S1) ∧ KtC x Z S S1 := by
  obtain ⟨S1, e, h1, f, g⟩ := keep_c (cA h) (cS' h) (by omega) d
  have f' : ∀ c, ¬ (x + 35 ≤ c ∧ c < x + 35 + 212) → rdI S1 c = rdI S c := fun c hc => f c (by omega)
  exact ⟨S1, e, CP_e (cA h) (fun c c1 c2 => f c (by omega)), h1, FrX_S f' g, fun c hc => f c (by omega)⟩
theorem kt_L {S S1 : Mem} {x τ : Nat} {Z : Zs} (k : KtC x Z S S1) (hτ : TxP x τ) {l : Nat} {o : Option (Env → Int)} (h : LC S τ l o) : LC S1 τ l o := LC_k h (fun c c1 c2 => k.2.2.2 c (by rcases hτ with rfl | ⟨j, hj, rfl⟩ <;> omega))
theorem tx_d {x τ : Nat} (hτ : TxP x τ) : τ + 9 < x + 27 + 1 ∨ x + 27 + 1 + 7 ≤ τ := by rcases hτ with rfl | ⟨j, hj, rfl⟩ <;> omega
theorem fin_K {S S1 S' : Mem} {x τ : Nat} {Z : Zs} (h : ClR S x Z) (k : KtC x Z S S1) (hτ : TxP x τ) (f : FrK (x + 27 + 1) τ S1 S') {A : AS} (hA : CP S' (x + 27 + 1) A) : ClR S' x (zK' Z A) ∧ FrX x S S' := by
  have fx := FrX_t k.2.2.1 (FrX_K f (Or.inl rfl) hτ)
  refine ⟨ClR_up h fx hA (StC_k k.2.1 (fun c c1 c2 => f.1 c (by omega) ?_ ?_)), fx⟩
  · rcases hτ with rfl | ⟨j, hj, rfl⟩ <;> omega
  · rcases hτ with rfl | ⟨j, hj, rfl⟩ <;> omega
theorem fin_C {S S1 S' : Mem} {x : Nat} {Z : Zs} (h : ClR S x Z) (k : KtC x Z S S1) (f : FrC (x + 27 + 1) S1 S') {A : AS} (hA : CP S' (x + 27 + 1) A) : ClR S' x (zK' Z A) ∧ FrX x S S' := fin_K h k (Or.inl rfl) (FrK_C _ f) hA
/-- kept, in the reference -/
def KtM (r : Nat) (Z : Zs) (S S1 : Mem) : Prop := RP S1 (r + 1) 4 (zA Z) ∧ StM S1 (r + 1) (kpN (zN Z)) (kpS (zN Z) (zSt Z) (zA Z)) ∧ FrY r S S1 ∧ ∀ c i, ¬ (c = r + 1 ∧ (i = 2 ∨ 468 ≤ i)) → rdI S1 c i = rdI S c i
theorem kt_m {S : Mem} {r : Nat} {Z : Zs} (h : MoR S r Z) (d : Nat) : ∃ S1, cal (d + 1) 256 [vR 8 r] S = some (none, S1) ∧ KtM r Z S S1 := by
  obtain ⟨S1, e, h1, h2, f, g⟩ := keep_m (mA h) (mS' h) d
  exact ⟨S1, e, h1, h2, FrY_S f g, f⟩
theorem fin_D {S S1 S' : Mem} {r : Nat} {Z : Zs} (h : MoR S r Z) (I : ZI Z) (k : KtM r Z S S1) (f : FrD r S1 S') {A : AS} (hA : RP S' (r + 1) 4 A) : MoR S' r (zK' Z A) ∧ FrY r S S' := by
  have fy := FrY_t k.2.2.1 (FrY_D f)
  exact ⟨MoR_up h fy hA (StM_k k.2.1 (fun i hi => f.1 (r + 1) i (by omega) (by omega) (by omega) (by omega) (by omega) (by omega))) I.1.2.2.2.2.2.1, fy⟩
theorem fin_M {S S1 S' : Mem} {r : Nat} {Z : Zs} (h : MoR S r Z) (I : ZI Z) (k : KtM r Z S S1) (f : FrM r S1 S') {A : AS} (hA : RP S' (r + 1) 4 A) : MoR S' r (zK' Z A) ∧ FrY r S S' := fin_D h I k (FrD_N (FrN_M f)) hA
theorem RM_k {S S' : Mem} {r l : Nat} {o : Option (Env → Int)} (h : RM S r (rdI S (r + 1) 1) l o) (e3 : rdI S' (r + 3) = rdI S (r + 3)) (e1 : rdI S' (r + 1) 1 = rdI S (r + 1) 1) : RM S' r (rdI S' (r + 1) 1) l o := by
  rw [e1]
  rcases h with h | ⟨T, ex, hT⟩
  · exact Or.inl h
  · exact Or.inr ⟨T, ex, LM_k hT e3⟩
theorem kt_R {S S1 : Mem} {r : Nat} {Z : Zs} (k : KtM r Z S S1) {l : Nat} {o : Option (Env → Int)} (h : RM S r (rdI S (r + 1) 1) l o) : RM S1 r (rdI S1 (r + 1) 1) l o := RM_k h (funext fun i => k.2.2.2 _ _ (by omega)) (k.2.2.2 _ _ (by omega))
/-! give -/
def giV (Z : Zs) (a : Int32) : Int32 × Zs := if inb a 1000 = true ∧ aRoom (zA Z) = true then (nI (gvP (zA Z) * 16 + gvS (zA Z)), zK' Z (giveA a (zA Z))) else (-1, Z)
theorem giV_I {Z : Zs} (I : ZI Z) (a : Int32) : ZI (giV Z a).2 := by
  unfold giV
  by_cases h : inb a 1000 = true ∧ aRoom (zA Z) = true
  · rw [if_pos h]
    obtain ⟨p, hp, e⟩ := inb_ex h.1 (by decide)
    exact zK_I I (give_Inv (zAI I) h.2 ⟨p, hp, e⟩)
  · rw [if_neg h]; exact I
theorem gi_c {S : Mem} {x : Nat} {Z : Zs} (h : ClR S x Z) (I : ZI Z) (a : Int32) (d : Nat) : OkC x S (cal (d + 9) 104 [vR 7 x, vI a] S) (giV Z a).1 (giV Z a).2 := by
  rw [B_X7_give, isValue_c, bI_s, ite_b0]
  unfold giV
  cases hv : inb a 1000
  · rw [if_pos rfl, if_neg (fun z => by cases z.1)]; exact OkC_0 h
  · rw [if_neg (by decide), kc_room (cA h), bI_s, ite_b0]
    cases hr : aRoom (zA Z)
    · rw [if_pos rfl, if_neg (fun z => by cases z.2)]; exact OkC_0 h
    · obtain ⟨S1, e1, k⟩ := kt_c h (d + 6)
      obtain ⟨S2, e2, h2, f2⟩ := give_c k.1 (zAI I) hr a (d + 4)
      obtain ⟨c, f⟩ := fin_C h k f2 h2
      rw [if_neg (by decide), e1, bV_s, e2, bI_s, if_pos ⟨rfl, rfl⟩]
      exact ⟨S2, rfl, c, f⟩
theorem gi_m {S : Mem} {r : Nat} {Z : Zs} (h : MoR S r Z) (I : ZI Z) (a : Int32) (d : Nat) : OkM r S (cal (d + 9) 259 [vR 8 r, vI a] S) (giV Z a).1 (giV Z a).2 := by
  rw [B_X8_give, isValue_m, bI_s, ite_b0]
  unfold giV
  cases hv : inb a 1000
  · rw [if_pos rfl, if_neg (fun z => by cases z.1)]; exact OkM_0 h
  · rw [if_neg (by decide), km_room (mA h) (zAI I), bI_s, ite_b0]
    cases hr : aRoom (zA Z)
    · rw [if_pos rfl, if_neg (fun z => by cases z.2)]; exact OkM_0 h
    · obtain ⟨S1, e1, k⟩ := kt_m h (d + 7)
      obtain ⟨S2, e2, h2, f2⟩ := give_m k.1 (zAI I) hr a (d + 5)
      obtain ⟨c, f⟩ := fin_M h I k f2 h2
      rw [if_neg (by decide), e1, bV_s, e2, bI_s, if_pos ⟨rfl, rfl⟩]
      exact ⟨S2, rfl, c, f⟩
/-! free -/
def rch (Z : Zs) (a : Int32) : Bool := fReach (zA Z 1) (zA Z 2) (zA Z 0 3) a
def frZ (Z : Zs) (a : Int32) : Int32 × Zs := if rch Z a = true then (frV (ix a) (zA Z), zK' Z (freeA (ix a) (zA Z))) else (-1, Z)
theorem frZ_I {Z : Zs} (I : ZI Z) (a : Int32) : ZI (frZ Z a).2 := by
  unfold frZ
  by_cases h : rch Z a = true
  · rw [if_pos h]
    obtain ⟨q, f, hq, rfl, hf, ef, hg⟩ := reach_facts (zAI I) h
    rw [ix_nI (by omega)]
    exact zK_I I (free_Inv (zAI I) hq hf ef hg)
  · rw [if_neg h]; exact I
theorem fr_c {S : Mem} {x : Nat} {Z : Zs} (h : ClR S x Z) (I : ZI Z) (a : Int32) (d : Nat) : OkC x S (cal (d + 9) 105 [vR 7 x, vI a] S) (frZ Z a).1 (frZ Z a).2 := by
  rw [B_X7_free, kc_reach (cA h), bI_s, ite_b0]
  unfold frZ
  show OkC x S (if rch Z a = false then _ else _) _ _
  cases hr : rch Z a
  · rw [if_pos rfl, if_neg (by decide)]; exact OkC_0 h
  · obtain ⟨q, f, hq, rfl, hf, ef, hg⟩ := reach_facts (zAI I) hr
    obtain ⟨S1, e1, k⟩ := kt_c h (d + 6)
    obtain ⟨S2, e2, h2, f2⟩ := free_c k.1 (zAI I) hr hq (d + 5)
    obtain ⟨c, f⟩ := fin_C h k f2 h2
    rw [if_neg (by decide), e1, bV_s, e2, bI_s, if_pos rfl, ix_nI (by omega)]
    exact ⟨S2, rfl, c, f⟩
theorem fr_m {S : Mem} {r : Nat} {Z : Zs} (h : MoR S r Z) (I : ZI Z) (a : Int32) (d : Nat) : OkM r S (cal (d + 9) 260 [vR 8 r, vI a] S) (frZ Z a).1 (frZ Z a).2 := by
  rw [B_X8_free, canCh_m (mA h) (zAI I), bI_s, ite_b0]
  unfold frZ
  show OkM r S (if rch Z a = false then _ else _) _ _
  cases hr : rch Z a
  · rw [if_pos rfl, if_neg (by decide)]; exact OkM_0 h
  · obtain ⟨q, f, hq, rfl, hf, ef, hg⟩ := reach_facts (zAI I) hr
    obtain ⟨S1, e1, k⟩ := kt_m h (d + 7)
    obtain ⟨S2, e2, h2, f2⟩ := free_m k.1 (zAI I) hr hq (d + 7)
    obtain ⟨c, f⟩ := fin_M h I k f2 h2
    rw [if_neg (by decide), e1, bV_s, e2, bI_s, if_pos rfl, ix_nI (by omega)]
    exact ⟨S2, rfl, c, f⟩
/-! write -/
def wrB (Z : Zs) (a v : Int32) : Bool := inb v 1000 && rch Z a
def wrZ (Z : Zs) (a v : Int32) : Int32 × Zs := if wrB Z a v = true then (1, zK' Z (wrA (ix a) v (zA Z))) else (0, Z)
theorem wrZ_I {Z : Zs} (I : ZI Z) (a v : Int32) : ZI (wrZ Z a v).2 := by
  unfold wrZ
  by_cases h : wrB Z a v = true
  · rw [if_pos h]
    unfold wrB at h
    rw [Bool.and_eq_true] at h
    obtain ⟨p, hp, e⟩ := inb_ex h.1 (by decide)
    exact zK_I I (wr_Inv (zAI I) _ ⟨p, hp, e⟩)
  · rw [if_neg h]; exact I
theorem wr_c {S : Mem} {x : Nat} {Z : Zs} (h : ClR S x Z) (I : ZI Z) (a v : Int32) (d : Nat) : OkC x S (cal (d + 9) 106 [vR 7 x, vI a, vI v] S) (wrZ Z a v).1 (wrZ Z a v).2 := by
  rw [B_X7_write, isValue_c, bI_s, ite_b0]
  unfold wrZ wrB
  cases hv : inb v 1000
  · rw [if_pos rfl, gd_p isZ_0, Bool.false_and, if_neg (by decide)]; exact OkC_0 h
  · rw [if_neg (by decide), kc_reach (cA h), bI_s, ite_b0, Bool.true_and]
    show OkC x S (if rch Z a = false then _ else _) _ _
    cases hr : rch Z a
    · rw [if_pos rfl, gd_p isZ_0, if_neg (by decide)]; exact OkC_0 h
    · obtain ⟨q, f, hq, rfl, hf, ef, hg⟩ := reach_facts (zAI I) hr
      obtain ⟨S1, e1, k⟩ := kt_c h (d + 6)
      obtain ⟨S2, e2, h2, f2⟩ := put_w k.1 (zAI I) hr hq v (d + 6)
      obtain ⟨c, f⟩ := fin_C h k f2 h2
      rw [if_neg (by decide), e1, bV_s, e2, bV_s, gd_p isZ_1, if_pos rfl, ix_nI (by omega)]
      exact ⟨S2, rfl, c, f⟩
theorem wr_m {S : Mem} {r : Nat} {Z : Zs} (h : MoR S r Z) (I : ZI Z) (a v : Int32) (d : Nat) : OkM r S (cal (d + 9) 261 [vR 8 r, vI a, vI v] S) (wrZ Z a v).1 (wrZ Z a v).2 := by
  rw [B_X8_write, isValue_m, bI_s, ite_b0]
  unfold wrZ wrB
  cases hv : inb v 1000
  · rw [if_pos rfl, gd_p isZ_0, Bool.false_and, if_neg (by decide)]; exact OkM_0 h
  · rw [if_neg (by decide), canCh_m (mA h) (zAI I), bI_s, ite_b0, Bool.true_and]
    show OkM r S (if rch Z a = false then _ else _) _ _
    cases hr : rch Z a
    · rw [if_pos rfl, gd_p isZ_0, if_neg (by decide)]; exact OkM_0 h
    · obtain ⟨q, f, hq, rfl, hf, ef, hg⟩ := reach_facts (zAI I) hr
      obtain ⟨S1, e1, k⟩ := kt_m h (d + 7)
      have e11 : rdI S1 (r + 1) (11 + q / 16) = nI f := (m1 k.1 _ (by omega)).trans ef
      have ev : ((227 : Int32) + 16 * nI f) + nI (q % 16) = nI (227 + (f * 16 + q % 16)) := by
        show (nI 227 + nI 16 * nI f) + nI (q % 16) = _
        rw [pk_mul, nI_add, nI_add]; congr 1; omega
      have w := RP_w k.1 (k := 4) (i := f * 16 + q % 16) (by decide) (by decide) (by show _ < 192; omega) v (fun z => absurd z (by decide))
      rw [show 4 + (off 4 + (f * 16 + q % 16)) = 227 + (f * 16 + q % 16) by show 4 + (223 + (f * 16 + q % 16)) = _; omega] at w
      have ew : up (zA Z) 4 (f * 16 + q % 16) v = wrA q v (zA Z) := by unfold wrA; rw [ef, ix_nI (by omega)]
      rw [ew] at w
      obtain ⟨c, f'⟩ := fin_M h I k (FrM_w (by omega) (by omega)) w
      rw [if_neg (by decide), e1, bV_s, gd_p nz16, div16 (by omega), a11, i13 (by omega), gd_t, gd_p nz16, rem16 (by omega), ix_nI (by omega), e11, ev, i13 (by omega), gd_t, gd_p isZ_1, if_pos rfl, ix_nI (by omega), ix_nI (by omega)]
      exact ⟨_, rfl, c, f'⟩
/-! mesh, fence -/
def cnP (Z : Zs) (a b : Int32) : Bool := inb a 12 && inb b 12 && decide (hinA (zL Z) (zA Z) (ix a) (ix b) = 0)
def fO (Z : Zs) (a : Int32) : Nat := ix (zA Z 1 (ix a))
def meZ (Z : Zs) (a b : Int32) : Int32 × Zs := if cnP Z a b = true then (bitc (lvA (zA Z) (goF (fO Z a) (fO Z b) (zA Z))), zK' Z (meshA (fO Z a) (fO Z b) (zA Z))) else (-1, Z)
def fnZ (Z : Zs) (a b : Int32) : Int32 × Zs := if zA Z 0 3 = -1 ∧ cnP Z a b = true then (bitc (lvA (zA Z) (goF (fO Z a) (fO Z b) (zA Z))), zK' Z (fenceA (fO Z a) (fO Z b) (zA Z))) else (-1, Z)
theorem cnP_f {Z : Zs} (I : ZI Z) {a b : Int32} (h : cnP Z a b = true) : ∃ p q f g, p < 12 ∧ q < 12 ∧ f < 12 ∧ g < 12 ∧ a = nI p ∧ b = nI q ∧ zA Z 1 p = nI f ∧ zA Z 1 q = nI g ∧ fO Z a = f ∧ fO Z b = g ∧ ¬ f = g ∧ hinA (zL Z) (zA Z) p q = 0 ∧ mBound (zA Z 0 3) (zA Z 0 4) (nI f) = false ∧ mBound (zA Z 0 3) (zA Z 0 4) (nI g) = false ∧ lvA (zA Z) f &&& lvA (zA Z) g = 0 := by
  unfold cnP at h
  rw [Bool.and_eq_true, Bool.and_eq_true] at h
  obtain ⟨⟨h1, h2⟩, h3⟩ := h
  obtain ⟨p, hp, rfl⟩ := inb_ex h1 (by decide)
  obtain ⟨q, hq, rfl⟩ := inb_ex h2 (by decide)
  have h3 := of_decide_eq_true h3
  rw [ix_nI (by omega), ix_nI (by omega)] at h3
  obtain ⟨z1, z2, z3, z4, z5, z6⟩ := hin_0 h3
  obtain ⟨f, hf, ef⟩ := fr_ex (IvP_of (zAI I) 0) hp z1
  obtain ⟨g, hg, eg⟩ := fr_ex (IvP_of (zAI I) 0) hq z2
  rw [ef, eg] at z3
  rw [ef] at z4
  rw [eg] at z5
  unfold lvP at z6
  rw [ef, eg] at z6
  refine ⟨p, q, f, g, hp, hq, hf, hg, rfl, rfl, ef, eg, ?_, ?_, fun z => z3 (by rw [z]), h3, z4, z5, z6⟩
  · unfold fO; rw [ix_nI (by omega), ef, ix_nI (by omega)]
  · unfold fO; rw [ix_nI (by omega), eg, ix_nI (by omega)]
theorem g5 {Z : Zs} (I : ZI Z) (h : zA Z 0 3 = -1) : zA Z 0 5 = 0 := by
  rcases iG (zAI I) with z | ⟨g, _, _, _, hg, _, _, _, _, e, -⟩
  · exact z.2.2
  · rw [h] at e; exact absurd e.symm (nI_m1 (by omega))
theorem meZ_I {Z : Zs} (I : ZI Z) (a b : Int32) : ZI (meZ Z a b).2 := by
  unfold meZ
  by_cases h : cnP Z a b = true
  · rw [if_pos h]
    obtain ⟨p, q, f, g, hp, hq, hf, hg, -, -, -, -, ef, eg, -, -, b1, b2, -⟩ := cnP_f I h
    rw [ef, eg]
    exact zK_I I (mesh_Inv (zAI I) hf hg b1 b2)
  · rw [if_neg h]; exact I
theorem fnZ_I {Z : Zs} (I : ZI Z) (a b : Int32) : ZI (fnZ Z a b).2 := by
  unfold fnZ
  by_cases h : zA Z 0 3 = -1 ∧ cnP Z a b = true
  · rw [if_pos h]
    obtain ⟨p, q, f, g, hp, hq, hf, hg, -, -, e1, e2, ef, eg, hne, -, -, -, hd⟩ := cnP_f I h.2
    rw [ef, eg]
    exact zK_I I (fence_Inv (zAI I) hp hq hf hg e1 e2 hne (g5 I h.1) hd)
  · rw [if_neg h]; exact I
/-- the class's answer whether two can be -/
theorem hind_c {S : Mem} {x τ : Nat} {Z : Zs} (h : ClR S x Z) (I : ZI Z) (hτ : TxP x τ) (hL : LC S τ 0 (zL Z 0)) (a b : Int32) (d : Nat) : ∃ S', cal (d + 4) 31 [vR 1 (x + 27 + 1), vI a, vI b, vR 5 τ] S = some (some (vI (if (inb a 12 && inb b 12) = true then nI (hinA (zL Z) (zA Z) (ix a) (ix b)) else -1)), S') ∧ FrT τ S S' := by
  cases ha : inb a 12
  · rw [hin_c0 (d + 3) _ τ (Or.inl ha), if_neg (show ¬ (false && inb b 12) = true from Bool.false_ne_true)]
    exact ⟨S, rfl, FrT_r⟩
  · cases hb : inb b 12
    · rw [hin_c0 (d + 3) _ τ (Or.inr hb), if_neg (by decide)]
      exact ⟨S, rfl, FrT_r⟩
    · obtain ⟨p, hp, rfl⟩ := inb_ex ha (by decide)
      obtain ⟨q, hq, rfl⟩ := inb_ex hb (by decide)
      obtain ⟨S', e, f⟩ := hin_c (L := zL Z) (cA h) (zAI I) hL (tx_d hτ) hp hq d
      rw [e, if_pos (by decide), ix_nI (by omega), ix_nI (by omega)]
      exact ⟨S', rfl, f⟩
theorem ClR_T {S S' : Mem} {x τ : Nat} {Z : Zs} (h : ClR S x Z) (hτ : TxP x τ) (f : FrT τ S S') : ClR S' x Z ∧ FrX x S S' := by
  have fx := FrX_K (FrK_T (x + 28) f) (Or.inl rfl) hτ
  refine ⟨?_, fx⟩
  have := ClR_up h fx (CP_T (cA h) f (tx_d hτ)) (StC_k (cS' h) (fun c c1 c2 => f.1 c (by rcases hτ with rfl | ⟨j, hj, rfl⟩ <;> omega) (by rcases hτ with rfl | ⟨j, hj, rfl⟩ <;> omega)))
  exact this
theorem hin_if {Z : Zs} {a b : Int32} : ((if (inb a 12 && inb b 12) = true then nI (hinA (zL Z) (zA Z) (ix a) (ix b)) else -1) = 0) ↔ cnP Z a b = true := by
  unfold cnP
  cases ha : inb a 12
  · rw [Bool.false_and, Bool.false_and, if_neg Bool.false_ne_true]
    exact ⟨fun z => absurd z (by decide), fun z => absurd z Bool.false_ne_true⟩
  · cases hb : inb b 12
    · rw [Bool.and_false, Bool.false_and, if_neg Bool.false_ne_true]
      exact ⟨fun z => absurd z (by decide), fun z => absurd z Bool.false_ne_true⟩
    · rw [if_pos (by decide)]
      rw [show (nI (hinA (zL Z) (zA Z) (ix a) (ix b)) = 0) ↔ hinA (zL Z) (zA Z) (ix a) (ix b) = 0 from nI_eq (b := 0) (hinA_lt _ _ _ _) (by decide)]
      exact ⟨fun z => by rw [decide_eq_true z]; rfl, fun z => of_decide_eq_true z⟩
theorem me_c {S : Mem} {x : Nat} {Z : Zs} (h : ClR S x Z) (I : ZI Z) (a b : Int32) (d : Nat) : OkC x S (cal (d + 9) 107 [vR 7 x, vI a, vI b] S) (meZ Z a b).1 (meZ Z a b).2 := by
  obtain ⟨τ, er, hτ, l0, -⟩ := ruling_c h I (d + 7)
  obtain ⟨S1, e1, f1⟩ := hind_c h I hτ l0 a b (d + 4)
  obtain ⟨h1, fx⟩ := ClR_T h hτ f1
  rw [B_X7_mesh, er, bR_s, e1, bI_s]
  unfold meZ
  by_cases hc : cnP Z a b = true
  · obtain ⟨p, q, f, g, hp, hq, hf, hg, rfl, rfl, e1', e2', ef, eg, -⟩ := cnP_f I hc
    obtain ⟨S2, e2, k⟩ := kt_c h1 (d + 6)
    obtain ⟨S3, e3, h3, f3⟩ := mesh_c k.1 (zAI I) (d + 5) hp hq hf hg e1' e2'
    obtain ⟨c, fx'⟩ := fin_C h1 k f3 h3
    rw [if_pos (hin_if.mpr hc), e2, bV_s, e3, bI_s, if_pos hc, ef, eg]
    exact ⟨S3, rfl, c, FrX_t fx fx'⟩
  · rw [if_neg (fun z => hc (hin_if.mp z)), if_neg hc]
    exact ⟨S1, rfl, h1, fx⟩
theorem fn_c {S : Mem} {x : Nat} {Z : Zs} (h : ClR S x Z) (I : ZI Z) (a b : Int32) (d : Nat) : OkC x S (cal (d + 9) 108 [vR 7 x, vI a, vI b] S) (fnZ Z a b).1 (fnZ Z a b).2 := by
  rw [B_X7_fence, c0 (cA h) (by decide)]
  unfold fnZ
  by_cases hg3 : zA Z 0 3 = -1
  · obtain ⟨τ, er, hτ, l0, -⟩ := ruling_c h I (d + 7)
    obtain ⟨S1, e1, f1⟩ := hind_c h I hτ l0 a b (d + 4)
    obtain ⟨h1, fx⟩ := ClR_T h hτ f1
    rw [if_pos hg3, er, bR_s, e1, bI_s]
    by_cases hc : cnP Z a b = true
    · obtain ⟨p, q, f, g, hp, hq, hf, hg, rfl, rfl, e1', e2', ef, eg, -⟩ := cnP_f I hc
      obtain ⟨S2, e2, k⟩ := kt_c h1 (d + 6)
      obtain ⟨S3, e3, h3, f3⟩ := fence_c k.1 (zAI I) (d + 6) hp hq hf hg e1' e2' (g5 I hg3)
      obtain ⟨c, fx'⟩ := fin_C h1 k f3 h3
      rw [if_pos (hin_if.mpr hc), e2, bV_s, e3, bI_s, if_pos ⟨hg3, hc⟩, ef, eg]
      exact ⟨S3, rfl, c, FrX_t fx fx'⟩
    · rw [if_neg (fun z => hc (hin_if.mp z)), if_neg (fun z => hc z.2)]
      exact ⟨S1, rfl, h1, fx⟩
  · rw [if_neg hg3, if_neg (fun z => hg3 z.1)]
    exact OkC_0 h
theorem MoR_L {S S' : Mem} {r : Nat} {Z : Zs} (h : MoR S r Z) (I : ZI Z) (f : FrL r S S') : MoR S' r Z ∧ FrY r S S' := by
  have fy := FrY_M (FrL_M f)
  have e := f.1 (r + 1) (by omega) (by omega)
  exact ⟨MoR_up h fy (RP_L (mA h) f) (StM_k (mS' h) (fun i _ => by rw [e])) I.1.2.2.2.2.2.1, fy⟩
theorem canP_m {S : Mem} {r : Nat} {Z : Zs} (h : MoR S r Z) (I : ZI Z) (a b : Int32) (d : Nat) : ∃ S', cal (d + 6) 262 [vR 8 r, vI a, vI b] S = some (some (vI (b2i (cnP Z a b))), S') ∧ FrL r S S' := by
  rw [B_X8_canPair, sp_misNumber, bI_s, ite_b0]
  unfold cnP
  cases ha : inb a 12
  · rw [if_pos rfl, gd_p isZ_0]; exact ⟨S, rfl, FrL_r⟩
  · rw [if_neg (by decide), sp_misNumber, bI_s, ite_b0]
    cases hb : inb b 12
    · rw [if_pos rfl, gd_p isZ_0]; exact ⟨S, rfl, FrL_r⟩
    · obtain ⟨p, hp, rfl⟩ := inb_ex ha (by decide)
      obtain ⟨q, hq, rfl⟩ := inb_ex hb (by decide)
      obtain ⟨S', e, f⟩ := can_m (L := zL Z) (mA h) (zAI I) (ruling_m h I 0 (by decide)) hp hq d
      rw [if_neg (by decide), e, bI_s, ix_nI (by omega), ix_nI (by omega)]
      by_cases z : hinA (zL Z) (zA Z) p q = 0
      · rw [z, if_pos (show nI 0 = 0 from rfl), gd_p isZ_1]; exact ⟨S', rfl, f⟩
      · have hz : ¬ nI (hinA (zL Z) (zA Z) p q) = 0 := fun y => z ((nI_eq (b := 0) (hinA_lt _ _ _ _) (by decide)).mp y)
        rw [if_neg hz, gd_p isZ_0, decide_eq_false z]; exact ⟨S', rfl, f⟩
theorem me_m {S : Mem} {r : Nat} {Z : Zs} (h : MoR S r Z) (I : ZI Z) (a b : Int32) (d : Nat) : OkM r S (cal (d + 9) 263 [vR 8 r, vI a, vI b] S) (meZ Z a b).1 (meZ Z a b).2 := by
  obtain ⟨S1, e1, f1⟩ := canP_m h I a b (d + 2)
  obtain ⟨h1, fy⟩ := MoR_L h I f1
  rw [B_X8_mesh, e1, bI_s, ite_b0]
  unfold meZ
  cases hc : cnP Z a b
  · rw [if_pos rfl, if_neg (by decide)]; exact ⟨S1, rfl, h1, fy⟩
  · obtain ⟨p, q, f, g, hp, hq, hf, hg, rfl, rfl, e1', e2', ef, eg, -⟩ := cnP_f I hc
    obtain ⟨S2, e2, k⟩ := kt_m h1 (d + 7)
    obtain ⟨S3, e3, h3, f3⟩ := mesh_m k.1 (zAI I) (d + 6) hf hg
    obtain ⟨c, fy'⟩ := fin_M h1 I k f3 h3
    have r1 : rdI S2 (r + 1) (11 + p) = nI f := (m1 k.1 p hp).trans e1'
    have r2 : rdI S2 (r + 1) (11 + q) = nI g := (m1 k.1 q hq).trans e2'
    rw [if_neg (by decide), e2, bV_s, a11, a11, i13 (by omega), gd_t, i13 (by omega), gd_t, ix_nI (by omega), ix_nI (by omega), r1, r2, e3, bI_s, if_pos rfl, ef, eg]
    exact ⟨S3, rfl, c, FrY_t fy fy'⟩
theorem fn_m {S : Mem} {r : Nat} {Z : Zs} (h : MoR S r Z) (I : ZI Z) (a b : Int32) (d : Nat) : OkM r S (cal (d + 9) 264 [vR 8 r, vI a, vI b] S) (fnZ Z a b).1 (fnZ Z a b).2 := by
  rw [B_X8_fence, i13_7, gd_t, x13_7, m07 (mA h)]
  unfold fnZ
  by_cases hg3 : zA Z 0 3 = -1
  · obtain ⟨S1, e1, f1⟩ := canP_m h I a b (d + 2)
    obtain ⟨h1, fy⟩ := MoR_L h I f1
    rw [if_pos hg3, e1, bI_s, ite_b0]
    cases hc : cnP Z a b
    · rw [if_pos rfl, if_neg (fun z => by cases z.2)]; exact ⟨S1, rfl, h1, fy⟩
    · obtain ⟨p, q, f, g, hp, hq, hf, hg, rfl, rfl, e1', e2', ef, eg, -⟩ := cnP_f I hc
      obtain ⟨S2, e2, k⟩ := kt_m h1 (d + 7)
      obtain ⟨S3, e3, h3, f3⟩ := fence_m k.1 (zAI I) (d + 6) hf hg (g5 I hg3)
      obtain ⟨c, fy'⟩ := fin_M h1 I k f3 h3
      have r1 : rdI S2 (r + 1) (11 + p) = nI f := (m1 k.1 p hp).trans e1'
      have r2 : rdI S2 (r + 1) (11 + q) = nI g := (m1 k.1 q hq).trans e2'
      rw [if_neg (by decide), e2, bV_s, a11, a11, i13 (by omega), gd_t, i13 (by omega), gd_t, ix_nI (by omega), ix_nI (by omega), r1, r2, e3, bI_s, if_pos ⟨hg3, rfl⟩, ef, eg]
      exact ⟨S3, rfl, c, FrY_t fy fy'⟩
  · rw [if_neg hg3, if_neg (fun z => hg3 z.1)]
    exact OkM_0 h
/-! move, lift, compact, undo -/
def moZ (Z : Zs) : Int32 × Zs := if zA Z 0 3 = -1 then (-1, Z) else (mvR (zA Z), zK' Z (moveA (zA Z)))
def liZ (Z : Zs) : Int32 × Zs := if zA Z 0 3 = -1 then (0, Z) else (1, zK' Z (liftA (zA Z)))
def coZ (Z : Zs) : Int32 × Zs := (nI (cpC (zL Z) (zA Z)).2.2, zK' Z (cpC (zL Z) (zA Z)).1)
def unZ (Z : Zs) : Int32 × Zs := if zN Z = 0 then (-1, Z) else (nI (zN Z - 1), zUp Z (zSt Z (zN Z - 1)) (zN Z - 1) (zSt Z))
theorem moZ_I {Z : Zs} (I : ZI Z) : ZI (moZ Z).2 := by
  unfold moZ
  by_cases h : zA Z 0 3 = -1
  · rw [if_pos h]; exact I
  · rw [if_neg h]; exact zK_I I (move_Inv (zAI I) h)
theorem liZ_I {Z : Zs} (I : ZI Z) : ZI (liZ Z).2 := by
  unfold liZ
  by_cases h : zA Z 0 3 = -1
  · rw [if_pos h]; exact I
  · rw [if_neg h]; exact zK_I I (lift_Inv (zAI I))
theorem coZ_I {Z : Zs} (I : ZI Z) : ZI (coZ Z).2 := zK_I I (comp_Inv _ (zAI I))
theorem unZ_I {Z : Zs} (I : ZI Z) : ZI (unZ Z).2 := by
  unfold unZ
  by_cases h : zN Z = 0
  · rw [if_pos h]; exact I
  · have hn : zN Z ≤ 30 := I.1.2.2.1
    have hS : ∀ i, i < zN Z → Inv (zSt Z i) := I.1.2.1
    rw [if_neg h]; exact ZI_up I (hS _ (by omega)) (by omega) (fun i hi => hS i (by omega))
theorem mo_c {S : Mem} {x : Nat} {Z : Zs} (h : ClR S x Z) (I : ZI Z) (d : Nat) : OkC x S (cal (d + 9) 109 [vR 7 x] S) (moZ Z).1 (moZ Z).2 := by
  rw [B_X7_move, c0 (cA h) (by decide)]
  unfold moZ
  by_cases hg : zA Z 0 3 = -1
  · rw [if_pos hg, if_pos hg]; exact OkC_0 h
  · obtain ⟨S1, e1, k⟩ := kt_c h (d + 6)
    obtain ⟨S2, e2, h2, f2⟩ := move_c k.1 (zAI I) (d + 5) hg
    obtain ⟨c, f⟩ := fin_C h k f2 h2
    rw [if_neg hg, e1, bV_s, e2, bI_s, if_neg hg]
    exact ⟨S2, rfl, c, f⟩
theorem mo_m {S : Mem} {r : Nat} {Z : Zs} (h : MoR S r Z) (I : ZI Z) (d : Nat) : OkM r S (cal (d + 9) 265 [vR 8 r] S) (moZ Z).1 (moZ Z).2 := by
  rw [B_X8_move, i13_7, gd_t, x13_7, m07 (mA h)]
  unfold moZ
  by_cases hg : zA Z 0 3 = -1
  · rw [if_pos hg, if_pos hg]; exact OkM_0 h
  · obtain ⟨S1, e1, k⟩ := kt_m h (d + 7)
    obtain ⟨S2, e2, h2, f2⟩ := move_m k.1 (zAI I) (d + 6) hg
    obtain ⟨c, f⟩ := fin_M h I k f2 h2
    rw [if_neg hg, e1, bV_s, e2, bI_s, if_neg hg]
    exact ⟨S2, rfl, c, f⟩
theorem li_c {S : Mem} {x : Nat} {Z : Zs} (h : ClR S x Z) (I : ZI Z) (d : Nat) : OkC x S (cal (d + 9) 110 [vR 7 x] S) (liZ Z).1 (liZ Z).2 := by
  rw [B_X7_lift, c0 (cA h) (by decide)]
  unfold liZ
  by_cases hg : zA Z 0 3 = -1
  · rw [if_pos hg, if_pos hg, gd_p isZ_0]; exact OkC_0 h
  · obtain ⟨S1, e1, k⟩ := kt_c h (d + 6)
    obtain ⟨S2, e2, h2, f2⟩ := lift_c k.1 (zAI I) (d + 6) hg
    obtain ⟨c, f⟩ := fin_C h k f2 h2
    rw [if_neg hg, e1, bV_s, e2, bV_s, gd_p isZ_1, if_neg hg]
    exact ⟨S2, rfl, c, f⟩
theorem li_m {S : Mem} {r : Nat} {Z : Zs} (h : MoR S r Z) (I : ZI Z) (d : Nat) : OkM r S (cal (d + 9) 266 [vR 8 r] S) (liZ Z).1 (liZ Z).2 := by
  rw [B_X8_lift, i13_7, gd_t, x13_7, m07 (mA h)]
  unfold liZ
  by_cases hg : zA Z 0 3 = -1
  · rw [if_pos hg, if_pos hg, gd_p isZ_0]; exact OkM_0 h
  · obtain ⟨S1, e1, k⟩ := kt_m h (d + 7)
    obtain ⟨S2, e2, h2, f2⟩ := lift_m k.1 (zAI I) (d + 7) hg
    obtain ⟨c, f⟩ := fin_M h I k f2 h2
    rw [if_neg hg, e1, bV_s, e2, bV_s, gd_p isZ_1, if_neg hg]
    exact ⟨S2, rfl, c, f⟩
/-- the ruling text behind a step kept -/
theorem rul_k {S S1 : Mem} {x : Nat} {Z : Zs} (h : ClR S x Z) (I : ZI Z) (k : KtC x Z S S1) (d : Nat) : ∃ τ, cal (d + 1) 149 [vR 7 x] S1 = some (some (vR 5 τ), S1) ∧ TxP x τ ∧ LC S1 τ 0 (zL Z 0) ∧ LC S1 τ 1 (zL Z 1) := by
  have h1 : ClR S1 x (zK' Z (zA Z)) := ClR_up h k.2.2.1 k.1 k.2.1
  exact ruling_c h1 (zK_I I (zAI I)) d
theorem co_c {S : Mem} {x : Nat} {Z : Zs} (h : ClR S x Z) (I : ZI Z) (d : Nat) : OkC x S (cal (d + 9) 111 [vR 7 x] S) (coZ Z).1 (coZ Z).2 := by
  obtain ⟨S1, e1, k⟩ := kt_c h (d + 6)
  obtain ⟨τ, er, hτ, l0, l1⟩ := rul_k h I k (d + 7)
  obtain ⟨S2, e2, h2, f2⟩ := comp_c (L := zL Z) k.1 (zAI I) l0 l1 (tx_d hτ) (d + 3)
  obtain ⟨c, f⟩ := fin_K h k hτ f2 h2
  rw [B_X7_compact, e1, bV_s, er, bR_s, e2, bI_s]
  exact ⟨S2, rfl, c, f⟩
theorem co_m {S : Mem} {r : Nat} {Z : Zs} (h : MoR S r Z) (I : ZI Z) (d : Nat) : OkM r S (cal (d + 9) 267 [vR 8 r] S) (coZ Z).1 (coZ Z).2 := by
  obtain ⟨S1, e1, k⟩ := kt_m h (d + 7)
  obtain ⟨S2, e2, h2, f2⟩ := comp_m (L := zL Z) k.1 (zAI I) (kt_R k (ruling_m h I 0 (by decide))) (kt_R k (ruling_m h I 1 (by decide))) (d + 1)
  obtain ⟨c, f⟩ := fin_D h I k (FrD_N f2) h2
  rw [B_X8_compact, e1, bV_s, e2, bI_s]
  exact ⟨S2, rfl, c, f⟩
theorem un_c {S : Mem} {x : Nat} {Z : Zs} (h : ClR S x Z) (d : Nat) : OkC x S (cal (d + 9) 115 [vR 7 x] S) (unZ Z).1 (unZ Z).2 := by
  have e2 : rdI S (x + 27 + 8) 2 = nI (zN Z) := (cS' h).choose_spec.2.2.1
  have hn : zN Z ≤ 30 := (cS' h).choose_spec.2.2.2.1
  rw [B_X7_undo, e2]
  unfold unZ
  by_cases z : zN Z = 0
  · rw [if_pos (show nI (zN Z) = 0 by rw [z]; rfl), if_pos z]; exact OkC_0 h
  · obtain ⟨S1, e1, h1, h2, f1, g1⟩ := undo_c (t := x + 27 + 1) (cS' h) (Nat.pos_of_ne_zero z) (by omega) (d + 6)
    have e3 : rdI S1 (x + 27 + 8) 2 = nI (zN Z - 1) := h2.choose_spec.2.2.1
    have fx : FrX x S S1 := ⟨fun c hc => f1 c (fun y => hc (Or.inl ⟨by omega, by omega⟩)) (fun y => hc (Or.inl ⟨by omega, by omega⟩)), g1⟩
    rw [if_neg (nI_ne0 (Nat.pos_of_ne_zero z) (by omega)), e1, bV_s, e3, if_neg z]
    exact ⟨S1, rfl, ClR_up h fx h1 h2, fx⟩
theorem un_m {S : Mem} {r : Nat} {Z : Zs} (h : MoR S r Z) (I : ZI Z) (d : Nat) : OkM r S (cal (d + 9) 257 [vR 8 r] S) (unZ Z).1 (unZ Z).2 := by
  obtain ⟨u0, u1⟩ := undo_m (mS' h) (d + 8)
  unfold unZ
  by_cases z : zN Z = 0
  · rw [u0 z, if_pos z]; exact OkM_0 h
  · obtain ⟨S1, e1, h1, h2, f1, g1⟩ := u1 (Nat.pos_of_ne_zero z)
    have fy : FrY r S S1 := ⟨fun c i hc => f1 c i (fun y => hc (Or.inl ⟨y.1, y.2.elim Or.inl (fun w => Or.inr (Or.inl w))⟩)), congrArg Prod.snd g1⟩
    rw [e1, if_neg z]
    exact ⟨S1, rfl, MoR_up h fy h1 h2 I.1.2.2.2.2.2.1, fy⟩
