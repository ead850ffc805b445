/-! steps that write what rules and the tape: the wider frames -/
def FwX (x : Nat) (S S' : Mem) : Prop := (∀ c, ¬ (x ≤ c ∧ c < x + 524) → rdI S' c = rdI S c) ∧ S'.2 = S.2
def FwY (r : Nat) (S S' : Mem) : Prop := (∀ c i, ¬ (r ≤ c ∧ c < r + 17) → rdI S' c i = rdI S c i) ∧ S'.2.2 = S.2.2
theorem FwX_X {x : Nat} {S S' : Mem} (h : FrX x S S') : FwX x S S' := ⟨fun c hc => h.1 c (fun z => hc (by
  rcases z with z | z | z | ⟨j, hj, z⟩ | z
  · omega
  · omega
  · omega
  · omega
  · omega)), h.2⟩
theorem FwY_Y {r : Nat} {S S' : Mem} (h : FrY r S S') : FwY r S S' := ⟨fun c i hc => h.1 c i (fun z => hc (by
  rcases z with z | z | z | z | z
  · omega
  · omega
  · omega
  · omega
  · omega)), h.2⟩
theorem FwX_t {x : Nat} {S S1 S2 : Mem} (h : FwX x S S1) (h2 : FwX x S1 S2) : FwX x S S2 := ⟨fun c hc => (h2.1 c hc).trans (h.1 c hc), h2.2.trans h.2⟩
theorem FwY_t {r : Nat} {S S1 S2 : Mem} (h : FwY r S S1) (h2 : FwY r S1 S2) : FwY r S S2 := ⟨fun c i hc => (h2.1 c i hc).trans (h.1 c i hc), h2.2.trans h.2⟩
def OwC (x : Nat) (S : Mem) (o : Option Res) (v : Int32) (Z' : Zs) : Prop := ∃ S', o = some (some (vI v), S') ∧ ClR S' x Z' ∧ FwX x S S'
def OwM (r : Nat) (S : Mem) (o : Option Res) (v : Int32) (Z' : Zs) : Prop := ∃ S', o = some (some (vI v), S') ∧ MoR S' r Z' ∧ FwY r S S'
theorem OwC_k {x : Nat} {S : Mem} {o : Option Res} {v : Int32} {Z' : Zs} (h : OkC x S o v Z') : OwC x S o v Z' := by
  obtain ⟨S', e, k, f⟩ := h
  exact ⟨S', e, k, FwX_X f⟩
theorem OwM_k {r : Nat} {S : Mem} {o : Option Res} {v : Int32} {Z' : Zs} (h : OkM r S o v Z') : OwM r S o v Z' := by
  obtain ⟨S', e, k, f⟩ := h
  exact ⟨S', e, k, FwY_Y f⟩
/-! faults, and about the state -/
def faZ (Z : Zs) (a : Int32) : Int32 := if a = 0 then Z.2.2.2.2.2.1 else if a = 1 then Z.2.2.2.2.2.2 else -1
theorem fa_c {S : Mem} {x : Nat} {Z : Zs} (h : ClR S x Z) (a : Int32) (d : Nat) : OkC x S (cal d 102 [vR 7 x, vI a] S) (faZ Z a) Z := by
  have t := h.2.2.2.2
  rw [B_X7_fault, show rdI S (x + 1) 2 = _ from t.2.2.1, show rdI S (x + 1) 3 = _ from t.2.2.2]
  unfold faZ
  by_cases w0 : a = 0
  · rw [if_pos w0, if_pos w0]; exact OkC_0 h
  · rw [if_neg w0, if_neg w0]
    by_cases w1 : a = 1
    · rw [if_pos w1, if_pos w1]; exact OkC_0 h
    · rw [if_neg w1, if_neg w1]; exact OkC_0 h
theorem fa_m {S : Mem} {r : Nat} {Z : Zs} (h : MoR S r Z) (a : Int32) (d : Nat) : OkM r S (cal d 215 [vR 8 r, vI a] S) (faZ Z a) Z := by
  have t := h.2.2.2
  rw [B_X8_fault, show rdI S r 5 = _ from t.2.2.1, show rdI S r 6 = _ from t.2.2.2]
  unfold faZ
  by_cases w0 : a = 0
  · rw [if_pos w0, if_pos w0]; exact OkM_0 h
  · rw [if_neg w0, if_neg w0]
    by_cases w1 : a = 1
    · rw [if_pos w1, if_pos w1]; exact OkM_0 h
    · rw [if_neg w1, if_neg w1]; exact OkM_0 h
def abZ (Z : Zs) (a : Int32) : Int32 := if a = 0 then nI (zT Z) else if a = 1 then zX Z else if a = 2 then nI (zN Z) else if a = 3 then nI (zK Z) else if a = 4 then nI Z.2.2.2.1 else if a = 5 then zA Z 0 3 else if a = 6 then bitc (mvW (zA Z)) else -2
theorem ab_c {S : Mem} {x : Nat} {Z : Zs} (h : ClR S x Z) (a : Int32) (d : Nat) : OkC x S (cal (d + 9) 147 [vR 7 x, vI a] S) (abZ Z a) Z := by
  obtain ⟨f, hf, -, e2, -⟩ := cS' h
  rw [B_X7_about, show rdI S (x + 27) 4 = nI (zT Z) from h.1.2.2.1, show rdI S (x + 27) 5 = zX Z from h.1.2.2.2.1, e2, show rdI S (x + 27) 3 = nI (zK Z) from h.1.2.2.2.2.1, show rdI S (x + 1) 1 = _ from h.2.2.2.2.1, c0 (cA h) (by decide), stm_c (cA h), bI_s]
  unfold abZ
  by_cases w0 : a = 0
  · rw [if_pos w0, if_pos w0]; exact OkC_0 h
  · rw [if_neg w0, if_neg w0]
    by_cases w1 : a = 1
    · rw [if_pos w1, if_pos w1]; exact OkC_0 h
    · rw [if_neg w1, if_neg w1]
      by_cases w2 : a = 2
      · rw [if_pos w2, if_pos w2]; exact OkC_0 h
      · rw [if_neg w2, if_neg w2]
        by_cases w3 : a = 3
        · rw [if_pos w3, if_pos w3]; exact OkC_0 h
        · rw [if_neg w3, if_neg w3]
          by_cases w4 : a = 4
          · rw [if_pos w4, if_pos w4]; exact OkC_0 h
          · rw [if_neg w4, if_neg w4]
            by_cases w5 : a = 5
            · rw [if_pos w5, if_pos w5]; exact OkC_0 h
            · rw [if_neg w5, if_neg w5]
              by_cases w6 : a = 6
              · rw [if_pos w6, if_pos w6]; exact OkC_0 h
              · rw [if_neg w6, if_neg w6]; exact OkC_0 h
theorem mvW_ok {A : AS} (I : Inv A) : ∃ k, k < 65536 ∧ mvW A = nI k := by
  obtain ⟨k, hk, e⟩ := fLiveIn_ok (fr := A 1) (iL I) (A 0 3)
  have := and_ok hk (A 0 5 ^^^ -1)
  rw [← e] at this; exact this
theorem ab_m {S : Mem} {r : Nat} {Z : Zs} (h : MoR S r Z) (I : ZI Z) (a : Int32) (d : Nat) : OkM r S (cal (d + 9) 317 [vR 8 r, vI a] S) (abZ Z a) Z := by
  have hA := mA h
  obtain ⟨f, hf, -, e2, -⟩ := mS' h
  have l6 : cal (d + 8) 245 [vR 8 r] S = some (some (vI (mvW (zA Z))), S) := by
    by_cases g : zA Z 0 3 = -1
    · rw [B_X8_leftToCopy, i13_7, gd_t, x13_7, m07 hA, if_pos g]
      unfold mvW
      rw [g, fLiveIn_m1]
      have : ∀ y : Int32, (0 : Int32) &&& y = 0 := fun y => by
        rw [nI_tn y]
        show nI 0 &&& nI _ = _
        rw [nI_and, Nat.zero_and]; rfl
      rw [this]
    · exact left_m hA (d + 7) g
  rw [B_X8_about]
  unfold abZ
  by_cases w4 : a = 4
  · subst w4
    rw [if_pos rfl, if_neg (by decide), if_neg (by decide), if_neg (by decide), if_neg (by decide), if_pos rfl, show rdI S r 4 = _ from h.2.2.2.1]; exact OkM_0 h
  · rw [if_neg w4]
    by_cases w5 : a = 5
    · subst w5
      rw [if_pos rfl, if_neg (by decide), if_neg (by decide), if_neg (by decide), if_neg (by decide), if_neg (by decide), if_pos rfl, i13_7, gd_t, x13_7, m07 hA]; exact OkM_0 h
    · rw [if_neg w5]
      by_cases w6 : a = 6
      · subst w6
        rw [if_pos rfl, if_neg (by decide), if_neg (by decide), if_neg (by decide), if_neg (by decide), if_neg (by decide), if_neg (by decide), if_pos rfl, l6, bI_s, km_bits _ (mvW_ok (zAI I)), bI_s]; exact OkM_0 h
      · rw [if_neg w6, sp_isIn, bI_s, show (decide ((0 : Int32) ≤ a) && decide (a ≤ (3 : Int32))) = inb a 4 from isIn_inb 3 (by decide) a, ite_b0]
        cases hb : inb a 4
        · have nz : ∀ j : Nat, j < 4 → ¬ a = nI j := fun j hj e => by
            rw [e, inb_t hj (by decide)] at hb; cases hb
          rw [if_pos rfl, if_neg (show ¬ a = 0 from nz 0 (by decide)), if_neg (show ¬ a = 1 from nz 1 (by decide)), if_neg (show ¬ a = 2 from nz 2 (by decide)), if_neg (show ¬ a = 3 from nz 3 (by decide)), if_neg w4, if_neg w5, if_neg w6]; exact OkM_0 h
        · obtain ⟨j, hj, rfl⟩ := inb_ex hb (by decide)
          rw [if_neg (by decide), i13 (by omega), gd_t, ix_nI (by omega)]
          rcases (show j = 0 ∨ j = 1 ∨ j = 2 ∨ j = 3 by omega) with rfl | rfl | rfl | rfl
          · rw [if_pos (show nI 0 = 0 from rfl), show rdI S (r + 1) 0 = nI (zT Z) from h.1.2.2.1]; exact OkM_0 h
          · rw [if_neg (by decide), if_pos (show nI 1 = 1 from rfl), show rdI S (r + 1) 1 = zX Z from h.1.2.2.2.1]; exact OkM_0 h
          · rw [if_neg (by decide), if_neg (by decide), if_pos (show nI 2 = 2 from rfl), e2]; exact OkM_0 h
          · rw [if_neg (by decide), if_neg (by decide), if_neg (by decide), if_pos (show nI 3 = 3 from rfl), show rdI S (r + 1) 3 = nI (zK Z) from h.1.2.2.2.2.1]; exact OkM_0 h
/-! what rules, told -/
def zBy (Z : Zs) (a : Int32) : Zs := ((Z.1.1, (Z.1.2.1, ((zT Z, a), Z.1.2.2.2))), Z.2)
def byB (Z : Zs) (a : Int32) : Bool := decide (a = -1) || inb a (zT Z)
def byS (Z : Zs) (a : Int32) : Zs := if byB Z a = true then zBy Z a else Z
theorem by_I {Z : Zs} (I : ZI Z) (a : Int32) : ZI (byS Z a) := by
  unfold byS
  cases hb : byB Z a
  · rw [if_neg Bool.false_ne_true]; exact I
  · rw [if_pos rfl]
    obtain ⟨⟨i1, i2, i3, i4, i5, i6⟩, i7⟩ := I
    refine ⟨⟨i1, i2, i3, i4, ?_, i6⟩, i7⟩
    unfold byB at hb
    rcases (Bool.or_eq_true _ _).mp hb with z | z
    · exact Or.inl (of_decide_eq_true z)
    · have i4' : zT Z ≤ 4 := i4
      obtain ⟨y, hy, e⟩ := inb_ex z (by omega)
      exact Or.inr ⟨y, hy, e⟩
theorem ClR_by {S : Mem} {x : Nat} {Z : Zs} (h : ClR S x Z) (a : Int32) : ClR (wrI S (x + 27) 5 a) x (zBy Z a) ∧ FwX x S (wrI S (x + 27) 5 a) := by
  obtain ⟨⟨w1, w2, w3, w4, w5, w6⟩, h2, h3, h4, h5⟩ := h
  have e : ∀ c, ¬ c = x + 27 → rdI (wrI S (x + 27) 5 a) c = rdI S c := fun c hc => funext fun i => by rw [rdI_wrI, if_neg (fun z => hc z.1)]
  have n : ∀ i, ¬ i = 5 → rdI (wrI S (x + 27) 5 a) (x + 27) i = rdI S (x + 27) i := fun i hi => by rw [rdI_wrI, if_neg (fun z => hi z.2)]
  refine ⟨⟨⟨CP_e w1 (fun c c1 c2 => e c (by omega)), StC_k w2 (fun c c1 c2 => e c (by omega)), ?_, ?_, ?_, fun i hi => ?_⟩, WC_k h2 (fun c c1 c2 => e c (by omega)), fun j hj => TxC_k (h3 j hj) (fun c c1 c2 => e c (by omega)), ⟨LC_k h4.1 (fun c c1 c2 => e c (by omega)), LC_k h4.2 (fun c c1 c2 => e c (by omega))⟩, ?_⟩, fun c hc => e c (by omega), rfl⟩
  · rw [n 4 (by decide)]; exact w3
  · rw [rdI_wrI, if_pos ⟨rfl, rfl⟩]; rfl
  · rw [n 3 (by decide)]; exact w5
  · rw [e (x + 27 + 220) (by omega)]; exact w6 i hi
  · unfold TpC at h5 ⊢
    rw [e (x + 1) (by omega), e (x + 1 + 1) (by omega)]; exact h5
theorem MoR_by {S : Mem} {r : Nat} {Z : Zs} (h : MoR S r Z) (a : Int32) : MoR (wrI S (r + 1) 1 a) r (zBy Z a) ∧ FwY r S (wrI S (r + 1) 1 a) := by
  obtain ⟨⟨w1, w2, w3, w4, w5, w6⟩, h2, h3, h5⟩ := h
  have e : ∀ c, ¬ c = r + 1 → rdI (wrI S (r + 1) 1 a) c = rdI S c := fun c hc => funext fun i => by rw [rdI_wrI, if_neg (fun z => hc z.1)]
  have n : ∀ i, ¬ i = 1 → rdI (wrI S (r + 1) 1 a) (r + 1) i = rdI S (r + 1) i := fun i hi => by rw [rdI_wrI, if_neg (fun z => hi z.2)]
  refine ⟨⟨⟨RP_fr w1 (fun i i1 i2 => n i (by omega)), StM_k w2 (fun i hi => n i (by omega)), ?_, ?_, ?_, fun i hi => ?_⟩, WM_k h2 (fun i => congrFun (e (r + 2) (by omega)) i), fun j hj => TxM_k (h3 j hj) (e (r + 3) (by omega)), ?_⟩, fun c i hc => congrFun (e c (by omega)) i, rfl⟩
  · rw [n 0 (by decide)]; exact w3
  · rw [rdI_wrI, if_pos ⟨rfl, rfl⟩]; rfl
  · rw [n 3 (by decide)]; exact w5
  · rw [n _ (by omega), n _ (by omega), n _ (by omega)]; exact w6 i hi
  · unfold TpM at h5 ⊢
    rw [e r (by omega), e (r + 4) (by omega)]; exact h5
theorem by_c {S : Mem} {x : Nat} {Z : Zs} (h : ClR S x Z) (I : ZI Z) (a : Int32) (d : Nat) : OwC x S (cal (d + 9) 103 [vR 7 x, vI a] S) (b2i (byB Z a)) (byS Z a) := by
  rw [B_X7_by, isText_c h I, bI_s, ite_b0, gd_p isZ_1, gd_p isZ_0]
  unfold byS byB
  by_cases z : a = -1
  · rw [if_pos z, decide_eq_true z, Bool.true_or, if_pos rfl]
    exact ⟨_, rfl, ClR_by h a⟩
  · rw [if_neg z, decide_eq_false z, Bool.false_or]
    cases hb : inb a (zT Z)
    · rw [if_pos rfl, if_neg Bool.false_ne_true]; exact OwC_k (OkC_0 h)
    · rw [if_neg (by decide), if_pos rfl]
      exact ⟨_, rfl, ClR_by h a⟩
theorem by_m {S : Mem} {r : Nat} {Z : Zs} (h : MoR S r Z) (I : ZI Z) (a : Int32) (d : Nat) : OwM r S (cal (d + 9) 216 [vR 8 r, vI a] S) (b2i (byB Z a)) (byS Z a) := by
  have h0 : rdI S (r + 1) 0 = nI (zT Z) := h.1.2.2.1
  have ht : zT Z ≤ 4 := I.1.2.2.2.1
  have hin : (decide ((-1 : Int32) ≤ a) && decide (a ≤ nI (zT Z) - 1)) = byB Z a := by
    have fin : ∀ T : Fin 5, (-1 : Int32) ≤ nI T.1 - 1 ∧ ¬ (T.1 = 0 ∧ ¬ nI T.1 - 1 = -1) ∧ (¬ T.1 = 0 → nI T.1 - 1 = nI (T.1 - 1)) := by decide
    obtain ⟨f1, f2, f3⟩ := fin ⟨zT Z, by omega⟩
    unfold byB
    by_cases z : a = -1
    · rw [decide_eq_true z, Bool.true_or, z, decide_eq_true (by decide), Bool.true_and]
      exact decide_eq_true f1
    · rw [decide_eq_false z, Bool.false_or]
      by_cases g : a < 0
      · have : ¬ (-1 : Int32) ≤ a := fun y => z (by
          rw [Int32.lt_iff_toInt_lt] at g
          rw [Int32.le_iff_toInt_le] at y
          have e1 : (-1 : Int32).toInt = -1 := by decide
          have e0 : (0 : Int32).toInt = 0 := by decide
          rw [e1] at y
          rw [e0] at g
          exact Int32.toInt_inj.mp (by rw [e1]; omega))
        rw [decide_eq_false this, Bool.false_and]
        cases hb : inb a (zT Z)
        · rfl
        · obtain ⟨p, hp, rfl⟩ := inb_ex hb (by omega)
          exact absurd g (nI_pos (by omega))
      · obtain ⟨j, hj, rfl⟩ := nI_of g
        rw [inb_nI hj, decide_eq_true (show (-1 : Int32) ≤ nI j from Int32.le_trans (by decide : (-1 : Int32) ≤ 0) (Int32.not_lt.mp g)), Bool.true_and]
        by_cases t0 : zT Z = 0
        · have e1 : nI (zT Z) - 1 = -1 := Classical.byContradiction fun y => f2 ⟨t0, y⟩
          rw [e1, decide_eq_false (show ¬ j < zT Z by omega)]
          exact decide_eq_false (fun y => g (Int32.lt_of_le_of_lt y (by decide)))
        · rw [f3 t0]
          refine decide_eq_decide.mpr ((nI_leI hj (by omega)).trans ?_)
          show j ≤ zT Z - 1 ↔ _
          omega
  rw [B_X8_by, show inb 0 13669 = true from i13 (k := 0) (by decide), gd_t, show ix 0 = 0 from ix_nI (p := 0) (by decide), h0, sp_isIn, bI_s, hin, ite_b0, gd_p isZ_0]
  unfold byS
  cases hb : byB Z a
  · rw [if_pos rfl, if_neg Bool.false_ne_true]; exact OwM_k (OkM_0 h)
  · rw [if_neg (by decide), if_pos rfl, show inb 1 13669 = true from i13 (k := 1) (by decide), gd_t, gd_p isZ_1, show ix 1 = 1 from ix_nI (p := 1) (by decide)]
    exact ⟨_, rfl, MoR_by h a⟩
/-! the tape cut -/
def zTp (Z : Zs) (p : Tp) : Zs := (Z.1, (Z.2.1, (Z.2.2.1, p)))
def enB (Z : Zs) (a : Int32) : Bool := inb a (Z.2.2.2.1 + 1)
def enS (Z : Zs) (a : Int32) : Zs := if enB Z a = true then zTp Z (ix a, Z.2.2.2.2) else Z
theorem ClR_tp {S S' : Mem} {x : Nat} {Z : Zs} (h : ClR S x Z) {p : Tp} (e : ∀ c, ¬ (c = x + 1 ∨ c = x + 1 + 1) → rdI S' c = rdI S c) (hp : TpC S' x p) : ClR S' x (zTp Z p) := by
  obtain ⟨h1, h2, h3, h4, h5⟩ := h
  exact ⟨WC_k h1 (fun c c1 c2 => e c (by omega)), WC_k h2 (fun c c1 c2 => e c (by omega)), fun j hj => TxC_k (h3 j hj) (fun c c1 c2 => e c (by omega)), ⟨LC_k h4.1 (fun c c1 c2 => e c (by omega)), LC_k h4.2 (fun c c1 c2 => e c (by omega))⟩, hp⟩
theorem MoR_tp {S S' : Mem} {r : Nat} {Z : Zs} (h : MoR S r Z) {p : Tp} (e : ∀ c, ¬ (c = r ∨ c = r + 4) → rdI S' c = rdI S c) (hp : TpM S' r p) : MoR S' r (zTp Z p) := by
  obtain ⟨h1, h2, h3, h5⟩ := h
  exact ⟨WM_k h1 (fun i => congrFun (e _ (by omega)) i), WM_k h2 (fun i => congrFun (e _ (by omega)) i), fun j hj => TxM_k (h3 j hj) (e _ (by omega)), hp⟩
theorem ZI_tp {Z : Zs} (I : ZI Z) {p : Tp} (hp : TpI p) : ZI (zTp Z p) := by
  obtain ⟨i1, i2, i3, i4, i5⟩ := I
  exact ⟨i1, i2, i3, i4, hp⟩
theorem en_I {Z : Zs} (I : ZI Z) (a : Int32) : ZI (enS Z a) := by
  unfold enS
  cases hb : enB Z a
  · rw [if_neg Bool.false_ne_true]; exact I
  · rw [if_pos rfl]
    have t : TpI Z.2.2.2 := I.2.2.2.2
    unfold enB at hb
    have t1 := t.1
    obtain ⟨k, hk, rfl⟩ := inb_ex hb (by omega)
    refine ZI_tp I ⟨?_, fun i hi => t.2 i ?_⟩
    · show ix (nI k) ≤ 300
      rw [ix_nI (by omega)]; omega
    · have hi' : i < ix (nI k) := hi
      rw [ix_nI (by omega)] at hi'; omega
theorem en_c {S : Mem} {x : Nat} {Z : Zs} (h : ClR S x Z) (I : ZI Z) (a : Int32) (d : Nat) : OwC x S (cal d 100 [vR 7 x, vI a] S) (if enB Z a = true then a else -1) (enS Z a) := by
  obtain ⟨t1, t2, t3, t4⟩ := h.2.2.2.2
  have tl : Z.2.2.2.1 ≤ 300 := I.2.2.2.2.1
  rw [B_X7_end, t1]
  unfold enS
  have hb : enB Z a = inb a (Z.2.2.2.1 + 1) := rfl
  by_cases g : a < 0
  · have : enB Z a = false := by
      rw [hb]
      cases y : inb a (Z.2.2.2.1 + 1)
      · rfl
      · obtain ⟨p, hp, rfl⟩ := inb_ex y (by omega)
        exact absurd g (nI_pos (by omega))
    rw [if_pos g, this, if_neg Bool.false_ne_true, if_neg Bool.false_ne_true]; exact OwC_k (OkC_0 h)
  · obtain ⟨j, hj, rfl⟩ := nI_of g
    rw [if_neg g, hb, inb_nI hj]
    by_cases y : j < Z.2.2.2.1 + 1
    · rw [decide_eq_true y, if_pos ((nI_leI hj (by omega)).mpr (by omega)), if_pos rfl, if_pos rfl, ix_nI hj]
      refine ⟨_, rfl, ClR_tp h (fun c hc => funext fun i => by rw [rdI_wrI, if_neg (fun z => hc (Or.inl z.1))]) ⟨?_, fun i hi => ?_, ?_, ?_⟩, fun c hc => funext fun i => by rw [rdI_wrI, if_neg (fun z => hc (by omega))], rfl⟩
      · rw [rdI_wrI, if_pos ⟨rfl, rfl⟩]
      · have hi' : i < j := hi
        rw [rdI_wrI, if_neg (by omega)]; exact t2 i (by omega)
      · rw [rdI_wrI, if_neg (fun z => absurd z.2 (by decide))]; exact t3
      · rw [rdI_wrI, if_neg (fun z => absurd z.2 (by decide))]; exact t4
    · rw [decide_eq_false y, if_neg (fun z => y (by have := (nI_leI hj (by omega)).mp z; omega)), if_neg Bool.false_ne_true, if_neg Bool.false_ne_true]; exact OwC_k (OkC_0 h)
theorem en_m {S : Mem} {r : Nat} {Z : Zs} (h : MoR S r Z) (I : ZI Z) (a : Int32) (d : Nat) : OwM r S (cal (d + 1) 178 [vR 8 r, vI a] S) (if enB Z a = true then a else -1) (enS Z a) := by
  obtain ⟨t1, t2, t3, t4⟩ := h.2.2.2
  have tl : Z.2.2.2.1 ≤ 300 := I.2.2.2.2.1
  have hb : enB Z a = inb a (Z.2.2.2.1 + 1) := rfl
  rw [B_X8_end, t1, sp_isIn, bI_s, isIn_inb _ (by omega), ← hb, ite_b0]
  unfold enS
  cases y : enB Z a
  · rw [if_pos rfl, if_neg Bool.false_ne_true, if_neg Bool.false_ne_true]; exact OwM_k (OkM_0 h)
  · rw [if_neg (by decide), if_pos rfl, if_pos rfl]
    rw [hb] at y
    obtain ⟨j, hj, rfl⟩ := inb_ex y (by omega)
    rw [ix_nI (by omega)]
    refine ⟨_, rfl, MoR_tp h (fun c hc => funext fun i => by rw [rdI_wrI, if_neg (fun z => hc (Or.inl z.1))]) ⟨?_, fun i hi => ?_, ?_, ?_⟩, fun c i hc => by rw [rdI_wrI, if_neg (fun z => hc (by omega))], rfl⟩
    · rw [rdI_wrI, if_pos ⟨rfl, rfl⟩]
    · have hi' : i < j := hi
      rw [rdI_wrI, if_neg (by omega)]; exact t2 i (by omega)
    · rw [rdI_wrI, if_neg (fun z => absurd z.2 (by decide))]; exact t3
    · rw [rdI_wrI, if_neg (fun z => absurd z.2 (by decide))]; exact t4
