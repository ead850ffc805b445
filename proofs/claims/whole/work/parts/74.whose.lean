/-! whose texts say all that was said -/
def stB (Z : Zs) (j i : Nat) : Bool := decide (0 < wrV (txL (zTx Z j)) 0 (zA Z) (zD Z i).1 (zD Z i).2.1 0) == decide ((zD Z i).2.2 = 1)
def whA (Z : Zs) (j : Nat) : Bool := (ffind (fun i => !stB Z j i) 0 (zK Z)).isNone
def whN (Z : Zs) : Nat → Nat
  | 0 => 0
  | j + 1 => if whA Z j = true then whN Z j ||| 2 ^ j else whN Z j
theorem whN_s (Z : Zs) (j : Nat) : whN Z (j + 1) = if whA Z j = true then whN Z j ||| 2 ^ j else whN Z j := rfl
theorem ff_t {c : Nat → Bool} {i n : Nat} (h : c i = true) : ffind c i (n + 1) = some i := by
  show (if c i = true then some i else ffind c (i + 1) n) = _
  rw [if_pos h]
theorem ff_f {c : Nat → Bool} {i n : Nat} (h : c i = false) : ffind c i (n + 1) = ffind c (i + 1) n := by
  show (if c i = true then some i else ffind c (i + 1) n) = _
  rw [if_neg (by rw [h]; decide)]
theorem un3 {a b c : Nat} (ha : a < 17) (hb : b < 17) (hc : c < 2) : shrI (nI (a * 256 + b * 2 + c)) 8 = nI a ∧ shrI (nI (a * 256 + b * 2 + c)) 1 &&& 127 = nI b ∧ nI (a * 256 + b * 2 + c) &&& 1 = nI c := (by decide +kernel : ∀ (a : Fin 17) (b : Fin 17) (c : Fin 2), shrI (nI (a.1 * 256 + b.1 * 2 + c.1)) 8 = nI a.1 ∧ shrI (nI (a.1 * 256 + b.1 * 2 + c.1)) 1 &&& 127 = nI b.1 ∧ nI (a.1 * 256 + b.1 * 2 + c.1) &&& 1 = nI c.1) ⟨a, ha⟩ ⟨b, hb⟩ ⟨c, hc⟩
theorem wh_all_c {x j : Nat} {Z : Zs} (I : ZI Z) (hj : j < zT Z) (d : Nat) : ∀ n i S u3 u4, i + n = zK Z → ClR S x Z → OkC x S (ev (d + 8) 151 2 [vR 7 x, vR 5 (x + 16 + 468 + 10 * j), vI (nI i), u3, u4] [] S) (b2i (ffind (fun i => !stB Z j i) i n).isNone) Z := by
  have hk8 : zK Z ≤ 8 := I.1.2.2.2.2.2.1
  have ht : zT Z ≤ 4 := I.1.2.2.2.1
  intro n
  induction n with
  | zero =>
    intro i S u3 u4 hi h
    have e3 : rdI S (x + 27) 3 = nI (zK Z) := h.1.2.2.2.2.1
    rw [B_X7_saysAll_2, e3, if_pos ((nI_leI (by omega) (by omega)).mpr (by omega)), gd_p isZ_1]
    exact OkC_0 h
  | succ n ih =>
    intro i S u3 u4 hi h
    have e3 : rdI S (x + 27) 3 = nI (zK Z) := h.1.2.2.2.2.1
    have hik : i < zK Z := by omega
    have pk : rdI S (x + 27 + 220) i = nI ((zD Z i).1 * 256 + (zD Z i).2.1 * 2 + (zD Z i).2.2) := h.1.2.2.2.2.2 i hik
    obtain ⟨b1, b2, b3⟩ : (zD Z i).1 ≤ 16 ∧ (zD Z i).2.1 ≤ 16 ∧ (zD Z i).2.2 ≤ 1 := I.1.2.2.2.2.2.2 i hik
    obtain ⟨q1, q2, q3⟩ := un3 (a := (zD Z i).1) (b := (zD Z i).2.1) (c := (zD Z i).2.2) (by omega) (by omega) (by omega)
    have hτ : TxP x (x + 16 + 468 + 10 * j) := Or.inr ⟨j, by omega, rfl⟩
    obtain ⟨S', w, e, hw, f'⟩ := worth_c (L := txL (zTx Z j)) (cA h) (zAI I) (l := 0) (by decide) (h.2.2.1 j hj).2.2.1 (tx_d hτ) b1 b2 (d + 4)
    obtain ⟨h1, fx⟩ := ClR_T h hτ f'
    have e' : cal (d + 7) 93 [vR 5 (x + 16 + 468 + 10 * j), vI 0, vR 1 (x + 27 + 1), vI (nI (zD Z i).1), vI (nI (zD Z i).2.1)] S = some (some (vI w), S') := e
    rw [if_neg (show ¬ 0 = 1 by decide)] at hw
    have h0 : (0 : Int32).toInt = 0 := rfl
    have cont : stB Z j i = true → OkC x S (ev (d + 8) 151 2 [vR 7 x, vR 5 (x + 16 + 468 + 10 * j), vI (nI (i + 1)), vU, vU] [] S') (b2i (ffind (fun i => !stB Z j i) i (n + 1)).isNone) Z := fun y => by
      obtain ⟨S2, e2, h2, f2⟩ := ih (i + 1) S' vU vU (by omega) h1
      rw [ff_f (show (fun i => !stB Z j i) i = false by show (!stB Z j i) = false; rw [y]; rfl)]
      exact ⟨S2, e2, h2, FrX_t fx f2⟩
    have stop : stB Z j i = false → OkC x S (some (some (vI 0), S')) (b2i (ffind (fun i => !stB Z j i) i (n + 1)).isNone) Z := fun y => by
      rw [ff_t (show (fun i => !stB Z j i) i = true by show (!stB Z j i) = true; rw [y]; rfl)]
      exact ⟨S', rfl, h1, fx⟩
    rw [B_X7_saysAll_2, e3, if_neg (show ¬ nI (zK Z) ≤ nI i from fun z => by have := (nI_leI (by omega) (by omega)).mp z; omega), if_neg (show ¬ (8 : Int32) ≤ nI i from nI_ge (b := 8) (by omega) (by decide)), inb_t (by omega) (by decide), gd_t, ix_nI (by omega), pk, q1, q2, q3, e', bI_s, nI_1, gd_p isZ_0]
    by_cases y : w ≤ 0
    · have y' : ¬ 0 < w.toInt := by
        have := Int32.le_iff_toInt_le.mp y
        rw [h0] at this; omega
      rw [hw] at y'
      have ed := decide_eq_false y'
      rw [if_pos y]
      rcases (show (zD Z i).2.2 = 0 ∨ (zD Z i).2.2 = 1 by omega) with v | v
      · rw [v, if_neg (show ¬ nI 0 = 1 by decide), if_pos (show (0 : Nat) = 0 from rfl)]
        exact cont (by unfold stB; rw [ed, v]; decide)
      · rw [v, if_pos (show nI 1 = 1 from rfl), if_neg (show ¬ (0 : Nat) = 1 by decide)]
        exact stop (by unfold stB; rw [ed, v]; decide)
    · have y' : 0 < w.toInt := by
        rcases Int.lt_trichotomy w.toInt 0 with v | v | v
        · exact absurd (Int32.le_iff_toInt_le.mpr (by rw [h0]; omega)) y
        · exact absurd (Int32.le_iff_toInt_le.mpr (by rw [h0]; omega)) y
        · exact v
      rw [hw] at y'
      have ed := decide_eq_true y'
      rw [if_neg y]
      rcases (show (zD Z i).2.2 = 0 ∨ (zD Z i).2.2 = 1 by omega) with v | v
      · rw [v, if_neg (show ¬ nI 0 = 1 by decide), if_neg (show ¬ (1 : Nat) = 0 by decide)]
        exact stop (by unfold stB; rw [ed, v]; decide)
      · rw [v, if_pos (show nI 1 = 1 from rfl), if_pos (show (1 : Nat) = 1 from rfl)]
        exact cont (by unfold stB; rw [ed, v]; decide)
theorem wh_c {S : Mem} {x : Nat} {Z : Zs} (h : ClR S x Z) (I : ZI Z) (d : Nat) : OkC x S (cal (d + 9) 143 [vR 7 x] S) (nI (whN Z (zT Z))) Z := by
  have ht : zT Z ≤ 4 := I.1.2.2.2.1
  have lp_ : ∀ n j S, j + n = zT Z → ClR S x Z → OkC x S (ev (d + 9) 143 4 [vR 7 x, vI (nI (whN Z j)), vI (nI j)] [] S) (nI (whN Z (zT Z))) Z := by
    intro n
    induction n with
    | zero =>
      intro j S hj h
      have e4 : rdI S (x + 27) 4 = nI (zT Z) := h.1.2.2.1
      have : j = zT Z := by omega
      subst this
      rw [B_X7_whose_4, e4, if_pos (Int32.le_refl _)]
      exact OkC_0 h
    | succ n ih =>
      intro j S hj h
      have e4 : rdI S (x + 27) 4 = nI (zT Z) := h.1.2.2.1
      obtain ⟨S1, e1, h1, f1⟩ := wh_all_c (x := x) (j := j) I (by omega) d (zK Z) 0 S vU vU (by omega) h
      obtain ⟨S2, e2, h2, f2⟩ := ih (j + 1) S1 (by omega) h1
      have e1' : ev (d + 8) 151 2 [vR 7 x, vR 5 (x + 16 + 468 + 10 * j), vI 0, vU, vU] [] S = some (some (vI (b2i (whA Z j))), S1) := e1
      rw [B_X7_whose_4, e4, if_neg (show ¬ nI (zT Z) ≤ nI j from fun z => by have := (nI_leI (by omega) (by omega)).mp z; omega), if_neg (show ¬ (4 : Int32) ≤ nI j from nI_ge (b := 4) (by omega) (by decide)), inb_t (by omega) (by decide), gd_t, ix_nI (by omega), B_X7_saysAll, e1', bI_s, ite_b0, shl1 (by omega), nI_or, nI_1]
      rw [whN_s] at e2
      cases y : whA Z j
      · rw [y, if_neg Bool.false_ne_true] at e2
        rw [if_pos rfl]
        exact ⟨S2, e2, h2, FrX_t f1 f2⟩
      · rw [y, if_pos rfl] at e2
        rw [if_neg (by decide)]
        exact ⟨S2, e2, h2, FrX_t f1 f2⟩
  rw [B_X7_whose]
  exact lp_ (zT Z) 0 S (by omega) h
theorem wh_0_m {r : Nat} {Z : Zs} (I : ZI Z) (d : Nat) (a1 a2 : Int32) {S : Mem} (h : MoR S r Z) : ∀ n i, i + n = zK Z → ev (d + 9) 314 21 [vR 8 r, vI a1, vI a2, vI 0, vI (nI (444 + 3 * i))] [] S = ev (d + 9) 314 4 [vR 8 r, vI (a1 ||| 0), vI (a2 + 1), vU, vU] [] S := by
  have hk8 : zK Z ≤ 8 := I.1.2.2.2.2.2.1
  have i3 : inb 3 13669 = true := i13 (k := 3) (by decide)
  have x3 : ix 3 = 3 := ix_nI (p := 3) (by decide)
  have e3 : rdI S (r + 1) 3 = nI (zK Z) := h.1.2.2.2.2.1
  have ea : (444 : Int32) + 3 * nI (zK Z) = nI (444 + 3 * zK Z) := by
    show nI 444 + nI 3 * nI (zK Z) = _
    rw [pk_mul, nI_add]
  intro n
  induction n with
  | zero =>
    intro i hi
    rw [B_X8_whose_21, i3, gd_t, x3, e3, ea, if_pos ((nI_leI (by omega) (by omega)).mpr (by omega)), if_pos rfl]
  | succ n ih =>
    intro i hi
    rw [B_X8_whose_21, i3, gd_t, x3, e3, ea, if_neg (show ¬ nI (444 + 3 * zK Z) ≤ nI (444 + 3 * i) from fun z => by have := (nI_leI (by omega) (by omega)).mp z; omega), if_pos rfl, show nI (444 + 3 * i) + 3 = nI (444 + 3 * (i + 1)) from nI_add (444 + 3 * i) 3]
    exact ih (i + 1) (by omega)
theorem wh_1_m {r j : Nat} {Z : Zs} (I : ZI Z) (hj : j < zT Z) (d : Nat) (a1 : Int32) : ∀ n i S, i + n = zK Z → MoR S r Z → ∃ S', ev (d + 9) 314 21 [vR 8 r, vI a1, vI (nI j), vI 1, vI (nI (444 + 3 * i))] [] S = ev (d + 9) 314 4 [vR 8 r, vI (a1 ||| (if (ffind (fun i => !stB Z j i) i n).isNone = true then nI (2 ^ j) else 0)), vI (nI (j + 1)), vU, vU] [] S' ∧ MoR S' r Z ∧ FrY r S S' := by
  have hk8 : zK Z ≤ 8 := I.1.2.2.2.2.2.1
  have ht : zT Z ≤ 4 := I.1.2.2.2.1
  have i3 : inb 3 13669 = true := i13 (k := 3) (by decide)
  have x3 : ix 3 = 3 := ix_nI (p := 3) (by decide)
  have ea : (444 : Int32) + 3 * nI (zK Z) = nI (444 + 3 * zK Z) := by
    show nI 444 + nI 3 * nI (zK Z) = _
    rw [pk_mul, nI_add]
  intro n
  induction n with
  | zero =>
    intro i S hi h
    have e3 : rdI S (r + 1) 3 = nI (zK Z) := h.1.2.2.2.2.1
    rw [B_X8_whose_21, i3, gd_t, x3, e3, ea, if_pos ((nI_leI (by omega) (by omega)).mpr (by omega)), if_neg (by decide), shl1 (by omega), nI_1]
    exact ⟨S, rfl, h, FrY_r⟩
  | succ n ih =>
    intro i S hi h
    have e3 : rdI S (r + 1) 3 = nI (zK Z) := h.1.2.2.2.2.1
    have hik : i < zK Z := by omega
    obtain ⟨p1, p2, -⟩ := h.1.2.2.2.2.2 i hik
    have p1' : rdI S (r + 1) (444 + 3 * i) = nI (zD Z i).1 := p1
    have p2' : rdI S (r + 1) (444 + 3 * i + 1) = nI (zD Z i).2.1 := p2
    obtain ⟨b1, b2, b3⟩ : (zD Z i).1 ≤ 16 ∧ (zD Z i).2.1 ≤ 16 ∧ (zD Z i).2.2 ≤ 1 := I.1.2.2.2.2.2.2 i hik
    obtain ⟨S', e, f'⟩ := let_m (L := txL (zTx Z j)) (x := nI j) (mA h) (zAI I) (Or.inr ⟨j, rfl, (h.2.2.1 j hj).2.2.1⟩) b1 b2 (d + 5)
    obtain ⟨h1, fy⟩ := MoR_L h I f'
    have p3 : rdI S' (r + 1) (444 + 3 * i + 2) = nI (zD Z i).2.2 := (h1.1.2.2.2.2.2 i hik).2.2
    have e' : cal (d + 8) 225 [vR 8 r, vI (nI j), vI (nI (zD Z i).1), vI (nI (zD Z i).2.1)] S = _ := e
    have cont : stB Z j i = true → ∃ S2, ev (d + 9) 314 21 [vR 8 r, vI a1, vI (nI j), vI 1, vI (nI (444 + 3 * (i + 1)))] [] S' = ev (d + 9) 314 4 [vR 8 r, vI (a1 ||| (if (ffind (fun i => !stB Z j i) i (n + 1)).isNone = true then nI (2 ^ j) else 0)), vI (nI (j + 1)), vU, vU] [] S2 ∧ MoR S2 r Z ∧ FrY r S S2 := fun y => by
      obtain ⟨S2, e2, h2, f2⟩ := ih (i + 1) S' (by omega) h1
      rw [ff_f (show (fun i => !stB Z j i) i = false by show (!stB Z j i) = false; rw [y]; rfl)]
      exact ⟨S2, e2, h2, FrY_t fy f2⟩
    have stop : stB Z j i = false → ∃ S2, ev (d + 9) 314 21 [vR 8 r, vI a1, vI (nI j), vI 0, vI (nI (444 + 3 * (i + 1)))] [] S' = ev (d + 9) 314 4 [vR 8 r, vI (a1 ||| (if (ffind (fun i => !stB Z j i) i (n + 1)).isNone = true then nI (2 ^ j) else 0)), vI (nI (j + 1)), vU, vU] [] S2 ∧ MoR S2 r Z ∧ FrY r S S2 := fun y => by
      rw [ff_t (show (fun i => !stB Z j i) i = true by show (!stB Z j i) = true; rw [y]; rfl), wh_0_m I d a1 (nI j) h1 n (i + 1) (by omega), nI_1]
      exact ⟨S', rfl, h1, fy⟩
    rw [B_X8_whose_21, i3, gd_t, x3, e3, ea, if_neg (show ¬ nI (444 + 3 * zK Z) ≤ nI (444 + 3 * i) from fun z => by have := (nI_leI (by omega) (by omega)).mp z; omega), if_neg (show ¬ (1 : Int32) = 0 by decide), show nI (444 + 3 * i) + 3 = nI (444 + 3 * (i + 1)) from nI_add (444 + 3 * i) 3, show nI (444 + 3 * i) + 2 = nI (444 + 3 * i + 2) from nI_add (444 + 3 * i) 2, nI_1, i13 (by omega), gd_t, i13 (by omega), gd_t, ix_nI (by omega), ix_nI (by omega), p1', p2', e', bI_s, i13 (by omega), gd_t, ix_nI (by omega), p3]
    have sb : stB Z j i = (decide (0 < wrV (txL (zTx Z j)) 0 (zA Z) (zD Z i).1 (zD Z i).2.1 0) == decide ((zD Z i).2.2 = 1)) := rfl
    rcases (show (zD Z i).2.2 = 0 ∨ (zD Z i).2.2 = 1 by omega) with v | v
    · rw [v, if_neg (show ¬ nI 0 = 1 by decide)]
      cases y : decide (0 < wrV (txL (zTx Z j)) 0 (zA Z) (zD Z i).1 (zD Z i).2.1 0)
      · rw [if_pos (show b2i false = 0 from rfl)]
        exact cont (by rw [sb, y, v]; decide)
      · rw [if_neg (show ¬ b2i true = 0 by decide)]
        exact stop (by rw [sb, y, v]; decide)
    · rw [v, if_pos (show nI 1 = 1 from rfl)]
      cases y : decide (0 < wrV (txL (zTx Z j)) 0 (zA Z) (zD Z i).1 (zD Z i).2.1 0)
      · rw [if_neg (show ¬ b2i false = 1 by decide)]
        exact stop (by rw [sb, y, v]; decide)
      · rw [if_pos (show b2i true = 1 from rfl)]
        exact cont (by rw [sb, y, v]; decide)
theorem wh_m {S : Mem} {r : Nat} {Z : Zs} (h : MoR S r Z) (I : ZI Z) (d : Nat) : OkM r S (cal (d + 9) 314 [vR 8 r] S) (nI (whN Z (zT Z))) Z := by
  have ht : zT Z ≤ 4 := I.1.2.2.2.1
  have i0 : inb 0 13669 = true := i13 (k := 0) (by decide)
  have x0 : ix 0 = 0 := ix_nI (p := 0) (by decide)
  have lp_ : ∀ n j S, j + n = zT Z → MoR S r Z → OkM r S (ev (d + 9) 314 4 [vR 8 r, vI (nI (whN Z j)), vI (nI j), vU, vU] [] S) (nI (whN Z (zT Z))) Z := by
    intro n
    induction n with
    | zero =>
      intro j S hj h
      have e0 : rdI S (r + 1) 0 = nI (zT Z) := h.1.2.2.1
      have : j = zT Z := by omega
      subst this
      rw [B_X8_whose_4, i0, gd_t, x0, e0, if_pos (Int32.le_refl _)]
      exact OkM_0 h
    | succ n ih =>
      intro j S hj h
      have e0 : rdI S (r + 1) 0 = nI (zT Z) := h.1.2.2.1
      obtain ⟨S1, e1, h1, f1⟩ := wh_1_m (r := r) (j := j) I (by omega) d (nI (whN Z j)) (zK Z) 0 S (by omega) h
      obtain ⟨S2, e2, h2, f2⟩ := ih (j + 1) S1 (by omega) h1
      have e1' : ev (d + 9) 314 21 [vR 8 r, vI (nI (whN Z j)), vI (nI j), vI 1, vI 444] [] S = ev (d + 9) 314 4 [vR 8 r, vI (nI (whN Z j) ||| (if whA Z j = true then nI (2 ^ j) else 0)), vI (nI (j + 1)), vU, vU] [] S1 := e1
      rw [B_X8_whose_4, i0, gd_t, x0, e0, if_neg (show ¬ nI (zT Z) ≤ nI j from fun z => by have := (nI_leI (by omega) (by omega)).mp z; omega), e1']
      rw [whN_s] at e2
      cases y : whA Z j
      · rw [y, if_neg Bool.false_ne_true] at e2
        rw [if_neg Bool.false_ne_true, show nI (whN Z j) ||| 0 = nI (whN Z j) from (nI_or (whN Z j) 0).trans (by rw [Nat.or_zero])]
        exact ⟨S2, e2, h2, FrY_t f1 f2⟩
      · rw [y, if_pos rfl] at e2
        rw [if_pos rfl, nI_or]
        exact ⟨S2, e2, h2, FrY_t f1 f2⟩
  rw [B_X8_whose]
  exact lp_ (zT Z) 0 S (by omega) h
