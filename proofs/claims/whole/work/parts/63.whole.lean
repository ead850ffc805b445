/-! the whole state: a text, what an image holds, the tape; class and reference -/
abbrev Tx : Type := Nat × ((Nat → Nat) × ((Nat → Nat) × ((Nat → Nat) × (Nat → Option (Env → Int)))))
abbrev WSt : Type := AS × ((Nat × (Nat → AS)) × ((Nat × Int32) × (Nat × (Nat → Nat × (Nat × Nat)))))
abbrev Tp : Type := Nat × ((Nat → Int32) × (Int32 × Int32))
abbrev Zs : Type := WSt × (WSt × ((Nat → Tx) × Tp))
def txL (X : Tx) : Nat → Option (Env → Int) := X.2.2.2.2
def zA (Z : Zs) : AS := Z.1.1
def zN (Z : Zs) : Nat := Z.1.2.1.1
def zSt (Z : Zs) : Nat → AS := Z.1.2.1.2
def zT (Z : Zs) : Nat := Z.1.2.2.1.1
def zX (Z : Zs) : Int32 := Z.1.2.2.1.2
def zK (Z : Zs) : Nat := Z.1.2.2.2.1
def zD (Z : Zs) : Nat → Nat × (Nat × Nat) := Z.1.2.2.2.2
def zTx (Z : Zs) : Nat → Tx := Z.2.2.1
def TxC (S : Mem) (τ : Nat) (X : Tx) : Prop := rdI S τ 0 = nI X.1 ∧ (∀ k, k < X.1 → rdI S (τ + 1) k = nI (X.2.1 k) ∧ rdI S (τ + 2) k = nI (X.2.2.1 k) ∧ rdI S (τ + 3) k = nI (X.2.2.2.1 k)) ∧ LC S τ 0 (txL X 0) ∧ LC S τ 1 (txL X 1)
def TxM (S : Mem) (r T : Nat) (X : Tx) : Prop := rdI S (r + 3) (681 * T) = nI X.1 ∧ (∀ k, k < X.1 → ClM S r T k = nI (X.2.1 k) ∧ ((X.2.1 k = 2 ∨ X.2.1 k = 3 ∨ X.2.1 k = 4 ∨ X.2.1 k = 5 ∨ X.2.1 k = 7) → rdI S (r + 3) (681 * T + 1 + 3 * k + 1) = nI (X.2.2.1 k)) ∧ ((X.2.1 k = 4 ∨ X.2.1 k = 5) → rdI S (r + 3) (681 * T + 1 + 3 * k + 2) = nI (X.2.2.2.1 k))) ∧ LM S r T 0 (txL X 0) ∧ LM S r T 1 (txL X 1)
def TxI (X : Tx) : Prop := X.1 ≤ 24 ∧ ∀ k, k < X.1 → X.2.1 k ≤ 7 ∧ (X.2.1 k = 2 → X.2.2.1 k < 1000) ∧ (X.2.1 k = 3 → X.2.2.1 k < 192) ∧ (X.2.1 k = 4 → X.2.2.1 k < 1000 ∧ X.2.2.2.1 k < 192) ∧ (X.2.1 k = 5 → X.2.2.1 k < 12 ∧ X.2.2.2.1 k < 12) ∧ (X.2.1 k = 7 → 1 ≤ X.2.2.1 k ∧ X.2.2.1 k ≤ 60)
def WC (S : Mem) (w : Nat) (W : WSt) : Prop := CP S (w + 1) W.1 ∧ StC S (w + 8) W.2.1.1 W.2.1.2 ∧ rdI S w 4 = nI W.2.2.1.1 ∧ rdI S w 5 = W.2.2.1.2 ∧ rdI S w 3 = nI W.2.2.2.1 ∧ ∀ i, i < W.2.2.2.1 → rdI S (w + 220) i = nI ((W.2.2.2.2 i).1 * 256 + (W.2.2.2.2 i).2.1 * 2 + (W.2.2.2.2 i).2.2)
def WM (S : Mem) (c : Nat) (W : WSt) : Prop := RP S c 4 W.1 ∧ StM S c W.2.1.1 W.2.1.2 ∧ rdI S c 0 = nI W.2.2.1.1 ∧ rdI S c 1 = W.2.2.1.2 ∧ rdI S c 3 = nI W.2.2.2.1 ∧ ∀ i, i < W.2.2.2.1 → rdI S c (444 + 3 * i) = nI (W.2.2.2.2 i).1 ∧ rdI S c (444 + 3 * i + 1) = nI (W.2.2.2.2 i).2.1 ∧ rdI S c (444 + 3 * i + 2) = nI (W.2.2.2.2 i).2.2
def WI (W : WSt) : Prop := Inv W.1 ∧ (∀ i, i < W.2.1.1 → Inv (W.2.1.2 i)) ∧ W.2.1.1 ≤ 30 ∧ W.2.2.1.1 ≤ 4 ∧ (W.2.2.1.2 = -1 ∨ ∃ y, y < W.2.2.1.1 ∧ W.2.2.1.2 = nI y) ∧ W.2.2.2.1 ≤ 8 ∧ ∀ i, i < W.2.2.2.1 → (W.2.2.2.2 i).1 ≤ 16 ∧ (W.2.2.2.2 i).2.1 ≤ 16 ∧ (W.2.2.2.2 i).2.2 ≤ 1
def TpI (p : Tp) : Prop := p.1 ≤ 300 ∧ ∀ i, i < p.1 → ∃ k : Nat, k < 256 ∧ p.2.1 i = nI k
def TpC (S : Mem) (x : Nat) (p : Tp) : Prop := rdI S (x + 1) 1 = nI p.1 ∧ (∀ i, i < p.1 → rdI S (x + 1 + 1) i = p.2.1 i) ∧ rdI S (x + 1) 2 = p.2.2.1 ∧ rdI S (x + 1) 3 = p.2.2.2
def TpM (S : Mem) (r : Nat) (p : Tp) : Prop := rdI S r 4 = nI p.1 ∧ (∀ i, i < p.1 → rdI S (r + 4) i = p.2.1 i) ∧ rdI S r 5 = p.2.2.1 ∧ rdI S r 6 = p.2.2.2
def ClR (S : Mem) (x : Nat) (Z : Zs) : Prop := WC S (x + 27) Z.1 ∧ WC S (x + 248) Z.2.1 ∧ (∀ j, j < zT Z → TxC S (x + 16 + 468 + 10 * j) (zTx Z j)) ∧ (LC S (x + 17) 0 none ∧ LC S (x + 17) 1 none) ∧ TpC S x Z.2.2.2
def MoR (S : Mem) (r : Nat) (Z : Zs) : Prop := WM S (r + 1) Z.1 ∧ WM S (r + 2) Z.2.1 ∧ (∀ j, j < zT Z → TxM S r j (zTx Z j)) ∧ TpM S r Z.2.2.2
def ZI (Z : Zs) : Prop := WI Z.1 ∧ WI Z.2.1 ∧ Z.2.1.2.2.1.1 ≤ zT Z ∧ (∀ j, j < zT Z → TxI (zTx Z j)) ∧ TpI Z.2.2.2
/-! what rules -/
def zL (Z : Zs) (l : Nat) : Option (Env → Int) := if zX Z = -1 then none else txL (zTx Z (ix (zX Z))) l
theorem zAI {Z : Zs} (I : ZI Z) : Inv (zA Z) := I.1.1
theorem zx_cs {Z : Zs} (I : ZI Z) : (zX Z = -1 ∧ ∀ l, zL Z l = none) ∨ ∃ y, y < zT Z ∧ y < 4 ∧ zX Z = nI y ∧ ∀ l, zL Z l = txL (zTx Z y) l := by
  rcases I.1.2.2.2.2.1 with h | ⟨y, hy, e⟩
  · exact Or.inl ⟨h, fun l => if_pos h⟩
  · have h4 := I.1.2.2.2.1
    have hy' : y < zT Z := hy
    have ht : zT Z ≤ 4 := h4
    have e' : zX Z = nI y := e
    refine Or.inr ⟨y, hy', by omega, e', fun l => ?_⟩
    unfold zL
    rw [e', if_neg (nI_m1 (by omega)), ix_nI (by omega)]
def TxP (x τ : Nat) : Prop := τ = x + 17 ∨ ∃ j, j < 4 ∧ τ = x + 16 + 468 + 10 * j
theorem isText_c {S : Mem} {x : Nat} {Z : Zs} (h : ClR S x Z) (I : ZI Z) (d : Nat) (a : Int32) : cal d 148 [vR 7 x, vI a] S = some (some (vI (b2i (inb a (zT Z)))), S) := by
  have e4 : rdI S (x + 27) 4 = nI (zT Z) := h.1.2.2.1
  have ht : zT Z ≤ 4 := I.1.2.2.2.1
  rw [B_X7_isText, e4]
  by_cases h0 : a < 0
  · rw [if_pos h0, gd_p isZ_0]
    have : inb a (zT Z) = false := by
      cases hb : inb a (zT Z)
      · rfl
      · obtain ⟨p, hp, rfl⟩ := inb_ex hb (by omega)
        exact absurd h0 (nI_pos (by omega))
    rw [this]; rfl
  · obtain ⟨j, hj, rfl⟩ := nI_of h0
    rw [if_neg h0, inb_nI hj]
    by_cases h1 : zT Z ≤ j
    · rw [if_pos ((nI_leI (by omega) hj).mpr h1), gd_p isZ_0, decide_eq_false (by omega)]; rfl
    · rw [if_neg (fun z => h1 ((nI_leI (by omega) hj).mp z)), if_neg (show ¬ (4 : Int32) ≤ nI j from nI_ge (b := 4) (by omega) (by decide)), gd_p isZ_1, decide_eq_true (by omega)]; rfl
theorem ruling_c {S : Mem} {x : Nat} {Z : Zs} (h : ClR S x Z) (I : ZI Z) (d : Nat) : ∃ τ, cal (d + 1) 149 [vR 7 x] S = some (some (vR 5 τ), S) ∧ TxP x τ ∧ LC S τ 0 (zL Z 0) ∧ LC S τ 1 (zL Z 1) := by
  have e5 : rdI S (x + 27) 5 = zX Z := h.1.2.2.2.1
  rw [B_X7_ruling, e5, isText_c h I, bI_s, ite_b0]
  rcases zx_cs I with ⟨ex, el⟩ | ⟨y, hy, hy4, ex, el⟩
  · have hb : inb (zX Z) (zT Z) = false := by
      rw [ex]
      cases hb : inb (-1) (zT Z)
      · rfl
      · have ht : zT Z ≤ 4 := I.1.2.2.2.1
        obtain ⟨p, hp, e⟩ := inb_ex hb (by omega)
        exact absurd e.symm (nI_m1 (by omega))
    rw [hb, if_pos rfl, el 0, el 1]
    exact ⟨x + 17, rfl, Or.inl rfl, h.2.2.2.1.1, h.2.2.2.1.2⟩
  · have hT := h.2.2.1 y hy
    rw [ex, inb_t hy (by have : zT Z ≤ 4 := I.1.2.2.2.1; omega), if_neg (by decide), e5, ex, inb_t hy4 (by decide), gd_t, ix_nI (by omega), el 0, el 1]
    exact ⟨_, rfl, Or.inr ⟨y, hy4, rfl⟩, hT.2.2.1, hT.2.2.2⟩
theorem ruling_m {S : Mem} {r : Nat} {Z : Zs} (h : MoR S r Z) (I : ZI Z) (l : Nat) (hl : l < 2) : RM S r (rdI S (r + 1) 1) l (zL Z l) := by
  have e1 : rdI S (r + 1) 1 = zX Z := h.1.2.2.2.1
  rw [e1]
  rcases zx_cs I with ⟨ex, el⟩ | ⟨y, hy, hy4, ex, el⟩
  · exact Or.inl ⟨ex, el l⟩
  · refine Or.inr ⟨y, ex, ?_⟩
    have hT := h.2.2.1 y hy
    rw [el l]
    rcases (show l = 0 ∨ l = 1 by omega) with rfl | rfl
    · exact hT.2.2.1
    · exact hT.2.2.2
/-! frames of the whole -/
def Sc (x c : Nat) : Prop := (x + 28 ≤ c ∧ c < x + 247) ∨ c = x + 25 ∨ c = x + 26 ∨ (∃ j, j < 4 ∧ (c = x + 16 + 468 + 10 * j + 8 ∨ c = x + 16 + 468 + 10 * j + 9)) ∨ (x + 469 ≤ c ∧ c < x + 484)
def FrX (x : Nat) (S S' : Mem) : Prop := (∀ c, ¬ Sc x c → rdI S' c = rdI S c) ∧ S'.2 = S.2
theorem FrX_r {x : Nat} {S : Mem} : FrX x S S := ⟨fun _ _ => rfl, rfl⟩
theorem FrX_t {x : Nat} {S S1 S2 : Mem} (h : FrX x S S1) (h2 : FrX x S1 S2) : FrX x S S2 := ⟨fun c hc => (h2.1 c hc).trans (h.1 c hc), h2.2.trans h.2⟩
theorem FrX_K {x t τ : Nat} {S S' : Mem} (h : FrK t τ S S') (ht : t = x + 28 ∨ t = x + 469) (hτ : TxP x τ) : FrX x S S' := by
  refine ⟨fun c hc => h.1 c (fun z => hc ?_) (fun z => hc ?_) (fun z => hc ?_), h.2⟩
  · rcases ht with rfl | rfl
    · exact Or.inl ⟨by omega, by omega⟩
    · exact Or.inr (Or.inr (Or.inr (Or.inr ⟨by omega, by omega⟩)))
  · rcases hτ with rfl | ⟨j, hj, rfl⟩
    · exact Or.inr (Or.inl (by omega))
    · exact Or.inr (Or.inr (Or.inr (Or.inl ⟨j, hj, Or.inl z⟩)))
  · rcases hτ with rfl | ⟨j, hj, rfl⟩
    · exact Or.inr (Or.inr (Or.inl (by omega)))
    · exact Or.inr (Or.inr (Or.inr (Or.inl ⟨j, hj, Or.inr z⟩)))
theorem FrX_S {x : Nat} {S S' : Mem} (h : ∀ c, ¬ (x + 35 ≤ c ∧ c < x + 35 + 212) → rdI S' c = rdI S c) (h2 : S'.2 = S.2) : FrX x S S' := ⟨fun c hc => h c (fun z => hc (Or.inl ⟨by omega, by omega⟩)), h2⟩
theorem TxC_k {S S' : Mem} {τ : Nat} {X : Tx} (h : TxC S τ X) (e : ∀ c, τ ≤ c → c < τ + 8 → rdI S' c = rdI S c) : TxC S' τ X := by
  obtain ⟨h1, h2, h3, h4⟩ := h
  refine ⟨by rw [e τ (by omega) (by omega)]; exact h1, fun k hk => ?_, LC_k h3 (fun c c1 c2 => e c (by omega) (by omega)), LC_k h4 (fun c c1 c2 => e c (by omega) (by omega))⟩
  rw [e (τ + 1) (by omega) (by omega), e (τ + 2) (by omega) (by omega), e (τ + 3) (by omega) (by omega)]; exact h2 k hk
theorem StC_k {S S' : Mem} {σ n : Nat} {St : Nat → AS} (h : StC S σ n St) (e : ∀ c, σ ≤ c → c < σ + 212 → rdI S' c = rdI S c) : StC S' σ n St := by
  obtain ⟨f, hf, e1, e2, hn, hC⟩ := h
  refine ⟨f, hf, by rw [e σ (by omega) (by omega)]; exact e1, by rw [e σ (by omega) (by omega)]; exact e2, hn, fun i hi => ?_⟩
  have hm : (f + i) % 30 < 30 := Nat.mod_lt _ (by decide)
  exact CP_e (hC i hi) (fun c c1 c2 => e c (by omega) (by omega))
theorem WC_k {S S' : Mem} {w : Nat} {W : WSt} (h : WC S w W) (e : ∀ c, w ≤ c → c < w + 221 → rdI S' c = rdI S c) : WC S' w W := by
  obtain ⟨h1, h2, h3, h4, h5, h6⟩ := h
  refine ⟨CP_e h1 (fun c c1 c2 => e c (by omega) (by omega)), StC_k h2 (fun c c1 c2 => e c (by omega) (by omega)), by rw [e w (by omega) (by omega)]; exact h3, by rw [e w (by omega) (by omega)]; exact h4, by rw [e w (by omega) (by omega)]; exact h5, fun i hi => ?_⟩
  rw [e (w + 220) (by omega) (by omega)]; exact h6 i hi
def zUp (Z : Zs) (A : AS) (n : Nat) (St : Nat → AS) : Zs := ((A, ((n, St), Z.1.2.2)), Z.2)
theorem ClR_up {S S' : Mem} {x : Nat} {Z : Zs} (h : ClR S x Z) (f : FrX x S S') {A : AS} {n : Nat} {St : Nat → AS} (hA : CP S' (x + 28) A) (hS : StC S' (x + 35) n St) : ClR S' x (zUp Z A n St) := by
  obtain ⟨h1, h2, h3, h4, h5⟩ := h
  have e : ∀ c, ¬ ((x + 28 ≤ c ∧ c < x + 247) ∨ c = x + 25 ∨ c = x + 26) → c < x + 469 → rdI S' c = rdI S c := fun c hc hl => f.1 c (fun z => by
    rcases z with z | z | z | ⟨j, hj, z⟩ | z
    · exact hc (Or.inl z)
    · exact hc (Or.inr (Or.inl z))
    · exact hc (Or.inr (Or.inr z))
    · omega
    · omega)
  refine ⟨⟨hA, hS, ?_, ?_, ?_, fun i hi => ?_⟩, WC_k h2 (fun c c1 c2 => e c (by omega) (by omega)), fun j hj => TxC_k (h3 j hj) (fun c c1 c2 => f.1 c (fun z => ?_)), ⟨LC_k h4.1 (fun c c1 c2 => e c (by omega) (by omega)), LC_k h4.2 (fun c c1 c2 => e c (by omega) (by omega))⟩, ?_⟩
  · rw [e (x + 27) (by omega) (by omega)]; exact h1.2.2.1
  · rw [e (x + 27) (by omega) (by omega)]; exact h1.2.2.2.1
  · rw [e (x + 27) (by omega) (by omega)]; exact h1.2.2.2.2.1
  · rw [e (x + 27 + 220) (by omega) (by omega)]; exact h1.2.2.2.2.2 i hi
  · rcases z with z | z | z | ⟨j', hj', z⟩ | z <;> omega
  · obtain ⟨t1, t2, t3, t4⟩ := h5
    exact ⟨by rw [e (x + 1) (by omega) (by omega)]; exact t1, fun i hi => by rw [e (x + 1 + 1) (by omega) (by omega)]; exact t2 i hi, by rw [e (x + 1) (by omega) (by omega)]; exact t3, by rw [e (x + 1) (by omega) (by omega)]; exact t4⟩
theorem zUp_s (Z : Zs) : zUp Z (zA Z) (zN Z) (zSt Z) = Z := rfl
/-- the reference's frame -/
def Sd (r c i : Nat) : Prop := (c = r + 1 ∧ (i = 2 ∨ (4 ≤ i ∧ i < 444) ∨ 468 ≤ i)) ∨ (c = r ∧ i = 25) ∨ c = r + 6 ∨ c = r + 8 ∨ (r + 9 ≤ c ∧ c ≤ r + 16)
def FrY (r : Nat) (S S' : Mem) : Prop := (∀ c i, ¬ Sd r c i → rdI S' c i = rdI S c i) ∧ S'.2.2 = S.2.2
theorem FrY_r {r : Nat} {S : Mem} : FrY r S S := ⟨fun _ _ _ => rfl, rfl⟩
theorem FrY_t {r : Nat} {S S1 S2 : Mem} (h : FrY r S S1) (h2 : FrY r S1 S2) : FrY r S S2 := ⟨fun c i hc => (h2.1 c i hc).trans (h.1 c i hc), h2.2.trans h.2⟩
theorem FrY_D {r : Nat} {S S' : Mem} (h : FrD r S S') : FrY r S S' := by
  refine ⟨fun c i hc => h.1 c i (fun z => hc ?_) (fun z => hc ?_) (fun z => hc ?_) (fun z => hc ?_) (fun z => hc ?_) (fun z => hc ?_), h.2⟩
  · exact Or.inr (Or.inl z)
  · exact Or.inr (Or.inr (Or.inl z))
  · exact Or.inl ⟨z.1, Or.inr (Or.inl z.2)⟩
  · exact Or.inr (Or.inr (Or.inr (Or.inl z)))
  · exact Or.inr (Or.inr (Or.inr (Or.inr ⟨by omega, by omega⟩)))
  · exact Or.inr (Or.inr (Or.inr (Or.inr ⟨by omega, by omega⟩)))
theorem FrY_M {r : Nat} {S S' : Mem} (h : FrM r S S') : FrY r S S' := FrY_D (FrD_N (FrN_M h))
theorem FrY_S {r : Nat} {S S' : Mem} (h : ∀ c i, ¬ (c = r + 1 ∧ (i = 2 ∨ 468 ≤ i)) → rdI S' c i = rdI S c i) (h2 : S'.2 = S.2) : FrY r S S' := ⟨fun c i hc => h c i (fun z => hc (Or.inl ⟨z.1, z.2.elim Or.inl (fun y => Or.inr (Or.inr y))⟩)), congrArg Prod.snd h2⟩
theorem LM_k {S S' : Mem} {r T l : Nat} {o : Option (Env → Int)} (h : LM S r T l o) (e : rdI S' (r + 3) = rdI S (r + 3)) : LM S' r T l o := by
  obtain ⟨hT, n, hn, en, hc⟩ := h
  refine ⟨hT, n, hn, by rw [e]; exact en, ?_⟩
  unfold ClM AtR at hc ⊢
  rw [e]; exact hc
theorem TxM_k {S S' : Mem} {r T : Nat} {X : Tx} (h : TxM S r T X) (e : rdI S' (r + 3) = rdI S (r + 3)) : TxM S' r T X := by
  obtain ⟨h1, h2, h3, h4⟩ := h
  refine ⟨by rw [e]; exact h1, fun k hk => ?_, LM_k h3 e, LM_k h4 e⟩
  unfold ClM at h2 ⊢
  rw [e]; exact h2 k hk
theorem StM_k {S S' : Mem} {c n : Nat} {St : Nat → AS} (h : StM S c n St) (e : ∀ i, i = 2 ∨ 468 ≤ i → rdI S' c i = rdI S c i) : StM S' c n St := by
  obtain ⟨f, hf, e1, e2, hn, hC⟩ := h
  exact ⟨f, hf, by rw [e 468 (by omega)]; exact e1, by rw [e 2 (by omega)]; exact e2, hn, fun i hi => RP_fr (hC i hi) (fun j j1 j2 => e j (by omega))⟩
theorem WM_k {S S' : Mem} {c : Nat} {W : WSt} (h : WM S c W) (e : ∀ i, rdI S' c i = rdI S c i) : WM S' c W := by
  obtain ⟨h1, h2, h3, h4, h5, h6⟩ := h
  exact ⟨RP_fr h1 (fun i _ _ => e i), StM_k h2 (fun i _ => e i), by rw [e]; exact h3, by rw [e]; exact h4, by rw [e]; exact h5, fun i hi => by rw [e, e, e]; exact h6 i hi⟩
theorem MoR_up {S S' : Mem} {r : Nat} {Z : Zs} (h : MoR S r Z) (f : FrY r S S') {A : AS} {n : Nat} {St : Nat → AS} (hA : RP S' (r + 1) 4 A) (hS : StM S' (r + 1) n St) (hk8 : Z.1.2.2.2.1 ≤ 8) : MoR S' r (zUp Z A n St) := by
  obtain ⟨h1, h2, h3, h5⟩ := h
  have e : ∀ c i, ¬ Sd r c i → rdI S' c i = rdI S c i := f.1
  have ns : ∀ c i, ¬ c = r → ¬ c = r + 1 → c < r + 6 → ¬ Sd r c i := fun c i c1 c2 c3 z => by
    rcases z with z | z | z | z | z <;> omega
  have e3 : rdI S' (r + 3) = rdI S (r + 3) := funext fun i => e _ _ (ns _ _ (by omega) (by omega) (by omega))
  have n1 : ∀ i, ¬ (i = 2 ∨ (4 ≤ i ∧ i < 444) ∨ 468 ≤ i) → rdI S' (r + 1) i = rdI S (r + 1) i := fun i hi => e _ _ (fun z => by
    rcases z with z | z | z | z | z
    · exact hi z.2
    · omega
    · omega
    · omega
    · omega)
  refine ⟨⟨hA, hS, ?_, ?_, ?_, fun i hi => ?_⟩, WM_k h2 (fun i => e _ _ (ns _ _ (by omega) (by omega) (by omega))), fun j hj => TxM_k (h3 j hj) e3, ?_⟩
  · rw [n1 0 (by omega)]; exact h1.2.2.1
  · rw [n1 1 (by omega)]; exact h1.2.2.2.1
  · rw [n1 3 (by omega)]; exact h1.2.2.2.2.1
  · have hi8 : i < 8 := Nat.lt_of_lt_of_le hi hk8
    rw [n1 _ (by omega), n1 _ (by omega), n1 _ (by omega)]; exact h1.2.2.2.2.2 i hi
  · obtain ⟨t1, t2, t3, t4⟩ := h5
    have nr : ∀ i, ¬ i = 25 → rdI S' r i = rdI S r i := fun i hi => e _ _ (fun z => by
      rcases z with z | z | z | z | z
      · omega
      · exact hi z.2
      · omega
      · omega
      · omega)
    exact ⟨by rw [nr 4 (by omega)]; exact t1, fun i hi => by rw [e _ _ (ns (r + 4) i (by omega) (by omega) (by omega))]; exact t2 i hi, by rw [nr 5 (by omega)]; exact t3, by rw [nr 6 (by omega)]; exact t4⟩
theorem ZI_up {Z : Zs} (I : ZI Z) {A : AS} {n : Nat} {St : Nat → AS} (hA : Inv A) (hn : n ≤ 30) (hS : ∀ i, i < n → Inv (St i)) : ZI (zUp Z A n St) := ⟨⟨hA, hS, hn, I.1.2.2.2⟩, I.2⟩
theorem kp_le (n : Nat) (h : n ≤ 30) : kpN n ≤ 30 := by
  unfold kpN
  by_cases z : n < 30
  · rw [if_pos z]; omega
  · rw [if_neg z]; omega
theorem kp_Inv {n : Nat} (hn : n ≤ 30) {St : Nat → AS} {A : AS} (hA : Inv A) (hS : ∀ i, i < n → Inv (St i)) : ∀ i, i < kpN n → Inv (kpS n St A i) := fun i hi => by
  unfold kpS
  by_cases z : i = kpN n - 1
  · rw [if_pos z]; exact hA
  · rw [if_neg z]
    by_cases h30 : n < 30
    · have e : kpN n = n + 1 := if_pos h30
      rw [if_pos h30]; exact hS i (by omega)
    · have e : kpN n = 30 := if_neg h30
      rw [if_neg h30]; exact hS (i + 1) (by omega)
/-- a step kept, and the pages then -/
def zK' (Z : Zs) (A : AS) : Zs := zUp Z A (kpN (zN Z)) (kpS (zN Z) (zSt Z) (zA Z))
theorem zK_I {Z : Zs} (I : ZI Z) {A : AS} (hA : Inv A) : ZI (zK' Z A) := ZI_up I hA (kp_le _ I.1.2.2.1) (kp_Inv I.1.2.2.1 I.1.1 I.1.2.1)
