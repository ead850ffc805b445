/-! the reference reads a clause -/
def LcM (S : Mem) (r T l m w : Nat) (o : Option (Env → Int)) : Prop := match o with
  | none => ∀ k, k < m → ¬ ClM S r T k = nI l
  | some v => ∃ k i j : Nat, k < m ∧ ClM S r T k = nI l ∧ (∀ k', k' < k → ¬ ClM S r T k' = nI l) ∧ i < j ∧ j ≤ w ∧ rdI S (r + 3) (681 * T + 1 + 3 * k + 1) = nI i ∧ rdI S (r + 3) (681 * T + 1 + 3 * k + 2) = nI j ∧ RD (alL l) (co_ T r S) (vl_ T r S) i j v
def TY (S : Mem) (r T w : Nat) (X : Tx) : Prop := X.1 ≤ 24 ∧ rdI S (r + 3) (681 * T) = nI X.1 ∧ (∀ k, k < X.1 → ClM S r T k = nI (X.2.1 k) ∧ ((X.2.1 k = 2 ∨ X.2.1 k = 3 ∨ X.2.1 k = 4 ∨ X.2.1 k = 5 ∨ X.2.1 k = 7) → rdI S (r + 3) (681 * T + 1 + 3 * k + 1) = nI (X.2.2.1 k)) ∧ ((X.2.1 k = 4 ∨ X.2.1 k = 5) → rdI S (r + 3) (681 * T + 1 + 3 * k + 2) = nI (X.2.2.2.1 k))) ∧ ∀ l, l < 2 → LcM S r T l X.1 w (txL X l)
def mkX (X : Tx) : Nat := (if (txL X 0).isSome = true then 1 else 0) + (if (txL X 1).isSome = true then 2 else 0)
def RK (b : Nat → Nat) (n r T i : Nat) (X : Tx) (S : Mem) : Prop := RT b n r i S ∧ rdI S r 12 = nI (681 * T) ∧ T < 4 ∧ i ≤ tN b n ∧ rdI S r 19 = nI (mkX X) ∧ ∃ w, rdI S r 13 = nI w ∧ w ≤ i ∧ TY S r T w X
def RS (b : Nat → Nat) (n r T : Nat) (ρ : Rho) (X : Tx) (x : Int32) (S : Mem) : Prop := match ρ with
  | .inl e => x = nI e.1 ∧ 0 < e.1 ∧ e.1 < 100 ∧ rdI S r 8 = nI (tP b n e.2)
  | .inr j => x = 0 ∧ RK b n r T j X S
def WgT (i : Nat) : Prop := Wr i ∨ i = 12 ∨ i = 14 ∨ i = 19
def FrG (r T : Nat) (S S' : Mem) : Prop := (∀ c, ¬ (c = r ∨ c = r + 3 ∨ c = r + 5) → rdI S' c = rdI S c) ∧ (∀ i, ¬ WgT i → rdI S' r i = rdI S r i) ∧ (∀ i, ¬ (681 * T ≤ i ∧ i < 681 * T + 681) → rdI S' (r + 3) i = rdI S (r + 3) i) ∧ S'.2.2 = S.2.2
theorem FrG_r {r T : Nat} {S : Mem} : FrG r T S S := ⟨fun _ _ => rfl, fun _ _ => rfl, fun _ _ => rfl, rfl⟩
theorem FrG_t {r T : Nat} {S S1 S2 : Mem} (h : FrG r T S S1) (h2 : FrG r T S1 S2) : FrG r T S S2 := ⟨fun c a => (h2.1 c a).trans (h.1 c a), fun i a => (h2.2.1 i a).trans (h.2.1 i a), fun i a => (h2.2.2.1 i a).trans (h.2.2.1 i a), h2.2.2.2.trans h.2.2.2⟩
theorem FrG_W {r T w : Nat} {S S' : Mem} (h : FrW r T w S S') : FrG r T S S' := ⟨h.1, fun i a => h.2.1 i (fun z => a (Or.inl z)), fun i a => h.2.2.1 i (by omega), h.2.2.2⟩
theorem FrG_B {r T lo hi : Nat} {S S' : Mem} (h : FrB r lo hi S S') (h1 : 681 * T ≤ lo) (h2 : hi ≤ 681 * T + 681) : FrG r T S S' := ⟨fun c a => h.1 c (by omega), fun i a => h.2.1 i (fun z => a (by unfold WgT Wr; omega)), fun i a => h.2.2.1 i (by omega), h.2.2.2⟩
theorem FrG_H {r T : Nat} {S S' : Mem} (h : FrH r S S') : FrG r T S S' := FrG_W (w := 0) (FrW_H h)
theorem FrG_w {r T i : Nat} {v : Int32} {S : Mem} (hi : WgT i) : FrG r T S (wrI S r i v) := ⟨fun c a => funext fun x => by rw [rdI_wrI, if_neg (by omega)], fun j a => by rw [rdI_wrI, if_neg (fun z => a (by rw [z.2]; exact hi))], fun j a => by rw [rdI_wrI, if_neg (by omega)], rfl⟩
theorem FrG_3 {r T i : Nat} {v : Int32} {S : Mem} (h1 : 681 * T ≤ i) (h2 : i < 681 * T + 681) : FrG r T S (wrI S (r + 3) i v) := ⟨fun c a => funext fun x => by rw [rdI_wrI, if_neg (by omega)], fun j a => by rw [rdI_wrI, if_neg (by omega)], fun j a => by rw [rdI_wrI, if_neg (by omega)], rfl⟩
section DA_
variable {b : Nat → Nat} {n r T : Nat} {X : Tx}
/-- a clause more, in the reference's rows -/
theorem LcM_k {S S' : Mem} {l m w w' K : Nat} {o : Option (Env → Int)} (h : LcM S r T l m w o) (hm : m < 24) (e : ∀ y, ¬ y = 681 * T → ¬ (681 * T + 1 + 3 * m ≤ y ∧ y < 681 * T + 1 + 3 * m + 3) → ¬ (681 * T + 73 + 2 * w ≤ y) → rdI S' (r + 3) y = rdI S (r + 3) y) (eK : ClM S' r T m = nI K) (hK : K < 100) (hl : l < 2) (hKl : ¬ K = l) (hw : w ≤ w') : LcM S' r T l (m + 1) w' o := by
  have ec : ∀ k, k < m → ClM S' r T k = ClM S r T k := fun k hk => e _ (by omega) (by omega) (by omega)
  cases o with
  | none =>
    intro k hk
    by_cases z : k = m
    · rw [z, eK]; exact fun y => hKl ((nI_eq (by omega) (by omega)).mp y)
    · rw [ec k (by omega)]; exact h k (by omega)
  | some v =>
    obtain ⟨k, i, j, h1, h2, h3, h4, h5, h6, h7, h8⟩ := h
    refine ⟨k, i, j, by omega, by rw [ec k h1]; exact h2, fun k' hk' => by rw [ec k' (by omega)]; exact h3 k' hk', h4, by omega, by rw [e _ (by omega) (by omega) (by omega)]; exact h6, by rw [e _ (by omega) (by omega) (by omega)]; exact h7, RD_cong h8 (fun x _ hx => ⟨e _ (by omega) (by omega) (by omega), e _ (by omega) (by omega) (by omega)⟩)⟩
theorem TY_k {S S' : Mem} {w : Nat} {K a c : Nat} (h : TY S r T w X) (hm : X.1 < 24) (e : ∀ y, ¬ y = 681 * T → ¬ (681 * T + 1 + 3 * X.1 ≤ y ∧ y < 681 * T + 1 + 3 * X.1 + 3) → ¬ (681 * T + 73 + 2 * w ≤ y) → rdI S' (r + 3) y = rdI S (r + 3) y) (eK : ClM S' r T X.1 = nI K) (ea : K = 2 ∨ K = 3 ∨ K = 4 ∨ K = 5 ∨ K = 7 → rdI S' (r + 3) (681 * T + 1 + 3 * X.1 + 1) = nI a) (ec : K = 4 ∨ K = 5 → rdI S' (r + 3) (681 * T + 1 + 3 * X.1 + 2) = nI c) : ∀ k, k < X.1 + 1 → ClM S' r T k = nI (if k = X.1 then K else X.2.1 k) ∧ (((if k = X.1 then K else X.2.1 k) = 2 ∨ (if k = X.1 then K else X.2.1 k) = 3 ∨ (if k = X.1 then K else X.2.1 k) = 4 ∨ (if k = X.1 then K else X.2.1 k) = 5 ∨ (if k = X.1 then K else X.2.1 k) = 7) → rdI S' (r + 3) (681 * T + 1 + 3 * k + 1) = nI (if k = X.1 then a else X.2.2.1 k)) ∧ (((if k = X.1 then K else X.2.1 k) = 4 ∨ (if k = X.1 then K else X.2.1 k) = 5) → rdI S' (r + 3) (681 * T + 1 + 3 * k + 2) = nI (if k = X.1 then c else X.2.2.2.1 k)) := by
  intro k hk
  by_cases z : k = X.1
  · rw [if_pos z, if_pos z, if_pos z, z]
    exact ⟨eK, ea, ec⟩
  · rw [if_neg z, if_neg z, if_neg z]
    obtain ⟨g1, g2, g3⟩ := h.2.2.1 k (by omega)
    refine ⟨?_, fun y => ?_, fun y => ?_⟩
    · exact (e _ (by omega) (by omega) (by omega)).trans g1
    · rw [e _ (by omega) (by omega) (by omega)]; exact g2 y
    · rw [e _ (by omega) (by omega) (by omega)]; exact g3 y
theorem TY_n {S S' : Mem} {w w' K a c : Nat} (h : TY S r T w X) (hm : X.1 < 24) (e0 : rdI S' (r + 3) (681 * T) = nI (X.1 + 1)) (e : ∀ y, ¬ y = 681 * T → ¬ (681 * T + 1 + 3 * X.1 ≤ y ∧ y < 681 * T + 1 + 3 * X.1 + 3) → ¬ (681 * T + 73 + 2 * w ≤ y) → rdI S' (r + 3) y = rdI S (r + 3) y) (eK : ClM S' r T X.1 = nI K) (h2 : 2 ≤ K) (h7 : K ≤ 7) (ea : ¬ K = 6 → rdI S' (r + 3) (681 * T + 1 + 3 * X.1 + 1) = nI a) (ec : K = 4 ∨ K = 5 → rdI S' (r + 3) (681 * T + 1 + 3 * X.1 + 2) = nI c) (hw : w ≤ w') : TY S' r T w' (apX X K a c) := ⟨by show X.1 + 1 ≤ 24; omega, e0, TY_k h hm e eK (fun z => ea (by omega)) ec, fun l hl => LcM_k (h.2.2.2 l hl) hm e eK (by omega) hl (by omega) hw⟩
theorem TY_l {S S' : Mem} {w w' K : Nat} {v : Env → Int} (h : TY S r T w X) (hm : X.1 < 24) (e0 : rdI S' (r + 3) (681 * T) = nI (X.1 + 1)) (e : ∀ y, ¬ y = 681 * T → ¬ (681 * T + 1 + 3 * X.1 ≤ y ∧ y < 681 * T + 1 + 3 * X.1 + 3) → ¬ (681 * T + 73 + 2 * w ≤ y) → rdI S' (r + 3) y = rdI S (r + 3) y) (eK : ClM S' r T X.1 = nI K) (hK : K < 2) (hX : txL X K = none) (ea : rdI S' (r + 3) (681 * T + 1 + 3 * X.1 + 1) = nI w) (ec : rdI S' (r + 3) (681 * T + 1 + 3 * X.1 + 2) = nI w') (hw : w < w') (hv : RD (alL K) (co_ T r S') (vl_ T r S') w w' v) : TY S' r T w' (apX (lwX X K v) K 0 0) := by
  refine ⟨by show X.1 + 1 ≤ 24; omega, e0, TY_k (X := X) (a := 0) (c := 0) h hm e eK (fun z => by omega) (fun z => by omega), fun l hl => ?_⟩
  by_cases z : l = K
  · have eo : txL (apX (lwX X K v) K 0 0) l = some v := if_pos z
    have h0 := h.2.2.2 K hK
    rw [hX] at h0
    rw [eo, z]
    exact ⟨X.1, w, w', Nat.lt_succ_self _, eK, fun k' hk' => by rw [show ClM S' r T k' = ClM S r T k' from e _ (by omega) (by omega) (by omega)]; exact h0 k' hk', hw, Nat.le_refl _, ea, ec, hv⟩
  · have eo : txL (apX (lwX X K v) K 0 0) l = txL X l := if_neg z
    rw [eo]
    exact LcM_k (h.2.2.2 l hl) hm e eK (by omega) hl (fun y => z y.symm) (by omega)
/-- which laws there are: the mask -/
theorem has_k (X : Tx) {l : Nat} (hl : l < 2) (d : Nat) (S : Mem) : cal d 160 [vI (nI (mkX X)), vI (nI l)] S = some (some (vI (b2i ((txL X l).isSome))), S) := by
  have key : ∀ p q : Bool, ∀ l : Fin 2, (((shrI (nI ((if p = true then 1 else 0) + (if q = true then 2 else 0))) (nI l.1)) &&& 1) = 1) ↔ (if l.1 = 0 then p else q) = true := by decide
  have k := key (txL X 0).isSome (txL X 1).isSome ⟨l, hl⟩
  have es : (if l = 0 then (txL X 0).isSome else (txL X 1).isSome) = (txL X l).isSome := by
    rcases (show l = 0 ∨ l = 1 by omega) with rfl | rfl
    · rfl
    · rfl
  have k' : (((shrI (nI (mkX X)) (nI l)) &&& 1) = 1) ↔ (txL X l).isSome = true := by rw [← es]; exact k
  rw [B_X8_has]
  cases hs : (txL X l).isSome
  · rw [if_neg (fun z => by have := k'.mp z; rw [hs] at this; cases this), q0_t]
  · rw [if_pos (k'.mpr hs), q1_t]
theorem mk_k (X : Tx) {l : Nat} {v : Env → Int} (hl : l < 2) (hX : txL X l = none) : nI (mkX X) ||| shlI 1 (nI l) = nI (mkX (lwX X l v)) := by
  have key0 : ∀ q : Bool, nI ((if false = true then 1 else 0) + (if q = true then 2 else 0)) ||| shlI 1 (nI 0) = nI ((if true = true then 1 else 0) + (if q = true then 2 else 0)) := by decide
  have key1 : ∀ p : Bool, nI ((if p = true then 1 else 0) + (if false = true then 2 else 0)) ||| shlI 1 (nI 1) = nI ((if p = true then 1 else 0) + (if true = true then 2 else 0)) := by decide
  rcases (show l = 0 ∨ l = 1 by omega) with rfl | rfl
  · have k := key0 (txL X 1).isSome
    have e : (txL X 0).isSome = false := by rw [hX]; rfl
    have e1 : txL (lwX X 0 v) 1 = txL X 1 := rfl
    have e0 : (txL (lwX X 0 v) 0).isSome = true := rfl
    unfold mkX
    rw [e, e1, e0]; exact k
  · have k := key1 (txL X 0).isSome
    have e : (txL X 1).isSome = false := by rw [hX]; rfl
    have e1 : txL (lwX X 1 v) 0 = txL X 0 := rfl
    have e0 : (txL (lwX X 1 v) 1).isSome = true := rfl
    unfold mkX
    rw [e, e1, e0]; exact k
theorem a_e {m : Nat} : nI (681 * T) + 1 + 3 * nI m = nI (681 * T + 1 + 3 * m) := by
  rw [nI_1]
  show nI (681 * T + 1) + nI 3 * nI m = _
  rw [pk_mul, nI_add]
/-- what comes behind the clause's own -/
noncomputable def kCl (d r : Nat) : Int32 → Mem → Option Res := fun x5 S4 => if x5 = 0 then gd (inb (rdI S4 r 12) 2724) (gd (inb (rdI S4 r 12) 2724) (if (rdI (wrI S4 (r + 3) (ix (rdI S4 r 12)) ((rdI S4 (r + 3) (ix (rdI S4 r 12))) + 1)) r 9) = 59 then bV (cal d 183 [vR 8 r] (wrI S4 (r + 3) (ix (rdI S4 r 12)) ((rdI S4 (r + 3) (ix (rdI S4 r 12))) + 1))) (fun S6 => some (some (vI 0), S6)) else some (some (vI 1), wrI S4 (r + 3) (ix (rdI S4 r 12)) ((rdI S4 (r + 3) (ix (rdI S4 r 12))) + 1)))) else some (some (vI x5), S4)
theorem kCl_f {x : Int32} {S : Mem} (hx : ¬ x = 0) (d : Nat) : kCl d r x S = some (some (vI x), S) := if_neg hx
theorem kCl_m {j m : Nat} {S : Mem} (h : RT b n r j S) (hj : j ≤ tN b n) (hT : T < 4) (e12 : rdI S r 12 = nI (681 * T)) (e0 : rdI S (r + 3) (681 * T) = nI m) (d : Nat) : ∃ S' x, kCl (d + 1) r 0 S = some (some (vI x), S') ∧ RO b n r (takP b n 37 (.inr j)) x S' ∧ FrB r (681 * T) (681 * T + 1) S S' ∧ rdI S' (r + 3) (681 * T) = nI (m + 1) := by
  have h1 : RT b n r j (wrI S (r + 3) (681 * T) (nI (m + 1))) := RT_w h (by omega) (by omega)
  have e9 : rdI (wrI S (r + 3) (681 * T) (nI (m + 1))) r 9 = 59 ↔ tK b n j = 37 := is9 h1 (c := 59) (K := 37) (by decide) (by decide)
  have fw : FrB r (681 * T) (681 * T + 1) S (wrI S (r + 3) (681 * T) (nI (m + 1))) := FrB_w (Nat.le_refl _) (by omega)
  unfold kCl
  rw [if_pos rfl, e12, i27 (by omega), gd_t, gd_t, ix_nI (by omega), e0, nI_1]
  by_cases z : tK b n j = 37
  · have hj' := tK_in (b := b) (n := n) (i := j) (by omega)
    obtain ⟨S', e1, k1, f1⟩ := nx_m h1 d
    rw [takP_1 z, if_pos (e9.mpr z), e1, bV_s]
    exact ⟨S', 0, rfl, ⟨rfl, k1, by omega⟩, FrB_t fw (FrB_H f1), by rw [f1.1 (r + 3) (by omega), rdI_wrI, if_pos ⟨rfl, rfl⟩]⟩
  · rw [takP_2 z, if_neg (mt e9.mp z)]
    exact ⟨_, 1, rfl, ⟨rfl, by omega, by omega, RT_8 h1⟩, fw, by rw [rdI_wrI, if_pos ⟨rfl, rfl⟩]⟩
end DA_
