/-! the law's loop: each step leads both to the same answer -/
theorem ClR_o {S S' : Mem} {x : Nat} {Z : Zs} (h : ClR S x Z) (e : ∀ c, x ≤ c → c < x + 524 → rdI S' c = rdI S c) (h4 : zT Z ≤ 4) : ClR S' x Z := by
  obtain ⟨h1, h2, h3, h5, h6⟩ := h
  refine ⟨WC_k h1 (fun c c1 c2 => e c (by omega) (by omega)), WC_k h2 (fun c c1 c2 => e c (by omega) (by omega)), fun j hj => TxC_k (h3 j hj) (fun c c1 c2 => e c (by omega) (by omega)), ⟨LC_k h5.1 (fun c c1 c2 => e c (by omega) (by omega)), LC_k h5.2 (fun c c1 c2 => e c (by omega) (by omega))⟩, ?_⟩
  unfold TpC at h6 ⊢
  rw [e (x + 1) (by omega) (by omega), e (x + 1 + 1) (by omega) (by omega)]; exact h6
theorem MoR_o {S S' : Mem} {r : Nat} {Z : Zs} (h : MoR S r Z) (e : ∀ c, r ≤ c → rdI S' c = rdI S c) : MoR S' r Z := by
  obtain ⟨h1, h2, h3, h5⟩ := h
  refine ⟨WM_k h1 (fun i => congrFun (e _ (by omega)) i), WM_k h2 (fun i => congrFun (e _ (by omega)) i), fun j hj => TxM_k (h3 j hj) (e _ (by omega)), ?_⟩
  unfold TpM at h5 ⊢
  rw [e r (by omega), e (r + 4) (by omega)]; exact h5
def Jn (x r : Nat) (S : Mem) (Z : Zs) : Prop := ClR S x Z ∧ MoR S r Z ∧ ZI Z
/-- one step of both -/
theorem jn_s {x r : Nat} {S : Mem} {Z Z' : Zs} {C M : Mem → Option Res} {v : Int32} (h : Jn x r S Z) (hxr : x + 524 ≤ r) (I' : ZI Z') (hC : ∀ S, ClR S x Z → OwC x S (C S) v Z') (hM : ∀ S, MoR S r Z → OwM r S (M S) v Z') : ∃ S1 S2, C S = some (some (vI v), S1) ∧ M S1 = some (some (vI v), S2) ∧ S1.2.2 = S.2.2 ∧ S2.2.2 = S.2.2 ∧ Jn x r S2 Z' := by
  obtain ⟨h1, h2, I⟩ := h
  obtain ⟨S1, e1, k1, f1⟩ := hC S h1
  obtain ⟨S2, e2, k2, f2⟩ := hM S1 (MoR_o h2 (fun c hc => f1.1 c (by omega)))
  have h4 : zT Z' ≤ 4 := I'.1.2.2.2.1
  exact ⟨S1, S2, e1, e2, by rw [f1.2], by rw [f2.2, f1.2], ClR_o k1 (fun c c1 c2 => funext fun i => f2.1 c i (by omega)) h4, k2, I'⟩
theorem jn_l {x r : Nat} {S : Mem} {Z : Zs} {C M : Mem → Option Res} {v : Int64} (h : Jn x r S Z) (hxr : x + 524 ≤ r) (hC : ∀ S, ClR S x Z → ∃ v', OlC x S (C S) v' Z ∧ v' = v) (hM : ∀ S, MoR S r Z → ∃ v', OlM r S (M S) v' Z ∧ v' = v) : ∃ S1 S2, C S = some (some (vL v), S1) ∧ M S1 = some (some (vL v), S2) ∧ S1.2.2 = S.2.2 ∧ S2.2.2 = S.2.2 ∧ Jn x r S2 Z := by
  obtain ⟨h1, h2, I⟩ := h
  obtain ⟨v1, ⟨S1, e1, k1, f1⟩, rfl⟩ := hC S h1
  have f1' := FwX_X f1
  obtain ⟨v2, ⟨S2, e2, k2, f2⟩, rfl⟩ := hM S1 (MoR_o h2 (fun c hc => f1'.1 c (by omega)))
  have f2' := FwY_Y f2
  have h4 : zT Z ≤ 4 := I.1.2.2.2.1
  exact ⟨S1, S2, e1, e2, by rw [f1'.2], by rw [f2'.2, f1'.2], ClR_o k1 (fun c c1 c2 => funext fun i => f2'.1 c i (by omega)) h4, k2, I⟩
def StO (d w x r i : Nat) (S : Mem) (o : Option Res) : Prop := ∃ S2 Z2, Jn x r S2 Z2 ∧ S2.2.2 = S.2.2 ∧ o = ev (d + 101) 320 18 [vR 40 w, vR 7 x, vR 8 r, vI (nI (i + 6))] [] S2
section LW_
variable {d w x r i : Nat} {S : Mem} {Z : Zs}
theorem st_e (S : Mem) : ev (d + 101) 320 1485 [vR 40 w, vR 7 x, vR 8 r, vI (nI i)] [] S = ev (d + 101) 320 18 [vR 40 w, vR 7 x, vR 8 r, vI (nI (i + 6))] [] S := by
  rw [show d + 101 = (d + 100) + 1 by omega, B_L_law_1485, show nI i + 6 = nI (i + 6) from nI_add i 6]
theorem i_n {n : Nat} (hn : n < 2 ^ 31) (hi : i + 6 ≤ n) {k : Nat} (hk : k < 6) : inb (nI i + nI k) n = true := by
  rw [nI_add]; exact inb_t (by omega) (by omega)
theorem br_0 {mc mm : Nat} (h : Jn x r S Z) (hxr : x + 524 ≤ r) (hn : S.2.2.1 < 2 ^ 31) (hi : i + 6 ≤ S.2.2.1) (H : ∃ v Z', ZI Z' ∧ (∀ S, ClR S x Z → OwC x S (cal (d + 100) mc [vR 7 x] S) v Z') ∧ (∀ S, MoR S r Z → OwM r S (cal (d + 100) mm [vR 8 r] S) v Z')) : StO d w x r i S (bI (cal (d + 100) mc [vR 7 x] S) (fun x6 S5 => bI (cal (d + 100) mm [vR 8 r] S5) (fun x8 S7 => if x6 = x8 then ev (d + 101) 320 1485 [vR 40 w, vR 7 x, vR 8 r, vI (nI i)] [] S7 else gd (isZ 0) (some (some (vI 0), S7))))) := by
  obtain ⟨v, Z', I', hC, hM⟩ := H
  obtain ⟨S1, S2, e1, e2, g1, g2, J⟩ := jn_s h hxr I' hC hM
  refine ⟨S2, Z', J, g2, ?_⟩
  rw [e1, bI_s, e2, bI_s, if_pos rfl, st_e]
theorem br_1 {mc mm : Nat} (h : Jn x r S Z) (hxr : x + 524 ≤ r) (hn : S.2.2.1 < 2 ^ 31) (hi : i + 6 ≤ S.2.2.1) (H : ∀ (a1 : Int32), ∃ v Z', ZI Z' ∧ (∀ S, ClR S x Z → OwC x S (cal (d + 100) mc [vR 7 x, vI a1] S) v Z') ∧ (∀ S, MoR S r Z → OwM r S (cal (d + 100) mm [vR 8 r, vI a1] S) v Z')) : StO d w x r i S (gd (inb (nI i + 1) S.2.2.1) (bI (cal (d + 100) mc [vR 7 x, vI (S.2.2.2 (ix (nI i + 1)))] S) (fun x6 S5 => gd (inb (nI i + 1) S5.2.2.1) (bI (cal (d + 100) mm [vR 8 r, vI (S5.2.2.2 (ix (nI i + 1)))] S5) (fun x8 S7 => if x6 = x8 then ev (d + 101) 320 1485 [vR 40 w, vR 7 x, vR 8 r, vI (nI i)] [] S7 else gd (isZ 0) (some (some (vI 0), S7))))))) := by
  obtain ⟨v, Z', I', hC, hM⟩ := H (S.2.2.2 (ix (nI i + 1)))
  obtain ⟨S1, S2, e1, e2, g1, g2, J⟩ := jn_s h hxr I' hC hM
  refine ⟨S2, Z', J, g2, ?_⟩
  have n1 : inb (nI i + 1) S.2.2.1 = true := i_n (k := 1) hn hi (by decide)
  rw [n1, gd_t, e1, bI_s, g1, n1, gd_t, e2, bI_s, if_pos rfl, st_e]
theorem br_2 {mc mm : Nat} (h : Jn x r S Z) (hxr : x + 524 ≤ r) (hn : S.2.2.1 < 2 ^ 31) (hi : i + 6 ≤ S.2.2.1) (H : ∀ (a1 a2 : Int32), ∃ v Z', ZI Z' ∧ (∀ S, ClR S x Z → OwC x S (cal (d + 100) mc [vR 7 x, vI a1, vI a2] S) v Z') ∧ (∀ S, MoR S r Z → OwM r S (cal (d + 100) mm [vR 8 r, vI a1, vI a2] S) v Z')) : StO d w x r i S (gd (inb (nI i + 1) S.2.2.1) (gd (inb (nI i + 2) S.2.2.1) (bI (cal (d + 100) mc [vR 7 x, vI (S.2.2.2 (ix (nI i + 1))), vI (S.2.2.2 (ix (nI i + 2)))] S) (fun x6 S5 => gd (inb (nI i + 1) S5.2.2.1) (gd (inb (nI i + 2) S5.2.2.1) (bI (cal (d + 100) mm [vR 8 r, vI (S5.2.2.2 (ix (nI i + 1))), vI (S5.2.2.2 (ix (nI i + 2)))] S5) (fun x8 S7 => if x6 = x8 then ev (d + 101) 320 1485 [vR 40 w, vR 7 x, vR 8 r, vI (nI i)] [] S7 else gd (isZ 0) (some (some (vI 0), S7))))))))) := by
  obtain ⟨v, Z', I', hC, hM⟩ := H (S.2.2.2 (ix (nI i + 1))) (S.2.2.2 (ix (nI i + 2)))
  obtain ⟨S1, S2, e1, e2, g1, g2, J⟩ := jn_s h hxr I' hC hM
  refine ⟨S2, Z', J, g2, ?_⟩
  have n1 : inb (nI i + 1) S.2.2.1 = true := i_n (k := 1) hn hi (by decide)
  have n2 : inb (nI i + 2) S.2.2.1 = true := i_n (k := 2) hn hi (by decide)
  rw [n1, gd_t, n2, gd_t, e1, bI_s, g1, n1, gd_t, n2, gd_t, e2, bI_s, if_pos rfl, st_e]
theorem br_3 {mc mm : Nat} (h : Jn x r S Z) (hxr : x + 524 ≤ r) (hn : S.2.2.1 < 2 ^ 31) (hi : i + 6 ≤ S.2.2.1) (H : ∀ (a1 a2 a3 : Int32), ∃ v Z', ZI Z' ∧ (∀ S, ClR S x Z → OwC x S (cal (d + 100) mc [vR 7 x, vI a1, vI a2, vI a3] S) v Z') ∧ (∀ S, MoR S r Z → OwM r S (cal (d + 100) mm [vR 8 r, vI a1, vI a2, vI a3] S) v Z')) : StO d w x r i S (gd (inb (nI i + 1) S.2.2.1) (gd (inb (nI i + 2) S.2.2.1) (gd (inb (nI i + 3) S.2.2.1) (bI (cal (d + 100) mc [vR 7 x, vI (S.2.2.2 (ix (nI i + 1))), vI (S.2.2.2 (ix (nI i + 2))), vI (S.2.2.2 (ix (nI i + 3)))] S) (fun x6 S5 => gd (inb (nI i + 1) S5.2.2.1) (gd (inb (nI i + 2) S5.2.2.1) (gd (inb (nI i + 3) S5.2.2.1) (bI (cal (d + 100) mm [vR 8 r, vI (S5.2.2.2 (ix (nI i + 1))), vI (S5.2.2.2 (ix (nI i + 2))), vI (S5.2.2.2 (ix (nI i + 3)))] S5) (fun x8 S7 => if x6 = x8 then ev (d + 101) 320 1485 [vR 40 w, vR 7 x, vR 8 r, vI (nI i)] [] S7 else gd (isZ 0) (some (some (vI 0), S7))))))))))) := by
  obtain ⟨v, Z', I', hC, hM⟩ := H (S.2.2.2 (ix (nI i + 1))) (S.2.2.2 (ix (nI i + 2))) (S.2.2.2 (ix (nI i + 3)))
  obtain ⟨S1, S2, e1, e2, g1, g2, J⟩ := jn_s h hxr I' hC hM
  refine ⟨S2, Z', J, g2, ?_⟩
  have n1 : inb (nI i + 1) S.2.2.1 = true := i_n (k := 1) hn hi (by decide)
  have n2 : inb (nI i + 2) S.2.2.1 = true := i_n (k := 2) hn hi (by decide)
  have n3 : inb (nI i + 3) S.2.2.1 = true := i_n (k := 3) hn hi (by decide)
  rw [n1, gd_t, n2, gd_t, n3, gd_t, e1, bI_s, g1, n1, gd_t, n2, gd_t, n3, gd_t, e2, bI_s, if_pos rfl, st_e]
theorem br_5 {mc mm : Nat} (h : Jn x r S Z) (hxr : x + 524 ≤ r) (hn : S.2.2.1 < 2 ^ 31) (hi : i + 6 ≤ S.2.2.1) (H : ∀ (a1 a2 a3 a4 a5 : Int32), ∃ v Z', ZI Z' ∧ (∀ S, ClR S x Z → OwC x S (cal (d + 100) mc [vR 7 x, vI a1, vI a2, vI a3, vI a4, vI a5] S) v Z') ∧ (∀ S, MoR S r Z → OwM r S (cal (d + 100) mm [vR 8 r, vI a1, vI a2, vI a3, vI a4, vI a5] S) v Z')) : StO d w x r i S (gd (inb (nI i + 1) S.2.2.1) (gd (inb (nI i + 2) S.2.2.1) (gd (inb (nI i + 3) S.2.2.1) (gd (inb (nI i + 4) S.2.2.1) (gd (inb (nI i + 5) S.2.2.1) (bI (cal (d + 100) mc [vR 7 x, vI (S.2.2.2 (ix (nI i + 1))), vI (S.2.2.2 (ix (nI i + 2))), vI (S.2.2.2 (ix (nI i + 3))), vI (S.2.2.2 (ix (nI i + 4))), vI (S.2.2.2 (ix (nI i + 5)))] S) (fun x6 S5 => gd (inb (nI i + 1) S5.2.2.1) (gd (inb (nI i + 2) S5.2.2.1) (gd (inb (nI i + 3) S5.2.2.1) (gd (inb (nI i + 4) S5.2.2.1) (gd (inb (nI i + 5) S5.2.2.1) (bI (cal (d + 100) mm [vR 8 r, vI (S5.2.2.2 (ix (nI i + 1))), vI (S5.2.2.2 (ix (nI i + 2))), vI (S5.2.2.2 (ix (nI i + 3))), vI (S5.2.2.2 (ix (nI i + 4))), vI (S5.2.2.2 (ix (nI i + 5)))] S5) (fun x8 S7 => if x6 = x8 then ev (d + 101) 320 1485 [vR 40 w, vR 7 x, vR 8 r, vI (nI i)] [] S7 else gd (isZ 0) (some (some (vI 0), S7))))))))))))))) := by
  obtain ⟨v, Z', I', hC, hM⟩ := H (S.2.2.2 (ix (nI i + 1))) (S.2.2.2 (ix (nI i + 2))) (S.2.2.2 (ix (nI i + 3))) (S.2.2.2 (ix (nI i + 4))) (S.2.2.2 (ix (nI i + 5)))
  obtain ⟨S1, S2, e1, e2, g1, g2, J⟩ := jn_s h hxr I' hC hM
  refine ⟨S2, Z', J, g2, ?_⟩
  have n1 : inb (nI i + 1) S.2.2.1 = true := i_n (k := 1) hn hi (by decide)
  have n2 : inb (nI i + 2) S.2.2.1 = true := i_n (k := 2) hn hi (by decide)
  have n3 : inb (nI i + 3) S.2.2.1 = true := i_n (k := 3) hn hi (by decide)
  have n4 : inb (nI i + 4) S.2.2.1 = true := i_n (k := 4) hn hi (by decide)
  have n5 : inb (nI i + 5) S.2.2.1 = true := i_n (k := 5) hn hi (by decide)
  rw [n1, gd_t, n2, gd_t, n3, gd_t, n4, gd_t, n5, gd_t, e1, bI_s, g1, n1, gd_t, n2, gd_t, n3, gd_t, n4, gd_t, n5, gd_t, e2, bI_s, if_pos rfl, st_e]
theorem b01_e (a : Int32) (C : Int32 → Option Res) : (if a = 0 then C 0 else C 1) = C (if a = 0 then 0 else 1) := by
  by_cases z : a = 0
  · rw [if_pos z, if_pos z]
  · rw [if_neg z, if_neg z]
theorem st_26 (h : Jn x r S Z) (hxr : x + 524 ≤ r) (hn : S.2.2.1 < 2 ^ 31) (hi : i + 6 ≤ S.2.2.1) (s0 : Int32) (hs : s0 = if S.2.2.2 (ix (nI i + 3)) = 0 then 0 else 1) : StO d w x r i S (ev (d + 101) 320 966 [vR 40 w, vR 7 x, vR 8 r, vI (nI i)] [vI s0, vI (S.2.2.2 (ix (nI i + 2))), vI (S.2.2.2 (ix (nI i + 1))), vR 7 x] S) := by
  obtain ⟨S1, S2, e1, e2, g1, g2, J⟩ := jn_l (C := fun S0 => cal (d + 100) 125 [vR 7 x, vI (S.2.2.2 (ix (nI i + 1))), vI (S.2.2.2 (ix (nI i + 2))), vI s0] S0) (M := fun S0 => cal (d + 100) 290 [vR 8 r, vI (S.2.2.2 (ix (nI i + 1))), vI (S.2.2.2 (ix (nI i + 2))), vI s0] S0) h hxr (fun S0 h => ⟨_, od_c h _ _ _ (d + 91), rfl⟩) (fun S0 h => ⟨_, od_m h _ _ _ (d + 91), rfl⟩)
  refine ⟨S2, Z, J, g2, ?_⟩
  have n1 : inb (nI i + 1) S.2.2.1 = true := i_n (k := 1) hn hi (by decide)
  have n2 : inb (nI i + 2) S.2.2.1 = true := i_n (k := 2) hn hi (by decide)
  have n3 : inb (nI i + 3) S.2.2.1 = true := i_n (k := 3) hn hi (by decide)
  have row : ∀ s : Int32, s = s0 → ev (d + 101) 320 993 [vR 40 w, vR 7 x, vR 8 r, vI (nI i)] [vI s, vI (S.2.2.2 (ix (nI i + 2))), vI (S.2.2.2 (ix (nI i + 1))), vR 8 r, vL (odZ (S.2.2.2 (ix (nI i + 1))) (S.2.2.2 (ix (nI i + 2))) s0)] S1 = ev (d + 101) 320 18 [vR 40 w, vR 7 x, vR 8 r, vI (nI (i + 6))] [] S2 := fun s hs => by
    rw [show d + 101 = (d + 100) + 1 by omega, B_L_law_993, hs, e2, bL_s, if_pos ((lg_cmp_eq _ _).mpr rfl), show d + 100 + 1 = d + 101 by omega, st_e]
  rw [show d + 101 = (d + 100) + 1 by omega, B_L_law_966, e1, bL_s, g1, n1, gd_t, n2, gd_t, n3, gd_t, show d + 100 + 1 = d + 101 by omega]
  by_cases z : S.2.2.2 (ix (nI i + 3)) = 0
  · rw [if_pos z]; rw [if_pos z] at hs; exact row 0 hs.symm
  · rw [if_neg z]; rw [if_neg z] at hs; exact row 1 hs.symm
theorem st_27 (h : Jn x r S Z) (hxr : x + 524 ≤ r) (hn : S.2.2.1 < 2 ^ 31) (hi : i + 6 ≤ S.2.2.1) (s0 : Int32) (hs : s0 = if S.2.2.2 (ix (nI i + 1)) = 0 then 0 else 1) : StO d w x r i S (ev (d + 101) 320 1016 [vR 40 w, vR 7 x, vR 8 r, vI (nI i)] [vI s0, vR 7 x] S) := by
  obtain ⟨v, q1, q2⟩ := ex_c h.1 h.2.2 s0 (d + 91)
  obtain ⟨S1, S2, e1, e2, g1, g2, J⟩ := jn_l (v := v) (C := fun S0 => cal (d + 100) 126 [vR 7 x, vI s0] S0) (M := fun S0 => cal (d + 100) 291 [vR 8 r, vI s0] S0) h hxr (fun S0 h0 => by
    obtain ⟨v1, p1, p2⟩ := ex_c h0 h.2.2 s0 (d + 91)
    exact ⟨v1, p1, Int64.toInt_inj.mp (p2.trans q2.symm)⟩) (fun S0 h0 => by
    obtain ⟨v1, p1, p2⟩ := ex_m h0 h.2.2 s0 (d + 91)
    exact ⟨v1, p1, Int64.toInt_inj.mp (p2.trans q2.symm)⟩)
  refine ⟨S2, Z, J, g2, ?_⟩
  have n1 : inb (nI i + 1) S.2.2.1 = true := i_n (k := 1) hn hi (by decide)
  have row : ∀ s : Int32, s = s0 → ev (d + 101) 320 1033 [vR 40 w, vR 7 x, vR 8 r, vI (nI i)] [vI s, vR 8 r, vL v] S1 = ev (d + 101) 320 18 [vR 40 w, vR 7 x, vR 8 r, vI (nI (i + 6))] [] S2 := fun s hs => by
    rw [show d + 101 = (d + 100) + 1 by omega, B_L_law_1033, hs, e2, bL_s, if_pos ((lg_cmp_eq _ _).mpr rfl), show d + 100 + 1 = d + 101 by omega, st_e]
  rw [show d + 101 = (d + 100) + 1 by omega, B_L_law_1016, e1, bL_s, g1, n1, gd_t, show d + 100 + 1 = d + 101 by omega]
  by_cases z : S.2.2.2 (ix (nI i + 1)) = 0
  · rw [if_pos z]; rw [if_pos z] at hs; exact row 0 hs.symm
  · rw [if_neg z]; rw [if_neg z] at hs; exact row 1 hs.symm
theorem st_all (h : Jn x r S Z) (hx : x + 1100 < 2 ^ 31) (hxr : x + 524 ≤ r) (hn : S.2.2.1 < 2 ^ 31) (hi : i + 6 ≤ S.2.2.1) : StO d w x r i S (ev (d + 101) 320 18 [vR 40 w, vR 7 x, vR 8 r, vI (nI i)] [] S) := by
  have I := h.2.2
  have n0 : inb (nI i) S.2.2.1 = true := inb_t (by omega) (by omega)
  have hend : ¬ (nI S.2.2.1 - 6 < nI i) := by
    rw [show nI S.2.2.1 - 6 = nI (S.2.2.1 - 6) from pk_sub (show 6 ≤ S.2.2.1 by omega), nI_ltI (by omega) (by omega)]; omega
  rw [show d + 101 = (d + 100) + 1 by omega, B_L_law_18, if_neg hend, n0, gd_t, show d + 100 + 1 = d + 101 by omega]
  generalize hop : S.2.2.2 (ix (nI i)) &&& 63 = op
  by_cases z0 : op = 0
  · rw [if_pos z0]
    exact br_5 (mc := 99) (mm := 177) h hxr hn hi (fun a1 a2 a3 a4 a5 => ⟨feV Z, feS Z a1 a2 a3 a4 a5, fe_I I a1 a2 a3 a4 a5, fun S h => fe_c h I a1 a2 a3 a4 a5 (d + 99), fun S h => fe_m h I a1 a2 a3 a4 a5 (d + 99)⟩)
  rw [if_neg z0]
  by_cases z1 : op = 1
  · rw [if_pos z1]
    exact br_1 (mc := 100) (mm := 178) h hxr hn hi (fun a1 => ⟨if enB Z a1 = true then a1 else -1, enS Z a1, en_I I a1, fun S h => en_c h I a1 (d + 100), fun S h => en_m h I a1 (d + 99)⟩)
  rw [if_neg z1]
  by_cases z2 : op = 2
  · rw [if_pos z2]
    obtain ⟨v, Z', I', hC, hM⟩ := te_all I
    exact br_0 h hxr hn hi ⟨v, Z', I', fun S h => hC S x (d + 33) h hx, fun S h => hM S r (d + 86) h⟩
  rw [if_neg z2]
  by_cases z3 : op = 3
  · rw [if_pos z3]
    exact br_1 (mc := 102) (mm := 215) h hxr hn hi (fun a1 => ⟨faZ Z a1, Z, I, fun S h => OwC_k (fa_c h a1 (d + 100)), fun S h => OwM_k (fa_m h a1 (d + 100))⟩)
  rw [if_neg z3]
  by_cases z4 : op = 4
  · rw [if_pos z4]
    exact br_1 (mc := 103) (mm := 216) h hxr hn hi (fun a1 => ⟨b2i (byB Z a1), byS Z a1, by_I I a1, fun S h => by_c h I a1 (d + 91), fun S h => by_m h I a1 (d + 91)⟩)
  rw [if_neg z4]
  by_cases z5 : op = 5
  · rw [if_pos z5]
    exact br_1 (mc := 104) (mm := 259) h hxr hn hi (fun a1 => ⟨(giV Z a1).1, (giV Z a1).2, giV_I I a1, fun S h => OwC_k (gi_c h I a1 (d + 91)), fun S h => OwM_k (gi_m h I a1 (d + 91))⟩)
  rw [if_neg z5]
  by_cases z6 : op = 6
  · rw [if_pos z6]
    exact br_1 (mc := 105) (mm := 260) h hxr hn hi (fun a1 => ⟨(frZ Z a1).1, (frZ Z a1).2, frZ_I I a1, fun S h => OwC_k (fr_c h I a1 (d + 91)), fun S h => OwM_k (fr_m h I a1 (d + 91))⟩)
  rw [if_neg z6]
  by_cases z7 : op = 7
  · rw [if_pos z7]
    exact br_2 (mc := 106) (mm := 261) h hxr hn hi (fun a1 a2 => ⟨(wrZ Z a1 a2).1, (wrZ Z a1 a2).2, wrZ_I I a1 a2, fun S h => OwC_k (wr_c h I a1 a2 (d + 91)), fun S h => OwM_k (wr_m h I a1 a2 (d + 91))⟩)
  rw [if_neg z7]
  by_cases z8 : op = 8
  · rw [if_pos z8]
    exact br_2 (mc := 107) (mm := 263) h hxr hn hi (fun a1 a2 => ⟨(meZ Z a1 a2).1, (meZ Z a1 a2).2, meZ_I I a1 a2, fun S h => OwC_k (me_c h I a1 a2 (d + 91)), fun S h => OwM_k (me_m h I a1 a2 (d + 91))⟩)
  rw [if_neg z8]
  by_cases z9 : op = 9
  · rw [if_pos z9]
    exact br_2 (mc := 108) (mm := 264) h hxr hn hi (fun a1 a2 => ⟨(fnZ Z a1 a2).1, (fnZ Z a1 a2).2, fnZ_I I a1 a2, fun S h => OwC_k (fn_c h I a1 a2 (d + 91)), fun S h => OwM_k (fn_m h I a1 a2 (d + 91))⟩)
  rw [if_neg z9]
  by_cases z10 : op = 10
  · rw [if_pos z10]
    exact br_0 (mc := 109) (mm := 265) h hxr hn hi (⟨(moZ Z).1, (moZ Z).2, moZ_I I, fun S h => OwC_k (mo_c h I (d + 91)), fun S h => OwM_k (mo_m h I (d + 91))⟩)
  rw [if_neg z10]
  by_cases z11 : op = 11
  · rw [if_pos z11]
    exact br_0 (mc := 110) (mm := 266) h hxr hn hi (⟨(liZ Z).1, (liZ Z).2, liZ_I I, fun S h => OwC_k (li_c h I (d + 91)), fun S h => OwM_k (li_m h I (d + 91))⟩)
  rw [if_neg z11]
  by_cases z12 : op = 12
  · rw [if_pos z12]
    exact br_0 (mc := 111) (mm := 267) h hxr hn hi (⟨(coZ Z).1, (coZ Z).2, coZ_I I, fun S h => OwC_k (co_c h I (d + 91)), fun S h => OwM_k (co_m h I (d + 91))⟩)
  rw [if_neg z12]
  by_cases z13 : op = 13
  · rw [if_pos z13]
    exact br_1 (mc := 112) (mm := 269) h hxr hn hi (fun a1 => ⟨(daZ Z a1).1, (daZ Z a1).2, daZ_I I a1, fun S h => OwC_k (da_c h I a1 (d + 90)), fun S h => OwM_k (da_m h I a1 (d + 90))⟩)
  rw [if_neg z13]
  by_cases z14 : op = 14
  · rw [if_pos z14]
    exact br_1 (mc := 113) (mm := 271) h hxr hn hi (fun a1 => ⟨(plZ Z a1).1, (plZ Z a1).2, plZ_I I a1, fun S h => OwC_k (plZ_c h I a1 (d + 90)), fun S h => OwM_k (plZ_m h I a1 (d + 89))⟩)
  rw [if_neg z14]
  by_cases z15 : op = 15
  · rw [if_pos z15]
    exact br_2 (mc := 114) (mm := 272) h hxr hn hi (fun a1 a2 => ⟨(yeZ Z a1 a2).1, (yeZ Z a1 a2).2, yeZ_I I a1 a2, fun S h => OwC_k (ye_c h I a1 a2 (d + 91)), fun S h => OwM_k (ye_m h I a1 a2 (d + 91))⟩)
  rw [if_neg z15]
  by_cases z16 : op = 16
  · rw [if_pos z16]
    exact br_0 (mc := 115) (mm := 257) h hxr hn hi (⟨(unZ Z).1, (unZ Z).2, unZ_I I, fun S h => OwC_k (un_c h (d + 91)), fun S h => OwM_k (un_m h I (d + 91))⟩)
  rw [if_neg z16]
  by_cases z17 : op = 17
  · rw [if_pos z17]
    exact br_1 (mc := 116) (mm := 273) h hxr hn hi (fun a1 => ⟨atZ Z a1, Z, I, fun S h => OwC_k (at_c h I a1 (d + 91)), fun S h => OwM_k (at_m h I a1 (d + 91))⟩)
  rw [if_neg z17]
  by_cases z18 : op = 18
  · rw [if_pos z18]
    exact br_2 (mc := 117) (mm := 274) h hxr hn hi (fun a1 a2 => ⟨paZ Z a1 a2, Z, I, fun S h => OwC_k (pa_c h a1 a2 (d + 91)), fun S h => OwM_k (pa_m' h I a1 a2 (d + 91))⟩)
  rw [if_neg z18]
  by_cases z19 : op = 19
  · rw [if_pos z19]
    exact br_2 (mc := 118) (mm := 275) h hxr hn hi (fun a1 a2 => ⟨veZ Z a1 a2, Z, I, fun S h => OwC_k (ve_c h I a1 a2 (d + 91)), fun S h => OwM_k (ve_m h I a1 a2 (d + 91))⟩)
  rw [if_neg z19]
  by_cases z20 : op = 20
  · rw [if_pos z20]
    exact br_2 (mc := 119) (mm := 276) h hxr hn hi (fun a1 a2 => ⟨frmZ Z a1 a2, Z, I, fun S h => OwC_k (frm_c h a1 a2 (d + 91)), fun S h => OwM_k (frm_m h a1 a2 (d + 91))⟩)
  rw [if_neg z20]
  by_cases z21 : op = 21
  · rw [if_pos z21]
    exact br_1 (mc := 120) (mm := 277) h hxr hn hi (fun a1 => ⟨isZ' Z a1, Z, I, fun S h => OwC_k (is_c h a1 (d + 91)), fun S h => OwM_k (is_m h I a1 (d + 91))⟩)
  rw [if_neg z21]
  by_cases z22 : op = 22
  · rw [if_pos z22]
    exact br_2 (mc := 121) (mm := 279) h hxr hn hi (fun a1 a2 => ⟨boZ Z a1 a2, Z, I, fun S h => OwC_k (bo_c h I a1 a2 (d + 91)), fun S h => OwM_k (bo_m h I a1 a2 (d + 91))⟩)
  rw [if_neg z22]
  by_cases z23 : op = 23
  · rw [if_pos z23]
    exact br_2 (mc := 122) (mm := 283) h hxr hn hi (fun a1 a2 => ⟨foZ Z a1 a2, Z, I, fun S h => OwC_k (foZ_c h I a1 a2 (d + 91)), fun S h => OwM_k (foZ_m h I a1 a2 (d + 91))⟩)
  rw [if_neg z23]
  by_cases z24 : op = 24
  · rw [if_pos z24]
    exact br_2 (mc := 123) (mm := 285) h hxr hn hi (fun a1 a2 => ⟨clZ Z a1 a2, Z, I, fun S h => OwC_k (cl_c h I a1 a2 (d + 91)), fun S h => OwM_k (cl_m h I a1 a2 (d + 91))⟩)
  rw [if_neg z24]
  by_cases z25 : op = 25
  · rw [if_pos z25]
    exact br_2 (mc := 124) (mm := 286) h hxr hn hi (fun a1 a2 => ⟨caZ Z a1 a2, Z, I, fun S h => OwC_k (ca_c h I a1 a2 (d + 91)), fun S h => OwM_k (ca_m h I a1 a2 (d + 91))⟩)
  rw [if_neg z25]
  by_cases z26 : op = 26
  · rw [if_pos z26]
    have n1 : inb (nI i + 1) S.2.2.1 = true := i_n (k := 1) hn hi (by decide)
    have n2 : inb (nI i + 2) S.2.2.1 = true := i_n (k := 2) hn hi (by decide)
    have n3 : inb (nI i + 3) S.2.2.1 = true := i_n (k := 3) hn hi (by decide)
    rw [n1, gd_t, n2, gd_t, n3, gd_t]
    by_cases y : S.2.2.2 (ix (nI i + 3)) = 0
    · rw [if_pos y]; exact st_26 h hxr hn hi 0 (if_pos y).symm
    · rw [if_neg y]; exact st_26 h hxr hn hi 1 (if_neg y).symm
  rw [if_neg z26]
  by_cases z27 : op = 27
  · rw [if_pos z27]
    have n1 : inb (nI i + 1) S.2.2.1 = true := i_n (k := 1) hn hi (by decide)
    rw [n1, gd_t]
    by_cases y : S.2.2.2 (ix (nI i + 1)) = 0
    · rw [if_pos y]; exact st_27 h hxr hn hi 0 (if_pos y).symm
    · rw [if_neg y]; exact st_27 h hxr hn hi 1 (if_neg y).symm
  rw [if_neg z27]
  by_cases z28 : op = 28
  · rw [if_pos z28]
    exact br_0 (mc := 127) (mm := 296) h hxr hn hi (⟨nI (mostN Z), Z, I, fun S h => OwC_k (mst_c h I (d + 91)), fun S h => OwM_k (mst_m h I (d + 91))⟩)
  rw [if_neg z28]
  by_cases z29 : op = 29
  · rw [if_pos z29]
    exact br_1 (mc := 128) (mm := 299) h hxr hn hi (fun a1 => ⟨mateZ Z a1, Z, I, fun S h => OwC_k (ma_c h I a1 (d + 91)), fun S h => OwM_k (ma_m h I a1 (d + 91))⟩)
  rw [if_neg z29]
  by_cases z30 : op = 30
  · rw [if_pos z30]
    exact br_0 (mc := 129) (mm := 301) h hxr hn hi (⟨nI (fewN Z), Z, I, fun S h => OwC_k (few_c h I (d + 70)), fun S h => OwM_k (few_m h I (d + 70))⟩)
  rw [if_neg z30]
  by_cases z31 : op = 31
  · rw [if_pos z31]
    exact br_0 (mc := 130) (mm := 284) h hxr hn hi (⟨woZ Z, Z, I, fun S h => OwC_k (wo_c h I (d + 91)), fun S h => OwM_k (wo_m h I (d + 91))⟩)
  rw [if_neg z31]
  by_cases z32 : op = 32
  · rw [if_pos z32]
    exact br_0 (mc := 131) (mm := 287) h hxr hn hi (⟨aSparse (zA Z), Z, I, fun S h => OwC_k (spa_c h (d + 91)), fun S h => OwM_k (spa_m h I (d + 91))⟩)
  rw [if_neg z32]
  by_cases z33 : op = 33
  · rw [if_pos z33]
    exact br_1 (mc := 132) (mm := 302) h hxr hn hi (fun a1 => ⟨ruZ Z a1, Z, I, fun S h => OwC_k (ru_c h I a1 (d + 91)), fun S h => OwM_k (ru_m h I a1 (d + 91))⟩)
  rw [if_neg z33]
  by_cases z34 : op = 34
  · rw [if_pos z34]
    exact br_1 (mc := 133) (mm := 303) h hxr hn hi (fun a1 => ⟨loZ Z a1, Z, I, fun S h => OwC_k (lo_c h I a1 (d + 91)), fun S h => OwM_k (lo_m h I a1 (d + 91))⟩)
  rw [if_neg z34]
  by_cases z35 : op = 35
  · rw [if_pos z35]
    exact br_3 (mc := 134) (mm := 304) h hxr hn hi (fun a1 a2 a3 => ⟨fiZ Z a1 a2 a3, Z, I, fun S h => OwC_k (fi_c h I a1 a2 a3 (d + 91)), fun S h => OwM_k (fi_m h I a1 a2 a3 (d + 91))⟩)
  rw [if_neg z35]
  by_cases z36 : op = 36
  · rw [if_pos z36]
    exact br_2 (mc := 135) (mm := 305) h hxr hn hi (fun a1 a2 => ⟨saZ Z a1 a2, Z, I, fun S h => OwC_k (sa_c h I a1 a2 (d + 91)), fun S h => OwM_k (sa_m h I a1 a2 (d + 91))⟩)
  rw [if_neg z36]
  by_cases z37 : op = 37
  · rw [if_pos z37]
    exact br_1 (mc := 136) (mm := 306) h hxr hn hi (fun a1 => ⟨suZ Z a1, Z, I, fun S h => OwC_k (su_c h I a1 (d + 91)), fun S h => OwM_k (su_m h I a1 (d + 91))⟩)
  rw [if_neg z37]
  by_cases z38 : op = 38
  · rw [if_pos z38]
    exact br_1 (mc := 137) (mm := 307) h hxr hn hi (fun a1 => ⟨hoZ Z a1, Z, I, fun S h => OwC_k (ho_c h I a1 (d + 91)), fun S h => OwM_k (ho_m h I a1 (d + 91))⟩)
  rw [if_neg z38]
  by_cases z39 : op = 39
  · rw [if_pos z39]
    exact br_0 (mc := 138) (mm := 308) h hxr hn hi (⟨oI (fuN Z 12), Z, I, fun S h => OwC_k (fu_c h I (d + 91)), fun S h => OwM_k (fu_m h I (d + 91))⟩)
  rw [if_neg z39]
  by_cases z40 : op = 40
  · rw [if_pos z40]
    exact br_0 (mc := 139) (mm := 310) h hxr hn hi (⟨soZ Z, Z, I, fun S h => OwC_k (so_c h I (d + 91)), fun S h => OwM_k (so_m h I (d + 91))⟩)
  rw [if_neg z40]
  by_cases z41 : op = 41
  · rw [if_pos z41]
    exact br_0 (mc := 140) (mm := 311) h hxr hn hi (⟨nI (prN (zL Z) (zA Z)), Z, I, fun S h => OwC_k (prb_c h I (d + 91)), fun S h => OwM_k (prb_m h I (d + 91))⟩)
  rw [if_neg z41]
  by_cases z42 : op = 42
  · rw [if_pos z42]
    exact br_2 (mc := 141) (mm := 312) h hxr hn hi (fun a1 a2 => ⟨b2i (msB Z a1 a2), Z, I, fun S h => OwC_k (ms_c h I a1 a2 (d + 91)), fun S h => OwM_k (ms_m h I a1 a2 (d + 91))⟩)
  rw [if_neg z42]
  by_cases z43 : op = 43
  · rw [if_pos z43]
    exact br_3 (mc := 142) (mm := 313) h hxr hn hi (fun a1 a2 a3 => ⟨sdV Z a1 a2 a3, sdS Z a1 a2 a3, sd_I I a1 a2 a3, fun S h => sd_c h I a1 a2 a3 (d + 100), fun S h => sd_m h I a1 a2 a3 (d + 99)⟩)
  rw [if_neg z43]
  by_cases z44 : op = 44
  · rw [if_pos z44]
    exact br_0 (mc := 143) (mm := 314) h hxr hn hi (⟨nI (whN Z (zT Z)), Z, I, fun S h => OwC_k (wh_c h I (d + 91)), fun S h => OwM_k (wh_m h I (d + 91))⟩)
  rw [if_neg z44]
  by_cases z45 : op = 45
  · rw [if_pos z45]
    exact br_1 (mc := 144) (mm := 280) h hxr hn hi (fun a1 => ⟨leZ Z a1, Z, I, fun S h => OwC_k (le_c h I a1 (d + 91)), fun S h => OwM_k (le_m h I a1 (d + 91))⟩)
  rw [if_neg z45]
  by_cases z46 : op = 46
  · rw [if_pos z46]
    exact br_0 (mc := 145) (mm := 315) h hxr hn hi (⟨zA Z 0 0, imS Z, im_I I, fun S h => im_c h I (d + 91), fun S h => im_m h I (d + 91)⟩)
  rw [if_neg z46]
  by_cases z47 : op = 47
  · rw [if_pos z47]
    exact br_0 (mc := 146) (mm := 316) h hxr hn hi (⟨zA (baS Z) 0 0, baS Z, ba_I I, fun S h => ba_c h I (d + 91), fun S h => ba_m h I (d + 91)⟩)
  rw [if_neg z47]
  by_cases z48 : op = 48
  · rw [if_pos z48]
    exact br_1 (mc := 147) (mm := 317) h hxr hn hi (fun a1 => ⟨abZ Z a1, Z, I, fun S h => OwC_k (ab_c h a1 (d + 91)), fun S h => OwM_k (ab_m h I a1 (d + 91))⟩)
  rw [if_neg z48]
  exact ⟨S, Z, h, rfl, st_e S⟩
theorem lw_loop (hx : x + 1100 < 2 ^ 31) (hxr : x + 524 ≤ r) : ∀ (m i : Nat) (S : Mem) (Z : Zs), Jn x r S Z → S.2.2.1 < 2 ^ 31 → S.2.2.1 < i + m → i ≤ S.2.2.1 → ∃ S', ev (d + 101) 320 18 [vR 40 w, vR 7 x, vR 8 r, vI (nI i)] [] S = some (some (vI 1), S') := by
  intro m
  induction m with
  | zero => intro i S Z h hn h1 h2; omega
  | succ m ih =>
    intro i S Z h hn h1 h2
    by_cases hi : i + 6 ≤ S.2.2.1
    · obtain ⟨S2, Z2, J, g, e⟩ := st_all (d := d) (w := w) h hx hxr hn hi
      obtain ⟨S', e'⟩ := ih (i + 6) S2 Z2 J (by rw [g]; exact hn) (by rw [g]; omega) (by rw [g]; exact hi)
      exact ⟨S', e.trans e'⟩
    · have hend : nI S.2.2.1 - 6 < nI i := by
        rcases Nat.lt_or_ge S.2.2.1 6 with y | y
        · have key : ∀ k : Fin 6, nI k.1 - 6 < 0 := by decide
          have k0 := key ⟨S.2.2.1, y⟩
          have k1 : (0 : Int32) ≤ nI i := nI_le (a := 0) (Nat.zero_le _) (by omega)
          have k0 : nI S.2.2.1 - 6 < 0 := k0
          exact Int32.lt_of_lt_of_le k0 k1
        · rw [show nI S.2.2.1 - 6 = nI (S.2.2.1 - 6) from pk_sub y, nI_ltI (by omega) (by omega)]; omega
      refine ⟨S, ?_⟩
      rw [show d + 101 = (d + 100) + 1 by omega, B_L_law_18, if_pos hend, gd_p isZ_1]
end LW_
