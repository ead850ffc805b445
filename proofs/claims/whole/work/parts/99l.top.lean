/-! a law's sum, at the top: class and reference -/
theorem CFa_f {b : Nat → Nat} {n law mid D o i f k : Nat} (H : CFa b n law mid D o i f k) (hn : n ≤ 300) (hl : law < 2) (hi : i ≤ tN b n) : 0 < f ∧ f < 100 := by
  have hN := tN_le b n
  obtain ⟨S', -, C, -⟩ := H 0 5 0 (fun a j => if a = 0 then (if j = 1 then nI n else if j = 2 then 0 else if j = 3 then -1 else if j = 7 then nI (tN b n) else if j = 8 then nI i else if j = 9 then nI law else if j = 10 then nI 5 else 0) else if a = 2 then nI (tK b n j) else if a = 3 then nI (tV b n j) else if a = 4 then nI (tP b n j) else 0, (fun _ _ => 0, (0, fun _ => 0))) ⟨⟨rfl, fun j _ => ⟨rfl, rfl, rfl⟩⟩, hn, rfl, rfl, rfl, rfl, hi, rfl, hl, rfl, by decide, by decide, rfl⟩ (Nat.zero_le _) D (Nat.le_refl _)
  exact ⟨C.2.2.2.1, C.2.2.2.2.1⟩
def SOk (b : Nat → Nat) (n law i j : Nat) (v : Env → Int) : Prop := ∀ (r T w : Nat) (S : Mem), RT b n r i S → rdI S r 12 = nI (681 * T) → T < 4 → rdI S r 13 = nI w → rdI S r 14 = nI law → w ≤ i → ∀ d, ∃ S' w', cal (d + 9) 206 [vR 8 r] S = some (some (vI 0), S') ∧ RT b n r j S' ∧ rdI S' r 13 = nI w' ∧ w < w' ∧ w' ≤ j ∧ FrW r T w S S' ∧ RD (alL law) (co_ T r S') (vl_ T r S') w w' v
def SFa (b : Nat → Nat) (n law i f k : Nat) : Prop := ∀ (r T w : Nat) (S : Mem), RT b n r i S → rdI S r 12 = nI (681 * T) → T < 4 → rdI S r 13 = nI w → rdI S r 14 = nI law → w ≤ i → ∀ d, ∃ S', cal (d + 9) 206 [vR 8 r] S = some (some (vI (nI f)), S') ∧ rdI S' r 8 = nI (tP b n k) ∧ FrW r T 0 S S'
section AI_
variable {b : Nat → Nat} {n law : Nat}
def su0 (r : Nat) (S : Mem) : Mem := wrI (wrI (wrI S r 16 0) r 17 0) r 18 0
theorem su_e (d r : Nat) (S : Mem) : cal (d + 9) 206 [vR 8 r] S = LA r d (su0 r S) := by
  rw [B_X8_summed, gd_p isZ_0]; rfl
theorem su_F {r T w : Nat} {S : Mem} : FrW r T w S (su0 r S) := FrW_t (FrW_w (w := w) (by unfold Wr; omega)) (FrW_t (FrW_w (w := w) (by unfold Wr; omega)) (FrW_w (w := w) (by unfold Wr; omega)) (Nat.le_refl _)) (Nat.le_refl _)
theorem su_R {r T w i : Nat} {S : Mem} (h : RT b n r i S) (e12 : rdI S r 12 = nI (681 * T)) (hT : T < 4) (e13 : rdI S r 13 = nI w) (e14 : rdI S r 14 = nI law) (hl : law < 2) (hw : w ≤ i) (hi : i ≤ tN b n) : RC b n law r T i [] 0 0 w (su0 r S) := by
  refine ⟨RT_w (RT_w (RT_w h (by omega) (by omega)) (by omega) (by omega)) (by omega) (by omega), ?_, trivial, ?_, ?_, ?_, ?_, hT, ?_, hl, by rw [List.length_nil]; omega, hi, by omega⟩
  · unfold su0
    rw [rdI_wrI, if_neg (by omega), rdI_wrI, if_neg (by omega), rdI_wrI, if_pos ⟨rfl, rfl⟩]; rfl
  · unfold su0
    rw [rdI_wrI, if_neg (by omega), rdI_wrI, if_pos ⟨rfl, rfl⟩]; rfl
  · unfold su0
    rw [rdI_wrI, if_pos ⟨rfl, rfl⟩]
  · unfold su0
    rw [rdI_wrI, if_neg (by omega), rdI_wrI, if_neg (by omega), rdI_wrI, if_neg (by omega)]; exact e13
  · unfold su0
    rw [rdI_wrI, if_neg (by omega), rdI_wrI, if_neg (by omega), rdI_wrI, if_neg (by omega)]; exact e12
  · unfold su0
    rw [rdI_wrI, if_neg (by omega), rdI_wrI, if_neg (by omega), rdI_wrI, if_neg (by omega)]; exact e14
theorem CxS_0 {i : Nat} : CxS b n 0 i [] := ⟨Nat.le_refl _, by omega, by decide, fun _ => rfl⟩
theorem su_ok {i j : Nat} {v : Env → Int} (hl : law < 2) (hi : i ≤ tN b n) (hj : ¬ (31 ≤ tK b n j ∧ tK b n j ≤ 34)) (H : RPn b n law RDz (CxS b n 0 i) Ri 2 5 0 i j v) : SOk b n law i j v := by
  intro r T w S h e12 hT e13 e14 hw d
  obtain ⟨S1, S0, Q, o1, w1, w', g0, g1, g2, g3, g4, g5, g6, g7, g8, g9, g10, -⟩ := H r T w [] _ (su_R h e12 hT e13 e14 hl hw hi) hw CxS_0 d
  have eo : opN (Q ++ []) = -1 := by rw [opN_a (fun q hq => by have := g3 q hq; omega)]; rfl
  have en : LA r d S1 = some (some (vI 0), S0) := la_en g1 (by rw [List.length_append, List.length_nil]; omega) (by unfold btV; rw [if_neg hj, eo, if_neg (by decide)]) eo (g4 1 S0 (by omega) (by omega) (stl_0 g5))
  exact ⟨S0, w', by rw [su_e, g0, en], g5.1, g5.2.2.2.2.2.1, g7, g6, FrW_t su_F g9 (Nat.le_refl _), g10⟩
theorem su_fa {i f k : Nat} (hl : law < 2) (hi : i ≤ tN b n) (H : RFk b n law (CxS b n 0 i) 0 i f k) : SFa b n law i f k := by
  intro r T w S h e12 hT e13 e14 hw d
  obtain ⟨S', e, k8, fr⟩ := H r T w [] _ (su_R h e12 hT e13 e14 hl hw hi) hw CxS_0 d
  exact ⟨S', by rw [su_e, e], k8, FrW_t (su_F (w := 0)) fr (Nat.le_refl _)⟩
/-- a law read from its first token on -/
def LwS (b : Nat → Nat) (n law i : Nat) : Prop := (∃ j v, i < j ∧ j ≤ tN b n ∧ COk b n law 71 63 0 i j 3 v ∧ SOk b n law i j v) ∨ (∃ f k, 0 < f ∧ f < 100 ∧ CFa b n law 71 63 0 i f k ∧ SFa b n law i f k)
theorem lw_all {i : Nat} (hn : n ≤ 300) (hl : law < 2) (hi : i ≤ tN b n) : LwS b n law i := by
  rcases sum_all (b := b) (n := n) (law := law) hi with ⟨j, v, h1, h2, h3, -, h4, h5⟩ | ⟨f, k, h4, h5⟩
  · exact Or.inl ⟨j, v, h1, h2, h4, su_ok hl hi (EnS_n h3) h5⟩
  · obtain ⟨f1, f2⟩ := CFa_f h4 hn hl hi
    exact Or.inr ⟨f, k, f1, f2, h4, su_fa hl hi h5⟩
end AI_
