/-! the class's pairs: the frames with pages in a row -/
def FrP (t m : Nat) (S S' : Mem) : Prop := (∀ c, ¬ (t ≤ c ∧ c < t + m) → rdI S' c = rdI S c) ∧ S'.2 = S.2
theorem FrP_r {t m : Nat} {S : Mem} : FrP t m S S := ⟨fun _ _ => rfl, rfl⟩
theorem FrP_t {t m : Nat} {S S1 S2 : Mem} (h : FrP t m S S1) (h2 : FrP t m S1 S2) : FrP t m S S2 := ⟨fun c hc => (h2.1 c hc).trans (h.1 c hc), h2.2.trans h.2⟩
theorem FrP_w {t m c i : Nat} {v : Int32} {S : Mem} (h : t ≤ c) (h2 : c < t + m) : FrP t m S (wrI S c i v) := ⟨fun c' hc => funext fun b => by rw [rdI_wrI, if_neg (fun z => hc (by omega))], rfl⟩
def TF (Z : Zs) (t a n : Nat) (fs : Nat → Nat) (S : Mem) : Prop := n ≤ a ∧ rdI S t 0 = nI n ∧ (∀ k, k < n → rdI S (t + 1) k = nI (fs k) ∧ rdI S (t + 2) k = nI (lfN Z (fs k)) ∧ fs k < a ∧ usB Z (fs k) = true) ∧ (∀ k l, k < l → l < n → fs k < fs l) ∧ ∀ f, f < a → usB Z f = true → ∃ k, k < n ∧ fs k = f
theorem TF_inj {Z : Zs} {t a n : Nat} {fs : Nat → Nat} {S : Mem} (h : TF Z t a n fs S) : ∀ i j, i < n → j < n → fs i = fs j → i = j := fun i j hi hj e => by
  rcases Nat.lt_trichotomy i j with z | z | z
  · have := h.2.2.2.1 i j z hj; omega
  · exact z
  · have := h.2.2.2.1 j i z hi; omega
theorem tf_c {S : Mem} {t p : Nat} {Z : Zs} (hA : CP S p (zA Z)) (hp : p + 7 ≤ t) (I : ZI Z) (d : Nat) : ∃ S' n fs, cal (d + 1) 48 [vR 2 t, vR 1 p] S = some (none, S') ∧ TF Z t 12 n fs S' ∧ FrP t 3 S S' := by
  obtain ⟨u, hu, eu, hb⟩ := fUsed_ex (iF (zAI I))
  have lp_ : ∀ a, a ≤ 12 → ∃ S' n fs, ev (d + 1) 48 12 [vR 2 t, vR 1 p, vI (nI u), vI 0] [] (wrI S t 0 0) = ev (d + 1) 48 12 [vR 2 t, vR 1 p, vI (nI u), vI (nI a)] [] S' ∧ TF Z t a n fs S' ∧ FrP t 3 S S' := by
    intro a
    induction a with
    | zero =>
      intro _
      refine ⟨_, 0, fun _ => 0, rfl, ⟨Nat.le_refl 0, by rw [rdI_wrI, if_pos ⟨rfl, rfl⟩]; rfl, fun k hk => absurd hk (Nat.not_lt_zero _), fun k l _ hl => absurd hl (Nat.not_lt_zero _), fun f hf => absurd hf (Nat.not_lt_zero _)⟩, FrP_w (Nat.le_refl _) (by omega)⟩
    | succ a ih =>
      intro ha
      obtain ⟨S1, n, fs, e, ⟨h1, h2, h3, h4, h5⟩, f1⟩ := ih (by omega)
      have ha12 : a < 12 := by omega
      have t1 := bit_1 (b := u) (k := a) (by omega) (by omega)
      rw [hb a ha12] at t1
      have t1' : usB Z a = decide (shrI (nI u) (nI a) &&& 1 = 1) := t1.symm
      rw [e, B_X2_takeFrames_12, if_neg (n12 ha12), h2, nI_1]
      cases g : usB Z a
      · rw [g] at t1'
        rw [if_neg (of_decide_eq_false t1'.symm)]
        refine ⟨S1, n, fs, rfl, ⟨by omega, h2, fun k hk => ?_, h4, fun f hf hu' => ?_⟩, f1⟩
        · obtain ⟨a1, a2, a3, a4⟩ := h3 k hk
          exact ⟨a1, a2, by omega, a4⟩
        · by_cases z : f = a
          · rw [z, g] at hu'; cases hu'
          · exact h5 f (by omega) hu'
      · rw [g] at t1'
        have w0 : rdI (wrI S1 (t + 1) (ix (nI n)) (nI a)) t 0 = nI n := by rw [rdI_wrI, if_neg (by omega)]; exact h2
        have hA1 : CP (wrI S1 (t + 1) (ix (nI n)) (nI a)) p (zA Z) := CP_e hA (fun c c1 c2 => by
          have f2 := FrP_t f1 (FrP_w (m := 3) (c := t + 1) (i := ix (nI n)) (v := nI a) (by omega) (by omega))
          exact f2.1 c (by omega))
        rw [if_pos (of_decide_eq_true t1'.symm), inb_t (by omega) (by decide), gd_t, w0, inb_t (by omega) (by decide), kc_liveIn hA1, bI_s, gd_t, (lfN_e I a).2, ix_nI (by omega), rdI_wrI, if_neg (by omega), rdI_wrI, if_neg (by omega), h2, nI_1]
        refine ⟨_, n + 1, fun k => if k = n then a else fs k, rfl, ⟨by omega, ?_, fun k hk => ?_, fun k l hkl hl => ?_, fun f hf hu' => ?_⟩, FrP_t f1 (FrP_t (FrP_w (by omega) (by omega)) (FrP_t (FrP_w (by omega) (by omega)) (FrP_w (by omega) (by omega))))⟩
        · rw [rdI_wrI, if_pos ⟨rfl, rfl⟩]
        · try dsimp only
          by_cases z : k = n
          · subst z
            rw [if_pos rfl]
            refine ⟨?_, ?_, by omega, g⟩
            · rw [rdI_wrI, if_neg (by omega), rdI_wrI, if_neg (by omega), rdI_wrI, if_pos ⟨rfl, rfl⟩]
            · rw [rdI_wrI, if_neg (by omega), rdI_wrI, if_pos ⟨rfl, rfl⟩]
          · rw [if_neg z]
            obtain ⟨a1, a2, a3, a4⟩ := h3 k (by omega)
            refine ⟨?_, ?_, by omega, a4⟩
            · rw [rdI_wrI, if_neg (by omega), rdI_wrI, if_neg (by omega), rdI_wrI, if_neg (by omega)]; exact a1
            · rw [rdI_wrI, if_neg (by omega), rdI_wrI, if_neg (by omega), rdI_wrI, if_neg (by omega)]; exact a2
        · try dsimp only
          by_cases z : l = n
          · rw [if_pos z, if_neg (by omega)]
            exact (h3 k (by omega)).2.2.1
          · rw [if_neg z, if_neg (by omega)]
            exact h4 k l hkl (by omega)
        · by_cases z : f = a
          · exact ⟨n, by omega, by try dsimp only
                                   rw [if_pos rfl, z]⟩
          · obtain ⟨k, hk, ek⟩ := h5 f (by omega) hu'
            exact ⟨k, by omega, by try dsimp only
                                   rw [if_neg (by omega)]; exact ek⟩
  obtain ⟨S', n, fs, e, h, f⟩ := lp_ 12 (Nat.le_refl _)
  refine ⟨S', n, fs, ?_, h, f⟩
  rw [B_X2_takeFrames, kc_used hA, bI_s, eu, e, B_X2_takeFrames_12, if_pos y12]
