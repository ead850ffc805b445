/-! the class's search for the fewest groups -/
def CoS (lv : Nat → Nat) (t n L F : Nat) (S : Mem) : Prop := n ≤ 12 ∧ F ≤ 12 ∧ L < 2 ^ 31 ∧ rdI S t 0 = nI n ∧ rdI S t 1 = nI F ∧ rdI S t 2 = nI L ∧ ∀ j, j < n → rdI S (t + 2) j = nI (lv j) ∧ lv j < 65536
def GrS (t u : Nat) (G : Nat → Nat) (S : Mem) : Prop := ∀ g, g < u → rdI S (t + 3) g = nI (G g) ∧ G g < 65536
def FrO (t : Nat) (S S' : Mem) : Prop := (∀ c, ¬ c = t → ¬ c = t + 3 → rdI S' c = rdI S c) ∧ (∀ i, ¬ i = 1 → rdI S' t i = rdI S t i) ∧ S'.2 = S.2
theorem FrO_r {t : Nat} {S : Mem} : FrO t S S := ⟨fun _ _ _ => rfl, fun _ _ => rfl, rfl⟩
theorem FrO_t {t : Nat} {S S1 S2 : Mem} (h : FrO t S S1) (h2 : FrO t S1 S2) : FrO t S S2 := ⟨fun c a b => (h2.1 c a b).trans (h.1 c a b), fun i hi => (h2.2.1 i hi).trans (h.2.1 i hi), h2.2.2.trans h.2.2⟩
theorem FrO_3 {t i : Nat} {v : Int32} {S : Mem} : FrO t S (wrI S (t + 3) i v) := ⟨fun c _ h => funext fun b => by rw [rdI_wrI, if_neg (fun z => h z.1)], fun i _ => by rw [rdI_wrI, if_neg (by omega)], rfl⟩
theorem FrO_1 {t : Nat} {v : Int32} {S : Mem} : FrO t S (wrI S t 1 v) := ⟨fun c h _ => funext fun b => by rw [rdI_wrI, if_neg (fun z => h z.1)], fun i hi => by rw [rdI_wrI, if_neg (fun z => hi z.2)], rfl⟩
theorem CoS_k {lv : Nat → Nat} {t n L F F' : Nat} {S S' : Mem} (h : CoS lv t n L F S) (f : FrO t S S') (e : rdI S' t 1 = nI F') (hF : F' ≤ 12) : CoS lv t n L F' S' := by
  obtain ⟨h1, h2, h3, h4, h5, h6, h7⟩ := h
  exact ⟨h1, hF, h3, by rw [f.2.1 0 (by decide)]; exact h4, e, by rw [f.2.1 2 (by decide)]; exact h6, fun j hj => by rw [f.1 (t + 2) (by omega) (by omega)]; exact h7 j hj⟩
theorem rest_b {a b : Nat} (ha : a < 65536) (hb : b < 65536) (h : a &&& b = 0) : nI (a ||| b) &&& (nI b ^^^ -1) = nI a := by
  have e1 : (-1 : Int32) = nI 4294967295 := by decide
  have ho : a ||| b < 2 ^ 16 := Nat.or_lt_two_pow ha hb
  rw [e1, nI_xor, nI_and]
  congr 1
  refine Nat.eq_of_testBit_eq (fun k => ?_)
  rw [andn_b ho, Nat.testBit_or]
  have hk := nat_0.mp h k
  rw [Nat.testBit_and] at hk
  cases g : a.testBit k <;> cases g2 : b.testBit k
  · rfl
  · rfl
  · rfl
  · rw [g, g2] at hk; cases hk
theorem and_z {a b : Nat} (ha : a < 65536) : nI a &&& nI b = 0 ↔ a &&& b = 0 := by
  have hl : a &&& b ≤ a := Nat.and_le_left
  rw [nI_and]
  exact nI_eq (b := 0) (by omega) (by decide)
def PlQ (lv : Nat → Nat) (n i u L : Nat) (G : Nat → Nat) (F F' : Nat) : Prop := F' ≤ F ∧ (F' = F ∨ Ext lv n i u G F') ∧ ((∀ k, k < F' → ¬ Ext lv n i u G k) ∨ F' ≤ L)
theorem place_c {lv : Nat → Nat} {t n L : Nat} (d : Nat) : ∀ (m i u : Nat) (S : Mem) (F : Nat) (G : Nat → Nat), i + m = n → u ≤ i → CoS lv t n L F S → GrS t u G S → ∃ S' F', cal (d + m + 1) 4 [vR 0 t, vI (nI i), vI (nI u)] S = some (none, S') ∧ CoS lv t n L F' S' ∧ GrS t u G S' ∧ FrO t S S' ∧ PlQ lv n i u L G F F' := by
  intro m
  induction m with
  | zero =>
    intro i u S F G hi hu hC hG
    obtain ⟨h1, h2, h3, h4, h5, h6, h7⟩ := hC
    have hin : i = n := by omega
    rw [B_X0_place, h5, h6, h4]
    by_cases z : F ≤ u
    · rw [if_pos (nI_le z (by omega))]
      exact ⟨S, F, rfl, ⟨h1, h2, h3, h4, h5, h6, h7⟩, hG, FrO_r, Nat.le_refl _, Or.inl rfl, Or.inl (fun k hk he => by have := he.1; omega)⟩
    · rw [if_neg (nI_ge (by omega) (by omega))]
      by_cases y : L < F
      · rw [if_pos (nI_lt y (by omega)), if_pos (nI_le (by omega) (by omega))]
        refine ⟨_, u, rfl, CoS_k ⟨h1, h2, h3, h4, h5, h6, h7⟩ FrO_1 (by rw [rdI_wrI, if_pos ⟨rfl, rfl⟩]) (by omega), fun g hg => by rw [rdI_wrI, if_neg (by omega)]; exact hG g hg, FrO_1, by omega, Or.inr (by rw [hin]; exact Ext_n lv n u G), Or.inl (fun k hk he => by have := he.1; omega)⟩
      · rw [if_neg (fun w => y ((nI_ltI (by omega) (by omega)).mp w))]
        exact ⟨S, F, rfl, ⟨h1, h2, h3, h4, h5, h6, h7⟩, hG, FrO_r, Nat.le_refl _, Or.inl rfl, Or.inr (by omega)⟩
  | succ m ih =>
    intro i u S F G hi hu hC hG
    have hC' := hC
    obtain ⟨h1, h2, h3, h4, h5, h6, h7⟩ := hC
    have hin : i < n := by omega
    rw [show d + (m + 1) + 1 = (d + m + 1) + 1 by omega, B_X0_place, h5, h6, h4]
    by_cases z : F ≤ u
    · rw [if_pos (nI_le z (by omega))]
      exact ⟨S, F, rfl, hC', hG, FrO_r, Nat.le_refl _, Or.inl rfl, Or.inl (fun k hk he => by have := he.1; omega)⟩
    · rw [if_neg (nI_ge (by omega) (by omega))]
      by_cases y : L < F
      · rw [if_pos (nI_lt y (by omega)), if_neg (nI_ge hin (by omega)), if_pos (show nI i < 12 from nI_lt (b := 12) (by omega) (by decide))]
        have lp_ : ∀ g, g ≤ u → ∃ S1 F1, ev ((d + m + 1) + 1) 4 42 [vR 0 t, vI (nI i), vI (nI u), vI 0] [] S = ev ((d + m + 1) + 1) 4 42 [vR 0 t, vI (nI i), vI (nI u), vI (nI g)] [] S1 ∧ CoS lv t n L F1 S1 ∧ GrS t u G S1 ∧ FrO t S S1 ∧ F1 ≤ F ∧ (F1 = F ∨ Ext lv n i u G F1) ∧ ((∀ k, k < F1 → ∀ g', g' < g → G g' &&& lv i = 0 → ¬ Ext lv n (i + 1) u (upf G g' (G g' ||| lv i)) k) ∨ F1 ≤ L) := by
          intro g
          induction g with
          | zero => intro _; exact ⟨S, F, rfl, hC', hG, FrO_r, Nat.le_refl _, Or.inl rfl, Or.inl (fun k _ g' hg' => absurd hg' (Nat.not_lt_zero _))⟩
          | succ g ihg =>
            intro hg
            obtain ⟨S1, F1, e, c1, g1, f1, q1, q2, q3⟩ := ihg (by omega)
            obtain ⟨r1, r2⟩ := g1 g (by omega)
            obtain ⟨l1, l2⟩ := c1.2.2.2.2.2.2 i hin
            rw [e, B_X0_place_42, if_neg (nI_ge (a := g) (b := u) (by omega) (by omega)), inb_t (by omega) (by decide), gd_t, inb_t (by omega) (by decide), gd_t, ix_nI (by omega), ix_nI (by omega), r1, l1, nI_1, nI_1]
            by_cases hz : G g &&& lv i = 0
            · have ho : G g ||| lv i < 65536 := Nat.or_lt_two_pow (n := 16) r2 l2
              have c2 : CoS lv t n L F1 (wrI S1 (t + 3) g (nI (G g) ||| nI (lv i))) := CoS_k c1 FrO_3 (by rw [rdI_wrI, if_neg (by omega)]; exact c1.2.2.2.2.1) c1.2.1
              have g2 : GrS t u (upf G g (G g ||| lv i)) (wrI S1 (t + 3) g (nI (G g) ||| nI (lv i))) := fun x hx => by
                by_cases w : x = g
                · rw [rdI_wrI, if_pos ⟨rfl, w⟩, w, upf_s, nI_or]; exact ⟨rfl, ho⟩
                · rw [rdI_wrI, if_neg (fun y => w y.2), upf_n w]; exact g1 x hx
              obtain ⟨S2, F2, e2, c3, g3, f3, p1, p2, p3⟩ := ih (i + 1) u _ F1 _ (by omega) (by omega) c2 g2
              obtain ⟨r3, -⟩ := g3 g (by omega)
              rw [upf_s] at r3
              obtain ⟨l3, -⟩ := c3.2.2.2.2.2.2 i hin
              rw [if_pos ((and_z r2).mpr hz), gd_t, gd_t, gd_t, e2, bV_s, gd_t, gd_t, gd_t, r3, l3, rest_b r2 l2 hz]
              refine ⟨_, F2, rfl, CoS_k c3 FrO_3 (by rw [rdI_wrI, if_neg (by omega)]; exact c3.2.2.2.2.1) c3.2.1, fun x hx => ?_, FrO_t f1 (FrO_t FrO_3 (FrO_t f3 FrO_3)), by omega, ?_, ?_⟩
              · by_cases w : x = g
                · rw [rdI_wrI, if_pos ⟨rfl, w⟩, w]; exact ⟨rfl, r2⟩
                · obtain ⟨r4, -⟩ := g3 x hx
                  rw [upf_n w] at r4
                  rw [rdI_wrI, if_neg (fun y => w y.2)]; exact ⟨r4, (g1 x hx).2⟩
              · rcases p2 with w | w
                · rw [w]; exact q2
                · exact Or.inr (Ext_g (by omega) hz w)
              · rcases p3 with w | w
                · rcases q3 with v | v
                  · refine Or.inl (fun k hk g' hg' h0 => ?_)
                    by_cases x : g' = g
                    · rw [x]; exact w k hk
                    · exact v k (by omega) g' (by omega) h0
                  · exact Or.inr (by omega)
                · exact Or.inr w
            · rw [if_neg (mt (and_z r2).mp hz)]
              refine ⟨S1, F1, rfl, c1, g1, f1, q1, q2, ?_⟩
              rcases q3 with v | v
              · refine Or.inl (fun k hk g' hg' h0 => ?_)
                by_cases x : g' = g
                · rw [x] at h0; exact absurd h0 hz
                · exact v k hk g' (by omega) h0
              · exact Or.inr v
        obtain ⟨S1, F1, e, c1, g1, f1, q1, q2, q3⟩ := lp_ u (Nat.le_refl _)
        obtain ⟨l1, l2⟩ := c1.2.2.2.2.2.2 i hin
        have c2 : CoS lv t n L F1 (wrI S1 (t + 3) u (nI (lv i))) := CoS_k c1 FrO_3 (by rw [rdI_wrI, if_neg (by omega)]; exact c1.2.2.2.2.1) c1.2.1
        have g2 : GrS t (u + 1) (upf G u (lv i)) (wrI S1 (t + 3) u (nI (lv i))) := fun x hx => by
          by_cases w : x = u
          · rw [rdI_wrI, if_pos ⟨rfl, w⟩, w, upf_s]; exact ⟨rfl, l2⟩
          · rw [rdI_wrI, if_neg (fun y => w y.2), upf_n w]; exact g1 x (by omega)
        obtain ⟨S2, F2, e2, c3, g3, f3, p1, p2, p3⟩ := ih (i + 1) (u + 1) _ F1 _ (by omega) (by omega) c2 g2
        have e' : ev ((d + m + 1) + 1) 4 42 [vR 0 t, vI (nI i), vI (nI u), vI 0] [] S = some (none, S2) := by
          rw [e, B_X0_place_42, if_pos (nI_le (Nat.le_refl _) (by omega)), inb_t (by omega) (by decide), gd_t, inb_t (by omega) (by decide), gd_t, ix_nI (by omega), ix_nI (by omega), l1, nI_1, nI_1, e2, bV_s]
        rw [e']
        refine ⟨S2, F2, rfl, c3, fun x hx => ?_, FrO_t f1 (FrO_t FrO_3 f3), by omega, ?_, ?_⟩
        · obtain ⟨r4, r5⟩ := g3 x (by omega)
          rw [upf_n (by omega)] at r4 r5
          exact ⟨r4, r5⟩
        · rcases p2 with w | w
          · rw [w]; exact q2
          · exact Or.inr (Ext_w w)
        · rcases p3 with w | w
          · rcases q3 with v | v
            · refine Or.inl (fun k hk he => ?_)
              rcases Ext_c hin he with ⟨g, g1, g2, g3⟩ | hE
              · exact v k (by omega) g g1 g2 g3
              · exact w k hk hE
            · exact Or.inr (by omega)
          · exact Or.inr w
      · rw [if_neg (fun w => y ((nI_ltI (by omega) (by omega)).mp w))]
        exact ⟨S, F, rfl, hC', hG, FrO_r, Nat.le_refl _, Or.inl rfl, Or.inr (by omega)⟩
