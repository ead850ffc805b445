/-! what a stretch of a text's code in the reference says -/
def EnvR (S : Mem) (r : Nat) (al : Nat → Bool) (E : Env) : Prop := (∀ n, n < 6 → al n = true → (rdI S (r + 6) n).toInt = E.1 n) ∧ (∀ p, p < 12 → (rdI S (r + 1) (11 + p) = -1 ∧ E.2.1 p = 0 ∧ E.2.2 p = 0) ∨ (¬ rdI S (r + 1) (11 + p) = -1 ∧ (∃ k : Nat, k < 65536 ∧ rdI S (r + 1) (23 + p) = nI k ∧ (pop k : Int) = E.2.1 p) ∧ (1 + rdI S (r + 1) (11 + p)).toInt = E.2.2 p))
def AtR (S : Mem) (r cb : Nat) (co vl : Nat → Int32) (i j : Nat) : Prop := ∀ x, i ≤ x → x < j → rdI S (r + 3) (cb + 2 * x) = co x ∧ rdI S (r + 3) (cb + 2 * x + 1) = vl x
def WkR (S : Mem) (r : Nat) (al : Nat → Bool) (E : Env) (x cb en : Nat) : Prop := EOK E ∧ EnvR S r al E ∧ x + 2 < 2724 ∧ rdI S (r + 3) (x + 2) = nI en ∧ cb + 2 * en ≤ 2724
noncomputable def lr (d r x cb n tr i : Nat) (u1 u2 u8 u9 : AV) (S : Mem) : Option Res := ev (d + 2) 222 38 [vR 8 r, u1, u2, vI (nI x), vI (nI cb), vI (nI n), vI (nI tr), vI (nI i), u8, u9] [] S
def KpR (r n tr : Nat) (S S' : Mem) : Prop := (∀ x, x < n → rdJ S' (r + 7) x = rdJ S (r + 7) x) ∧ (∀ x, x < tr → rdI S' (r + 8) x = rdI S (r + 8) x) ∧ (∀ c, ¬ c = r + 8 → rdI S' c = rdI S c) ∧ S'.2.2 = S.2.2
theorem KpR_r {r n tr : Nat} {S : Mem} : KpR r n tr S S := ⟨fun _ _ => rfl, fun _ _ => rfl, fun _ _ => rfl, rfl⟩
theorem KpR_t {r n tr : Nat} {S S1 S2 : Mem} (h : KpR r n tr S S1) (h2 : KpR r n tr S1 S2) : KpR r n tr S S2 := ⟨fun x hx => (h2.1 x hx).trans (h.1 x hx), fun x hx => (h2.2.1 x hx).trans (h.2.1 x hx), fun c hc => (h2.2.2.1 c hc).trans (h.2.2.1 c hc), h2.2.2.2.trans h.2.2.2⟩
theorem KpR_m {r n tr n' tr' : Nat} {S S' : Mem} (h : KpR r n tr S S') (h1 : n' ≤ n) (h2 : tr' ≤ tr) : KpR r n' tr' S S' := ⟨fun x hx => h.1 x (by omega), fun x hx => h.2.1 x (by omega), h.2.2⟩
theorem KpR_J (r : Nat) {n tr k : Nat} (S : Mem) (v : Int64) (h : n ≤ k) : KpR r n tr S (wrJ S (r + 7) k v) := ⟨fun x hx => by rw [rdJ_wrJ, if_neg (by omega)], fun _ _ => rfl, fun _ _ => rfl, rfl⟩
theorem KpR_I (r : Nat) {n tr k : Nat} (S : Mem) (v : Int32) (h : tr ≤ k) : KpR r n tr S (wrI S (r + 8) k v) := ⟨fun _ _ => rfl, fun x hx => by rw [rdI_wrI, if_neg (by omega)], fun c hc => funext fun b => by rw [rdI_wrI, if_neg (fun z => hc z.1)], rfl⟩
theorem WkR_k {S S' : Mem} {r : Nat} {al : Nat → Bool} {E : Env} {x cb en n tr : Nat} (h : WkR S r al E x cb en) (k : KpR r n tr S S') : WkR S' r al E x cb en := by
  obtain ⟨h1, ⟨h2, h3⟩, h4, h5, h6⟩ := h
  refine ⟨h1, ⟨fun n hn ha => ?_, fun p hp => ?_⟩, h4, ?_, h6⟩
  · rw [k.2.2.1 _ (by omega)]; exact h2 n hn ha
  · rw [k.2.2.1 _ (by omega)]; exact h3 p hp
  · rw [k.2.2.1 _ (by omega)]; exact h5
theorem AtR_k {S S' : Mem} {r cb n tr : Nat} {co vl : Nat → Int32} {i j : Nat} (h : AtR S r cb co vl i j) (k : KpR r n tr S S') : AtR S' r cb co vl i j := fun x h1 h2 => by
  rw [k.2.2.1 _ (by omega)]; exact h x h1 h2
theorem AtR_s {S : Mem} {r cb : Nat} {co vl : Nat → Int32} {i j i' j' : Nat} (h : AtR S r cb co vl i j) (h1 : i ≤ i') (h2 : j' ≤ j) : AtR S r cb co vl i' j' := fun x h3 h4 => h x (by omega) (by omega)
def RD (al : Nat → Bool) (co vl : Nat → Int32) (i j : Nat) (v : Env → Int) : Prop := i < j ∧ (∀ E, EOK E → bd6 (v E)) ∧ ∀ (d r : Nat) (S : Mem) (E : Env) (x cb en n tr : Nat) (u1 u2 u8 u9 : AV), WkR S r al E x cb en → AtR S r cb co vl i j → j ≤ en → n + (j - i) ≤ 330 → tr + (j - i) ≤ 330 → ∃ S' v1 v2 v8 v9, lr d r x cb n tr i u1 u2 u8 u9 S = lr d r x cb (n + 1) tr j v1 v2 v8 v9 S' ∧ (rdJ S' (r + 7) n).toInt = v E ∧ KpR r n tr S S'
def RB (al : Nat → Bool) (co vl : Nat → Int32) (i j : Nat) (v : Env → Bool) : Prop := i < j ∧ ∀ (d r : Nat) (S : Mem) (E : Env) (x cb en n tr : Nat) (u1 u2 u8 u9 : AV), WkR S r al E x cb en → AtR S r cb co vl i j → j ≤ en → n + (j - i) ≤ 330 → tr + (j - i) ≤ 330 → ∃ S' v1 v2 v8 v9, lr d r x cb n tr i u1 u2 u8 u9 S = lr d r x cb n (tr + 1) j v1 v2 v8 v9 S' ∧ rdI S' (r + 8) tr = b2i (v E) ∧ KpR r n tr S S'
theorem RD_cong {al : Nat → Bool} {co vl co' vl' : Nat → Int32} {i j : Nat} {v : Env → Int} (H : RD al co vl i j v) (e : ∀ x, i ≤ x → x < j → co' x = co x ∧ vl' x = vl x) : RD al co' vl' i j v := by
  refine ⟨H.1, H.2.1, fun d r S E x cb en n tr u1 u2 u8 u9 hw ha hj hn ht => H.2.2 d r S E x cb en n tr u1 u2 u8 u9 hw (fun x h1 h2 => ?_) hj hn ht⟩
  obtain ⟨e1, e2⟩ := e x h1 h2
  obtain ⟨a1, a2⟩ := ha x h1 h2
  exact ⟨a1.trans e1, a2.trans e2⟩
theorem RB_cong {al : Nat → Bool} {co vl co' vl' : Nat → Int32} {i j : Nat} {v : Env → Bool} (H : RB al co vl i j v) (e : ∀ x, i ≤ x → x < j → co' x = co x ∧ vl' x = vl x) : RB al co' vl' i j v := by
  refine ⟨H.1, fun d r S E x cb en n tr u1 u2 u8 u9 hw ha hj hn ht => H.2 d r S E x cb en n tr u1 u2 u8 u9 hw (fun x h1 h2 => ?_) hj hn ht⟩
  obtain ⟨e1, e2⟩ := e x h1 h2
  obtain ⟨a1, a2⟩ := ha x h1 h2
  exact ⟨a1.trans e1, a2.trans e2⟩
theorem i27 {p : Nat} (h : p < 2724) : inb (nI p) 2724 = true := inb_t h (by decide)
theorem i330 {p : Nat} (h : p < 330) : inb (nI p) 330 = true := inb_t h (by decide)
theorem cbx (cb i : Nat) : nI cb + 2 * nI i = nI (cb + 2 * i) := by
  show nI cb + nI 2 * nI i = _
  rw [pk_mul, nI_add]
theorem m2_add {k : Nat} (h : 1 < k) : nI k + (-2) = nI (k - 2) := by
  have e1 := m1_add (k := k) (by omega)
  have e2 := m1_add (k := k - 1) (by omega)
  have e3 : nI k + (-2) = nI k + (-1) + (-1) := by rw [Int32.add_assoc]; rfl
  rw [e3, e1, e2]; congr 1
/-- the head of the walk -/
theorem lr_hd {S : Mem} {r : Nat} {al : Nat → Bool} {E : Env} {x cb en i : Nat} (hw : WkR S r al E x cb en) (hi : i < en) : inb (nI x + 2) 2724 = true ∧ rdI S (r + 3) (ix (nI x + 2)) = nI en ∧ ¬ nI en ≤ nI i ∧ inb (nI cb + 2 * nI i) 2724 = true ∧ inb (nI cb + 2 * nI i + 1) 2724 = true ∧ ix (nI cb + 2 * nI i) = cb + 2 * i ∧ ix (nI cb + 2 * nI i + 1) = cb + 2 * i + 1 := by
  obtain ⟨-, -, h4, h5, h6⟩ := hw
  have e1 : nI x + 2 = nI (x + 2) := nI_add x 2
  rw [e1, cbx, nI_1, ix_nI (by omega), ix_nI (by omega), ix_nI (by omega)]
  exact ⟨i27 h4, h5, nI_ge hi (by omega), i27 (by omega), i27 (by omega), rfl, rfl⟩
theorem RD_num (al : Nat → Bool) {co vl : Nat → Int32} {i n : Nat} (hc : co i = 0) (hn : vl i = nI n) (hb : n ≤ 9999) : RD al co vl i (i + 1) (fun _ => (n : Int)) := by
  refine ⟨by omega, fun E _ => ⟨show -1000000 ≤ (n : Int) by omega, show (n : Int) ≤ 1000000 by omega⟩, fun d r S E x cb en k tr u1 u2 u8 u9 hw ha hj hk ht => ?_⟩
  obtain ⟨g1, g2, g3, g4, g5, g6, g7⟩ := lr_hd hw (i := i) (by omega)
  obtain ⟨a1, a2⟩ := ha i (Nat.le_refl _) (by omega)
  refine ⟨wrJ S (r + 7) k (Int32.toInt64 (nI n)), vU, vU, vU, vU, ?_, ?_, KpR_J r S _ (Nat.le_refl _)⟩
  · unfold lr
    rw [B_X8_summedUp_38, g1, gd_t, g2, if_neg g3, g4, gd_t, g5, gd_t, g6, g7, a1, hc, a2, hn, if_neg (by decide), if_pos rfl, i330 (by omega), gd_t, ix_nI (by omega), nI_1, nI_1]
  · rw [rdJ_wrJ, if_pos ⟨rfl, rfl⟩, Int32.toInt_toInt64, nI_toInt (by omega)]
theorem RD_name (al : Nat → Bool) {co vl : Nat → Int32} {i n : Nat} (hc : co i = 1) (hn : vl i = nI n) (hb : n < 6) (hal : al n = true) : RD al co vl i (i + 1) (fun E => E.1 n) := by
  refine ⟨by omega, fun E hE => hE.1 n, fun d r S E x cb en k tr u1 u2 u8 u9 hw ha hj hk ht => ?_⟩
  obtain ⟨g1, g2, g3, g4, g5, g6, g7⟩ := lr_hd hw (i := i) (by omega)
  obtain ⟨a1, a2⟩ := ha i (Nat.le_refl _) (by omega)
  refine ⟨wrJ S (r + 7) k (Int32.toInt64 (rdI S (r + 6) n)), vU, vU, vU, vU, ?_, ?_, KpR_J r S _ (Nat.le_refl _)⟩
  · unfold lr
    rw [B_X8_summedUp_38, g1, gd_t, g2, if_neg g3, g4, gd_t, g5, gd_t, g6, g7, a1, hc, a2, hn, if_neg (by decide), if_neg (by decide), inb_t hb (by decide), gd_t, i330 (by omega), gd_t, ix_nI (by omega), ix_nI (by omega), nI_1, nI_1]
  · rw [rdJ_wrJ, if_pos ⟨rfl, rfl⟩, Int32.toInt_toInt64]
    exact hw.2.1.1 n hb hal
theorem j0 {a : Int64} : a = 0 ↔ a.toInt = 0 := ⟨fun h => by rw [h]; rfl, fun h => Int64.toInt_inj.mp h⟩
theorem c64 (n : Nat) (h : n < 2 ^ 31) : (nI n).toInt64.toInt = (n : Int) := by rw [Int32.toInt_toInt64, nI_toInt h]
theorem jneg {a : Int64} {x : Int} (h : a.toInt = x) (hx : bd6 x) : (-a).toInt = -x := by
  unfold bd6 at hx
  rw [Int64.toInt_neg, h, bm64 (by omega) (by omega)]
theorem ofOne_t {S : Mem} {r : Nat} {al : Nat → Bool} {E : Env} (hE : EnvR S r al E) (d : Nat) {o o' : Nat} (ho : (o = 2 ∧ o' = 10) ∨ (o = 4 ∧ o' = 11) ∨ (o = 5 ∧ o' = 41)) {a : Int64} {x : Int} (ha : a.toInt = x) (hx : bd6 x) : ∃ b : Int64, cal (d + 1) 220 [vR 8 r, vI (nI o), vL a] S = some (some (vL b), S) ∧ b.toInt = uop o' E x := by
  have z0 : (0 : Int64).toInt = 0 := rfl
  have z12 : (12 : Int64).toInt = 12 := by decide
  rcases ho with h | h | ⟨rfl, rfl⟩
  rotate_left 2
  · exact ⟨-a, by rw [B_X8_ofOne, if_pos (show nI 5 = 5 from rfl)], by unfold uop; rw [if_pos rfl]; exact jneg ha hx⟩
  all_goals
    have ho5 : ¬ nI o = 5 := by rw [h.1]; decide
    have hk41 : ¬ o' = 41 := by rw [h.2]; decide
    rw [B_X8_ofOne, if_neg ho5]
    unfold uop
    rw [if_neg hk41]
    by_cases h0 : lg_cmp a 0 < 0
    · have h0' : x < 0 := by
        have := Int64.lt_iff_toInt_lt.mp ((lg_cmp_lt _ _).mp h0)
        rw [ha, z0] at this; exact this
      rw [if_pos h0, if_neg (by omega)]
      exact ⟨0, rfl, rfl⟩
    · have h0' : ¬ x < 0 := fun y => h0 ((lg_cmp_lt _ _).mpr (Int64.lt_iff_toInt_lt.mpr (by rw [ha, z0]; exact y)))
      rw [if_neg h0]
      by_cases h12 : 0 ≤ lg_cmp a 12
      · have h12' : 12 ≤ x := by
          have := Int64.le_iff_toInt_le.mp ((lg_cmp_ge _ _).mp h12)
          rw [ha, z12] at this; exact this
        rw [if_pos h12, if_neg (by omega)]
        exact ⟨0, rfl, rfl⟩
      · have h12' : ¬ 12 ≤ x := fun y => h12 ((lg_cmp_ge _ _).mpr (Int64.le_iff_toInt_le.mpr (by rw [ha, z12]; exact y)))
        have hp : x.toNat < 12 := by omega
        have e32 : Int64.toInt32 a = nI x.toNat := by
          refine Int32.toInt_inj.mp ?_
          rw [Int64.toInt_toInt32, ha, bm32 (by omega) (by omega), nI_toInt (by omega)]; omega
        rw [if_neg h12, e32, a11, i13 (by omega), gd_t, ix_nI (by omega), if_pos (show 0 ≤ x ∧ x < 12 by omega)]
        rcases hE.2 x.toNat hp with ⟨c1, c2, c3⟩ | ⟨c1, ⟨k, hk, ek, ep⟩, c3⟩
        · rw [if_pos c1]
          refine ⟨0, rfl, ?_⟩
          rcases (show o' = 10 ∨ o' = 11 by omega) with q | q
          · rw [if_pos q, c2]; rfl
          · rw [if_neg (by omega), c3]; rfl
        · rw [if_neg c1]
          by_cases q : o' = 10
          · have ho2 : nI o = 2 := by rw [show o = 2 by omega]; rfl
            rw [if_pos q, if_pos ho2, a23, i13 (by omega), gd_t, ix_nI (by omega), ek, sp_mbitsOf d k hk, bI_s]
            have := pop_le hk
            exact ⟨_, rfl, by rw [c64 _ (by omega)]; exact ep⟩
          · have ho2 : ¬ nI o = 2 := by rw [show o = 4 by omega]; decide
            rw [if_neg q, if_neg ho2, gd_t]
            exact ⟨_, rfl, by rw [Int32.toInt_toInt64]; exact c3⟩
theorem RD_un {al : Nat → Bool} {co vl : Nat → Int32} {i j o o' : Nat} {v : Env → Int} (H : RD al co vl i j v) (ho : (o = 2 ∧ o' = 10) ∨ (o = 4 ∧ o' = 11) ∨ (o = 5 ∧ o' = 41)) (hc : co j = nI o) : RD al co vl i (j + 1) (fun E => uop o' E (v E)) := by
  obtain ⟨hij, hbd, H⟩ := H
  refine ⟨by omega, fun E hE => uop_bd hE (hbd E hE), fun d r S E x cb en n tr u1 u2 u8 u9 hw ha hj hn ht => ?_⟩
  obtain ⟨S1, v1, v2, v8, v9, e1, ev1, k1⟩ := H d r S E x cb en n tr u1 u2 u8 u9 hw (AtR_s ha (Nat.le_refl _) (by omega)) (by omega) (by omega) (by omega)
  have hw1 := WkR_k hw k1
  obtain ⟨g1, g2, g3, g4, g5, g6, g7⟩ := lr_hd hw1 (i := j) (by omega)
  obtain ⟨a1, -⟩ := AtR_k ha k1 j (by omega) (by omega)
  obtain ⟨b, eb, hb⟩ := ofOne_t hw1.2.1 d ho ev1 (hbd E hw1.1)
  have hts : nI (n + 1) - 1 = nI n := s1_sub (by omega)
  have hle : ∀ q : Nat, q < 2 ^ 31 → (nI q < nI o ↔ q < o) := fun q hq => nI_ltI hq (by omega)
  have ho1 : (1 : Int32) < nI o := (hle 1 (by decide)).mpr (by omega)
  have ho3 : ¬ nI o = 3 := fun z => by have := (nI_eq (b := 3) (by omega) (by decide)).mp z; omega
  have ho5 : ¬ (5 : Int32) < nI o := fun z => by have := (hle 5 (by decide)).mp z; omega
  refine ⟨wrJ S1 (r + 7) n b, vU, vU, vU, vU, ?_, ?_, KpR_t k1 (KpR_J r S1 _ (Nat.le_refl _))⟩
  · rw [e1]
    unfold lr
    rw [B_X8_summedUp_38, g1, gd_t, g2, if_neg g3, g4, gd_t, g5, gd_t, g6, a1, hc, if_pos ho1, if_neg ho3, if_neg ho5, hts, i330 (by omega), gd_t, ix_nI (by omega), eb, bL_s, gd_t, nI_1]
  · rw [rdJ_wrJ, if_pos ⟨rfl, rfl⟩]; exact hb
theorem two_t (d : Nat) {o o' : Nat} (ho : (o = 6 ∧ o' = 31) ∨ (o = 7 ∧ o' = 32) ∨ (o = 8 ∧ o' = 33) ∨ (o = 9 ∧ o' = 34)) {a b : Int64} {x y : Int} (ha : a.toInt = x) (hb : b.toInt = y) (hx : bd6 x) (hy : bd6 y) (S : Mem) : ∃ z : Int64, cal (d + 1) 218 [vI (nI o), vL a, vL b] S = some (some (vL z), S) ∧ z.toInt = bop o' x y := by
  have hm := mul_bd hx hy
  have hx' := hx
  have hy' := hy
  unfold bd6 at hx' hy'
  rcases ho with ⟨rfl, rfl⟩ | ⟨rfl, rfl⟩ | ⟨rfl, rfl⟩ | ⟨rfl, rfl⟩
  · obtain ⟨z, ez, hz⟩ := clip_t d (a + b) S
    refine ⟨z, by rw [B_X8_two, if_pos (show nI 6 = 6 from rfl), ez, bL_s], ?_⟩
    rw [hz, Int64.toInt_add, ha, hb, bm64 (by omega) (by omega)]; unfold bop; rw [if_pos rfl]
  · obtain ⟨z, ez, hz⟩ := clip_t d (a - b) S
    refine ⟨z, by rw [B_X8_two, if_neg (show ¬ nI 7 = 6 by decide), if_pos (show nI 7 = 7 from rfl), ez, bL_s], ?_⟩
    rw [hz, Int64.toInt_sub, ha, hb, bm64 (by omega) (by omega)]; unfold bop; rw [if_neg (by decide), if_pos rfl]
  · obtain ⟨z, ez, hz⟩ := clip_t d (a * b) S
    refine ⟨z, by rw [B_X8_two, if_neg (show ¬ nI 8 = 6 by decide), if_neg (show ¬ nI 8 = 7 by decide), if_pos (show nI 8 = 8 from rfl), ez, bL_s], ?_⟩
    rw [hz, Int64.toInt_mul, ha, hb, bm64 (by omega) (by omega)]; unfold bop; rw [if_neg (by decide), if_neg (by decide), if_pos rfl]
  · rw [B_X8_two, if_neg (show ¬ nI 9 = 6 by decide), if_neg (show ¬ nI 9 = 7 by decide), if_neg (show ¬ nI 9 = 8 by decide)]
    by_cases hb0 : lg_cmp b 0 = 0
    · have : y = 0 := by rw [← hb]; exact j0.mp ((lg_cmp_eq _ _).mp hb0)
      rw [if_pos hb0, this]
      refine ⟨0, rfl, ?_⟩
      unfold bop
      rw [if_neg (by decide), if_neg (by decide), if_neg (by decide), if_pos rfl]; rfl
    · have hbn : ¬ b = 0 := fun z => hb0 ((lg_cmp_eq _ _).mpr z)
      have hy0 : ¬ y = 0 := fun z => hbn (j0.mpr (hb.trans z))
      have hn : nzL b = true := by unfold nzL; exact decide_eq_true hbn
      obtain ⟨z, ez, hz⟩ := clip_t d (a / b) S
      rw [if_neg hb0, gd_p hn, ez, bL_s]
      refine ⟨z, rfl, ?_⟩
      have hmin : ¬ a = Int64.minValue := fun z => by
        rw [z] at ha
        have : Int64.minValue.toInt = -9223372036854775808 := by decide
        omega
      rw [hz, Int64.toInt_div_of_ne_left _ _ hmin, ha, hb]
      unfold bop
      rw [if_neg (by decide), if_neg (by decide), if_neg (by decide), if_neg hy0]
theorem RD_bop {al : Nat → Bool} {co vl : Nat → Int32} {i j k o o' : Nat} {v w : Env → Int} (H1 : RD al co vl i j v) (H2 : RD al co vl j k w) (ho : (o = 6 ∧ o' = 31) ∨ (o = 7 ∧ o' = 32) ∨ (o = 8 ∧ o' = 33) ∨ (o = 9 ∧ o' = 34)) (hc : co k = nI o) : RD al co vl i (k + 1) (fun E => bop o' (v E) (w E)) := by
  obtain ⟨hij, hbd, H1⟩ := H1
  obtain ⟨hjk, hbd2, H2⟩ := H2
  refine ⟨by omega, fun E hE => bop_bd _ _ _, fun d r S E x cb en n tr u1 u2 u8 u9 hw ha hj hn ht => ?_⟩
  obtain ⟨S1, v1, v2, v8, v9, e1, ev1, k1⟩ := H1 d r S E x cb en n tr u1 u2 u8 u9 hw (AtR_s ha (Nat.le_refl _) (by omega)) (by omega) (by omega) (by omega)
  have hw1 := WkR_k hw k1
  have ha1 := AtR_k ha k1
  obtain ⟨S2, w1, w2, w8, w9, e2, ev2, k2⟩ := H2 d r S1 E x cb en (n + 1) tr v1 v2 v8 v9 hw1 (AtR_s ha1 (by omega) (by omega)) (by omega) (by omega) (by omega)
  have hw2 := WkR_k hw1 k2
  obtain ⟨g1, g2, g3, g4, g5, g6, g7⟩ := lr_hd hw2 (i := k) (by omega)
  obtain ⟨a1, -⟩ := AtR_k ha1 k2 k (by omega) (by omega)
  have ev1' : (rdJ S2 (r + 7) n).toInt = v E := by rw [k2.1 n (by omega)]; exact ev1
  obtain ⟨z, ez, hz⟩ := two_t d ho ev1' ev2 (hbd E hw2.1) (hbd2 E hw2.1) S2
  have hts : nI (n + 1 + 1) + (-1) = nI (n + 1) := pk_m1 _
  have hts2 : nI (n + 1) - 1 = nI n := s1_sub (by omega)
  have hlt : ∀ q : Nat, q < 2 ^ 31 → (nI q < nI o ↔ q < o) := fun q hq => nI_ltI hq (by omega)
  have ho1 : (1 : Int32) < nI o := (hlt 1 (by decide)).mpr (by omega)
  have ho3 : ¬ nI o = 3 := fun z => by have := (nI_eq (b := 3) (by omega) (by decide)).mp z; omega
  have ho5 : (5 : Int32) < nI o := (hlt 5 (by decide)).mpr (by omega)
  have ho10 : ¬ (10 : Int32) ≤ nI o := nI_ge (b := 10) (by omega) (by decide)
  refine ⟨wrJ S2 (r + 7) n z, vU, vU, vU, vU, ?_, ?_, KpR_t (KpR_t k1 (KpR_m k2 (by omega) (Nat.le_refl _))) (KpR_J r S2 _ (Nat.le_refl _))⟩
  · rw [e1, e2]
    unfold lr
    rw [B_X8_summedUp_38, g1, gd_t, g2, if_neg g3, g4, gd_t, g5, gd_t, g6, a1, hc, if_pos ho1, if_neg ho3, if_pos ho5, if_neg ho10, hts, hts2, i330 (by omega), gd_t, i330 (by omega), gd_t, ix_nI (by omega), ix_nI (by omega), ez, bL_s, gd_t, nI_1]
  · rw [rdJ_wrJ, if_pos ⟨rfl, rfl⟩]; exact hz
theorem asked_t (d : Nat) {o o' : Nat} (ho : (o = 10 ∧ o' = 25) ∨ (o = 11 ∧ o' = 26) ∨ (o = 12 ∧ o' = 27) ∨ (o = 13 ∧ o' = 28) ∨ (o = 14 ∧ o' = 29) ∨ (o = 15 ∧ o' = 30)) {a b : Int64} {x y : Int} (ha : a.toInt = x) (hb : b.toInt = y) (S : Mem) : cal d 219 [vI (nI o), vL a, vL b] S = some (some (vI (b2i (cop o' x y))), S) := by
  have hle : a ≤ b ↔ x ≤ y := by rw [← ha, ← hb]; exact Int64.le_iff_toInt_le
  have hge : b ≤ a ↔ y ≤ x := by rw [← ha, ← hb]; exact Int64.le_iff_toInt_le
  have hlt : a < b ↔ x < y := by rw [← ha, ← hb]; exact Int64.lt_iff_toInt_lt
  have hgt : b < a ↔ y < x := by rw [← ha, ← hb]; exact Int64.lt_iff_toInt_lt
  have heq : a = b ↔ x = y := by rw [← ha, ← hb]; exact Int64.toInt_inj.symm
  have f10 : ∀ {p : Prop} [Decidable p] {q : Bool}, (p ↔ q = false) → (if p then gd (isZ 0) (some (some (vI 0), S)) else gd (isZ 1) (some (some (vI 1), S))) = some (some (vI (b2i q)), S) := fun {p} _ {q} h => by
    by_cases hp : p
    · rw [if_pos hp, h.mp hp, gd_p isZ_0]; rfl
    · have : q = true := by
        cases hq : q
        · exact absurd (h.mpr hq) hp
        · rfl
      rw [if_neg hp, this, gd_p isZ_1]; rfl
  have f01 : ∀ {p : Prop} [Decidable p] {q : Bool}, (p ↔ q = true) → (if p then gd (isZ 1) (some (some (vI 1), S)) else gd (isZ 0) (some (some (vI 0), S))) = some (some (vI (b2i q)), S) := fun {p} _ {q} h => by
    by_cases hp : p
    · rw [if_pos hp, h.mp hp, gd_p isZ_1]; rfl
    · have : q = false := by
        cases hq : q
        · rfl
        · exact absurd (h.mpr hq) hp
      rw [if_neg hp, this, gd_p isZ_0]; rfl
  rcases ho with ⟨rfl, rfl⟩ | ⟨rfl, rfl⟩ | ⟨rfl, rfl⟩ | ⟨rfl, rfl⟩ | ⟨rfl, rfl⟩ | ⟨rfl, rfl⟩
  · rw [B_X8_isAsked, if_pos (show nI 10 = 10 from rfl)]
    refine f10 ?_
    rw [lg_cmp_ge, hge]; show _ ↔ decide (x < y) = false
    rw [decide_eq_false_iff_not]; omega
  · rw [B_X8_isAsked, if_neg (show ¬ nI 11 = 10 by decide), if_pos (show nI 11 = 11 from rfl)]
    refine f10 ?_
    rw [lg_cmp_gt, hgt]; show _ ↔ decide (x ≤ y) = false
    rw [decide_eq_false_iff_not]; omega
  · rw [B_X8_isAsked, if_neg (show ¬ nI 12 = 10 by decide), if_neg (show ¬ nI 12 = 11 by decide), if_pos (show nI 12 = 12 from rfl)]
    refine f10 ?_
    rw [lg_cmp_le, hle]; show _ ↔ decide (y < x) = false
    rw [decide_eq_false_iff_not]; omega
  · rw [B_X8_isAsked, if_neg (show ¬ nI 13 = 10 by decide), if_neg (show ¬ nI 13 = 11 by decide), if_neg (show ¬ nI 13 = 12 by decide), if_pos (show nI 13 = 13 from rfl)]
    refine f10 ?_
    rw [lg_cmp_lt, hlt]; show _ ↔ decide (y ≤ x) = false
    rw [decide_eq_false_iff_not]; omega
  · rw [B_X8_isAsked, if_neg (show ¬ nI 14 = 10 by decide), if_neg (show ¬ nI 14 = 11 by decide), if_neg (show ¬ nI 14 = 12 by decide), if_neg (show ¬ nI 14 = 13 by decide), if_pos (show nI 14 = 14 from rfl)]
    refine f01 ?_
    rw [lg_cmp_eq, heq]; show _ ↔ decide (x = y) = true
    rw [decide_eq_true_iff]
  · rw [B_X8_isAsked, if_neg (show ¬ nI 15 = 10 by decide), if_neg (show ¬ nI 15 = 11 by decide), if_neg (show ¬ nI 15 = 12 by decide), if_neg (show ¬ nI 15 = 13 by decide), if_neg (show ¬ nI 15 = 14 by decide)]
    refine f10 ?_
    rw [lg_cmp_eq, heq]; show _ ↔ decide (¬ x = y) = false
    rw [decide_eq_false_iff_not, Classical.not_not]
theorem RB_cop {al : Nat → Bool} {co vl : Nat → Int32} {i j k o o' : Nat} {v w : Env → Int} (H1 : RD al co vl i j v) (H2 : RD al co vl j k w) (ho : (o = 10 ∧ o' = 25) ∨ (o = 11 ∧ o' = 26) ∨ (o = 12 ∧ o' = 27) ∨ (o = 13 ∧ o' = 28) ∨ (o = 14 ∧ o' = 29) ∨ (o = 15 ∧ o' = 30)) (hc : co k = nI o) : RB al co vl i (k + 1) (fun E => cop o' (v E) (w E)) := by
  obtain ⟨hij, hbd, H1⟩ := H1
  obtain ⟨hjk, hbd2, H2⟩ := H2
  refine ⟨by omega, fun d r S E x cb en n tr u1 u2 u8 u9 hw ha hj hn ht => ?_⟩
  obtain ⟨S1, v1, v2, v8, v9, e1, ev1, k1⟩ := H1 d r S E x cb en n tr u1 u2 u8 u9 hw (AtR_s ha (Nat.le_refl _) (by omega)) (by omega) (by omega) (by omega)
  have hw1 := WkR_k hw k1
  have ha1 := AtR_k ha k1
  obtain ⟨S2, w1, w2, w8, w9, e2, ev2, k2⟩ := H2 d r S1 E x cb en (n + 1) tr v1 v2 v8 v9 hw1 (AtR_s ha1 (by omega) (by omega)) (by omega) (by omega) (by omega)
  have hw2 := WkR_k hw1 k2
  obtain ⟨g1, g2, g3, g4, g5, g6, g7⟩ := lr_hd hw2 (i := k) (by omega)
  obtain ⟨a1, -⟩ := AtR_k ha1 k2 k (by omega) (by omega)
  have ev1' : (rdJ S2 (r + 7) n).toInt = v E := by rw [k2.1 n (by omega)]; exact ev1
  have ez := asked_t (d + 1) ho ev1' ev2 S2
  have hts : nI (n + 1 + 1) + (-2) = nI n := m2_add (by omega)
  have hlt : ∀ q : Nat, q < 2 ^ 31 → (nI q < nI o ↔ q < o) := fun q hq => nI_ltI hq (by omega)
  have ho1 : (1 : Int32) < nI o := (hlt 1 (by decide)).mpr (by omega)
  have ho3 : ¬ nI o = 3 := fun z => by have := (nI_eq (b := 3) (by omega) (by decide)).mp z; omega
  have ho5 : (5 : Int32) < nI o := (hlt 5 (by decide)).mpr (by omega)
  have ho10 : (10 : Int32) ≤ nI o := nI_le (a := 10) (by omega) (by omega)
  have ho20 : ¬ (20 : Int32) ≤ nI o := nI_ge (b := 20) (by omega) (by decide)
  refine ⟨wrI S2 (r + 8) tr (b2i (cop o' (v E) (w E))), vU, vU, vU, vU, ?_, ?_, KpR_t (KpR_t k1 (KpR_m k2 (by omega) (Nat.le_refl _))) (KpR_I r S2 _ (Nat.le_refl _))⟩
  · rw [e1, e2]
    unfold lr
    rw [B_X8_summedUp_38, g1, gd_t, g2, if_neg g3, g4, gd_t, g5, gd_t, g6, a1, hc, if_pos ho1, if_neg ho3, if_pos ho5, if_pos ho10, if_neg ho20, hts, nI_1, i330 (by omega), gd_t, i330 (by omega), gd_t, ix_nI (by omega), ix_nI (by omega), ez, bI_s, gd_p (by rw [i330 (by omega), isZ_b]; rfl), ix_nI (by omega), nI_1, nI_1]
  · rw [rdI_wrI, if_pos ⟨rfl, rfl⟩]
theorem RB_not {al : Nat → Bool} {co vl : Nat → Int32} {i j : Nat} {v : Env → Bool} (H : RB al co vl i j v) (hc : co j = 20) : RB al co vl i (j + 1) (fun E => !(v E)) := by
  obtain ⟨hij, H⟩ := H
  refine ⟨by omega, fun d r S E x cb en n tr u1 u2 u8 u9 hw ha hj hn ht => ?_⟩
  obtain ⟨S1, v1, v2, v8, v9, e1, ev1, k1⟩ := H d r S E x cb en n tr u1 u2 u8 u9 hw (AtR_s ha (Nat.le_refl _) (by omega)) (by omega) (by omega) (by omega)
  have hw1 := WkR_k hw k1
  obtain ⟨g1, g2, g3, g4, g5, g6, g7⟩ := lr_hd hw1 (i := j) (by omega)
  obtain ⟨a1, -⟩ := AtR_k ha k1 j (by omega) (by omega)
  have hts : nI (tr + 1) - 1 = nI tr := s1_sub (by omega)
  refine ⟨wrI S1 (r + 8) tr (b2i (!(v E))), vU, vU, vU, vU, ?_, ?_, KpR_t k1 (KpR_I r S1 _ (Nat.le_refl _))⟩
  · rw [e1]
    unfold lr
    rw [B_X8_summedUp_38, g1, gd_t, g2, if_neg g3, g4, gd_t, g5, gd_t, g6, a1, hc, if_pos (by decide), if_neg (by decide), if_pos (by decide), if_pos (by decide), if_pos (by decide), if_pos rfl, hts, i330 (by omega), gd_t, ix_nI (by omega), ev1, ite_b0]
    cases v E
    · rw [if_pos rfl, gd_p (by decide), nI_1]; rfl
    · rw [if_neg (by decide), gd_p (by decide), nI_1]; rfl
  · rw [rdI_wrI, if_pos ⟨rfl, rfl⟩]
theorem mjoined_t (d : Nat) {o o' : Nat} (ho : (o = 21 ∧ o' = 17) ∨ (o = 22 ∧ o' = 16)) (x y : Bool) (S : Mem) : cal d 221 [vI (nI o), vI (b2i x), vI (b2i y)] S = some (some (vI (b2i (bbo o' x y))), S) := by
  rcases ho with ⟨rfl, rfl⟩ | ⟨rfl, rfl⟩
  · rw [B_X8_joined, if_pos (show nI 21 = 21 from rfl), ite_b0, ite_b0]
    cases x <;> cases y
    · rw [if_pos rfl, gd_p isZ_0]; rfl
    · rw [if_pos rfl, gd_p isZ_0]; rfl
    · rw [if_neg (by decide), if_pos rfl, gd_p isZ_0]; rfl
    · rw [if_neg (by decide), if_neg (by decide), gd_p isZ_1]; rfl
  · rw [B_X8_joined, if_neg (show ¬ nI 22 = 21 by decide), ite_b0, ite_b0]
    cases x <;> cases y
    · rw [if_pos rfl, if_pos rfl, gd_p isZ_0]; rfl
    · rw [if_pos rfl, if_neg (by decide), gd_p isZ_1]; rfl
    · rw [if_neg (by decide), gd_p isZ_1]; rfl
    · rw [if_neg (by decide), gd_p isZ_1]; rfl
theorem RB_bbo {al : Nat → Bool} {co vl : Nat → Int32} {i j k o o' : Nat} {v w : Env → Bool} (H1 : RB al co vl i j v) (H2 : RB al co vl j k w) (ho : (o = 21 ∧ o' = 17) ∨ (o = 22 ∧ o' = 16)) (hc : co k = nI o) : RB al co vl i (k + 1) (fun E => bbo o' (v E) (w E)) := by
  obtain ⟨hij, H1⟩ := H1
  obtain ⟨hjk, H2⟩ := H2
  refine ⟨by omega, fun d r S E x cb en n tr u1 u2 u8 u9 hw ha hj hn ht => ?_⟩
  obtain ⟨S1, v1, v2, v8, v9, e1, ev1, k1⟩ := H1 d r S E x cb en n tr u1 u2 u8 u9 hw (AtR_s ha (Nat.le_refl _) (by omega)) (by omega) (by omega) (by omega)
  have hw1 := WkR_k hw k1
  have ha1 := AtR_k ha k1
  obtain ⟨S2, w1, w2, w8, w9, e2, ev2, k2⟩ := H2 d r S1 E x cb en n (tr + 1) v1 v2 v8 v9 hw1 (AtR_s ha1 (by omega) (by omega)) (by omega) (by omega) (by omega)
  have hw2 := WkR_k hw1 k2
  obtain ⟨g1, g2, g3, g4, g5, g6, g7⟩ := lr_hd hw2 (i := k) (by omega)
  obtain ⟨a1, -⟩ := AtR_k ha1 k2 k (by omega) (by omega)
  have ev1' : rdI S2 (r + 8) tr = b2i (v E) := by rw [k2.2.1 tr (by omega)]; exact ev1
  have ez := mjoined_t (d + 1) ho (v E) (w E) S2
  have hts : nI (tr + 1 + 1) + (-1) = nI (tr + 1) := pk_m1 _
  have hts2 : nI (tr + 1) - 1 = nI tr := s1_sub (by omega)
  have hlt : ∀ q : Nat, q < 2 ^ 31 → (nI q < nI o ↔ q < o) := fun q hq => nI_ltI hq (by omega)
  have ho1 : (1 : Int32) < nI o := (hlt 1 (by decide)).mpr (by omega)
  have ho3 : ¬ nI o = 3 := fun z => by have := (nI_eq (b := 3) (by omega) (by decide)).mp z; omega
  have ho5 : (5 : Int32) < nI o := (hlt 5 (by decide)).mpr (by omega)
  have ho10 : (10 : Int32) ≤ nI o := nI_le (a := 10) (by omega) (by omega)
  have ho20 : (20 : Int32) ≤ nI o := nI_le (a := 20) (by omega) (by omega)
  have ho2 : ¬ nI o = 20 := fun z => by have := (nI_eq (b := 20) (by omega) (by decide)).mp z; omega
  refine ⟨wrI S2 (r + 8) tr (b2i (bbo o' (v E) (w E))), vU, vU, vU, vU, ?_, ?_, KpR_t (KpR_t k1 (KpR_m k2 (Nat.le_refl _) (by omega))) (KpR_I r S2 _ (Nat.le_refl _))⟩
  · rw [e1, e2]
    unfold lr
    rw [B_X8_summedUp_38, g1, gd_t, g2, if_neg g3, g4, gd_t, g5, gd_t, g6, a1, hc, if_pos ho1, if_neg ho3, if_pos ho5, if_pos ho10, if_pos ho20, if_neg ho2, hts, hts2, i330 (by omega), gd_t, i330 (by omega), gd_t, ix_nI (by omega), ix_nI (by omega), ev1', ev2, ez, bI_s, gd_p (by rw [isZ_b]; rfl), nI_1]
  · rw [rdI_wrI, if_pos ⟨rfl, rfl⟩]
theorem RD_if {al : Nat → Bool} {co vl : Nat → Int32} {i j k l : Nat} {b : Env → Bool} {v w : Env → Int} (H0 : RB al co vl i j b) (H1 : RD al co vl j k v) (H2 : RD al co vl k l w) (hc : co l = 3) : RD al co vl i (l + 1) (fun E => if b E = true then v E else w E) := by
  obtain ⟨hij, H0⟩ := H0
  obtain ⟨hjk, hb1, H1⟩ := H1
  obtain ⟨hkl, hb2, H2⟩ := H2
  refine ⟨by omega, fun E hE => ?_, fun d r S E x cb en n tr u1 u2 u8 u9 hw ha hj hn ht => ?_⟩
  · show bd6 (if b E = true then v E else w E)
    by_cases z : b E = true
    · rw [if_pos z]; exact hb1 E hE
    · rw [if_neg z]; exact hb2 E hE
  dsimp only
  obtain ⟨S0, p1, p2, p8, p9, e0, ev0, k0⟩ := H0 d r S E x cb en n tr u1 u2 u8 u9 hw (AtR_s ha (Nat.le_refl _) (by omega)) (by omega) (by omega) (by omega)
  have hw0 := WkR_k hw k0
  have ha0 := AtR_k ha k0
  obtain ⟨S1, v1, v2, v8, v9, e1, ev1, k1⟩ := H1 d r S0 E x cb en n (tr + 1) p1 p2 p8 p9 hw0 (AtR_s ha0 (by omega) (by omega)) (by omega) (by omega) (by omega)
  have hw1 := WkR_k hw0 k1
  have ha1 := AtR_k ha0 k1
  obtain ⟨S2, w1, w2, w8, w9, e2, ev2, k2⟩ := H2 d r S1 E x cb en (n + 1) (tr + 1) v1 v2 v8 v9 hw1 (AtR_s ha1 (by omega) (by omega)) (by omega) (by omega) (by omega)
  have hw2 := WkR_k hw1 k2
  obtain ⟨g1, g2, g3, g4, g5, g6, g7⟩ := lr_hd hw2 (i := l) (by omega)
  obtain ⟨a1, -⟩ := AtR_k ha1 k2 l (by omega) (by omega)
  have ev0' : rdI S2 (r + 8) tr = b2i (b E) := by rw [k2.2.1 tr (by omega), k1.2.1 tr (by omega)]; exact ev0
  have ev1' : (rdJ S2 (r + 7) n).toInt = v E := by rw [k2.1 n (by omega)]; exact ev1
  have kk := KpR_t (KpR_t k0 (KpR_m k1 (Nat.le_refl _) (by omega))) (KpR_m k2 (n' := n) (tr' := tr) (by omega) (by omega))
  have hts : nI (tr + 1) + (-1) = nI tr := pk_m1 _
  have htn : nI (n + 1 + 1) + (-1) = nI (n + 1) := pk_m1 _
  have htn2 : nI (n + 1) - 1 = nI n := s1_sub (by omega)
  rw [e0, e1, e2]
  unfold lr
  rw [B_X8_summedUp_38, g1, gd_t, g2, if_neg g3, g4, gd_t, g5, gd_t, g6, a1, hc, if_pos (by decide), if_pos rfl, hts, i330 (by omega), gd_t, ix_nI (by omega), ev0', ite_b0, htn, htn2, i330 (by omega), gd_t, i330 (by omega), gd_t, ix_nI (by omega), ix_nI (by omega), nI_1]
  cases b E
  · rw [if_pos rfl, if_neg (by decide)]
    exact ⟨_, vU, vU, vU, vU, rfl, by rw [rdJ_wrJ, if_pos ⟨rfl, rfl⟩]; exact ev2, KpR_t kk (KpR_J r S2 _ (Nat.le_refl _))⟩
  · rw [if_neg (by decide), if_pos rfl]
    exact ⟨S2, vU, vU, vU, vU, rfl, ev1', kk⟩
