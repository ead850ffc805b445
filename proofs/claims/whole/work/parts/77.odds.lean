/-! odds: lowest terms, class and reference -/
def OlC (x : Nat) (S : Mem) (o : Option Res) (v : Int64) (Z' : Zs) : Prop := ∃ S', o = some (some (vL v), S') ∧ ClR S' x Z' ∧ FrX x S S'
def OlM (r : Nat) (S : Mem) (o : Option Res) (v : Int64) (Z' : Zs) : Prop := ∃ S', o = some (some (vL v), S') ∧ MoR S' r Z' ∧ FrY r S S'
theorem OlC_0 {x : Nat} {S : Mem} {v : Int64} {Z : Zs} (h : ClR S x Z) : OlC x S (some (some (vL v), S)) v Z := ⟨S, rfl, h, FrX_r⟩
theorem OlM_0 {r : Nat} {S : Mem} {v : Int64} {Z : Zs} (h : MoR S r Z) : OlM r S (some (some (vL v), S)) v Z := ⟨S, rfl, h, FrY_r⟩
def gcC : Nat → Int64 → Int64 → Int64
  | 0, a, _ => a
  | f + 1, a, b => if lg_cmp b 0 = 0 then a else gcC f b (remL a b)
theorem gcC_s (f : Nat) (a b : Int64) : gcC (f + 1) a b = if lg_cmp b 0 = 0 then a else gcC f b (remL a b) := rfl
def gcE : Nat → Int64 → Int64 → Bool
  | 0, _, _ => false
  | f + 1, a, b => if lg_cmp b 0 = 0 then true else gcE f b (remL a b)
theorem gcE_s (f : Nat) (a b : Int64) : gcE (f + 1) a b = if lg_cmp b 0 = 0 then true else gcE f b (remL a b) := rfl
theorem nzc {a : Int64} (h : ¬ lg_cmp a 0 = 0) : nzL a = true := decide_eq_true (fun e => h (by rw [e]; decide))
def lowG (num den : Int64) (w : Int32) (g : Int64) (S : Mem) : Option Res := if lg_cmp g 0 = 0 then some (some (vL 0), S) else if w = 0 then gd (nzL g) (some (some (vL (num / g)), S)) else gd (nzL g) (some (some (vL (den / g)), S))
theorem low_l (d : Nat) (num den : Int64) (w : Int32) (S : Mem) : ∀ f i a b u v, i + f = 100 → ev d 156 9 [vL num, vU, vL den, vU, vI w, vL a, vU, vL b, vU, vI (nI i), u, v] [] S = lowG num den w (gcC f a b) S := by
  intro f
  induction f with
  | zero =>
    intro i a b u v hi
    have : i = 100 := by omega
    subst this
    rw [B_X7_lowestTerm_9, if_pos (show (100 : Int32) ≤ nI 100 from Int32.le_refl _)]; rfl
  | succ f ih =>
    intro i a b u v hi
    rw [B_X7_lowestTerm_9, if_neg (show ¬ (100 : Int32) ≤ nI i from nI_ge (b := 100) (by omega) (by decide)), gcC_s]
    by_cases z : lg_cmp b 0 = 0
    · rw [if_pos z, if_pos z]; rfl
    · rw [if_neg z, if_neg z, nzc z, gd_t, nI_1]
      exact ih (i + 1) _ _ _ _ (by omega)
theorem low_c (d : Nat) (num den : Int64) (w : Int32) (S : Mem) : cal d 156 [vL num, vL den, vI w] S = lowG num den w (gcC 100 den num) S := by
  rw [B_X7_lowestTerm]
  exact low_l d num den w S 100 0 den num vU vU (by omega)
theorem div_l (d : Nat) (S : Mem) : ∀ f a b u0 u1 u2 u3 u8 u9, gcE f a b = true → ev d 288 6 [u0, u1, u2, u3, vL a, vU, vL b, vU, u8, u9] [] S = some (some (vL (gcC f a b)), S) := by
  intro f
  induction f with
  | zero => intro a b u0 u1 u2 u3 u8 u9 h; cases h
  | succ f ih =>
    intro a b u0 u1 u2 u3 u8 u9 h
    rw [B_X8_divisor_6, gcC_s]
    rw [gcE_s] at h
    by_cases z : lg_cmp b 0 = 0
    · rw [if_pos z, if_pos z]
    · rw [if_neg z] at h
      rw [if_neg z, if_neg z, nzc z, gd_t]
      exact ih _ _ _ _ _ _ _ _ h
theorem div_m (d f : Nat) (a b : Int64) (S : Mem) (h : gcE f a b = true) : cal d 288 [vL a, vL b] S = some (some (vL (gcC f a b)), S) := by
  rw [B_X8_divisor]; exact div_l d S f a b _ _ _ _ _ _ h
theorem od_f {a b : Nat} (ha : a < 17) (hb : b < 17) : gcE 20 (wayZ (16 - a) b) (wayZ 16 b) = true ∧ gcC 20 (wayZ (16 - a) b) (wayZ 16 b) = gcC 100 (wayZ 16 b) (wayZ (16 - a) b) ∧ ¬ lg_cmp (gcC 100 (wayZ 16 b) (wayZ (16 - a) b)) 0 = 0 := (by decide +kernel : ∀ (a b : Fin 17), gcE 20 (wayZ (16 - a.1) b.1) (wayZ 16 b.1) = true ∧ gcC 20 (wayZ (16 - a.1) b.1) (wayZ 16 b.1) = gcC 100 (wayZ 16 b.1) (wayZ (16 - a.1) b.1) ∧ ¬ lg_cmp (gcC 100 (wayZ 16 b.1) (wayZ (16 - a.1) b.1)) 0 = 0) ⟨a, ha⟩ ⟨b, hb⟩
def odN (a b : Nat) (w : Int32) : Int64 := if w = 0 then wayZ (16 - a) b / gcC 100 (wayZ 16 b) (wayZ (16 - a) b) else wayZ 16 b / gcC 100 (wayZ 16 b) (wayZ (16 - a) b)
def odZ (a b w : Int32) : Int64 := if inb a 17 = true ∧ inb b 17 = true then odN (ix a) (ix b) w else -1
theorem s16 {a : Nat} (h : a ≤ 16) : (16 : Int32) - nI a = nI (16 - a) := (by decide : ∀ a : Fin 17, (16 : Int32) - nI a.1 = nI (16 - a.1)) ⟨a, by omega⟩
theorem od_c {S : Mem} {x : Nat} {Z : Zs} (h : ClR S x Z) (a b w : Int32) (d : Nat) : OlC x S (cal (d + 9) 125 [vR 7 x, vI a, vI b, vI w] S) (odZ a b w) Z := by
  rw [B_X7_odds]
  unfold odZ
  rcases rng0 (N := 16) (by decide) a with ⟨g1, e⟩ | ⟨g1, g2, e⟩ | ⟨j, j1, rfl, e, g1, g2⟩
  · rw [if_pos g1, if_neg (fun z => by rw [e] at z; cases z.1)]; exact OlC_0 h
  · rw [if_neg g1, if_pos (show (16 : Int32) < a from g2), if_neg (fun z => by rw [e] at z; cases z.1)]; exact OlC_0 h
  · rw [if_neg g1, if_neg (show ¬ (16 : Int32) < nI j from g2)]
    rcases rng0 (N := 16) (by decide) b with ⟨g3, e'⟩ | ⟨g3, g4, e'⟩ | ⟨q, q1, rfl, e', g3, g4⟩
    · rw [if_pos g3, if_neg (fun z => by rw [e'] at z; cases z.2)]; exact OlC_0 h
    · rw [if_neg g3, if_neg (show ¬ b ≤ (16 : Int32) from Int32.not_le.mpr g4), if_neg (fun z => by rw [e'] at z; cases z.2)]; exact OlC_0 h
    · obtain ⟨h1, h2, h3⟩ := od_f (a := j) (b := q) (by omega) (by omega)
      have w16 : cal (d + 8) 154 [vI 16, vI (nI q)] S = some (some (vL (wayZ 16 q)), S) := way_c (n := 16) (by decide) q1 _ S
      rw [if_neg g3, if_pos (show nI q ≤ (16 : Int32) from Int32.not_lt.mp g4), s16 j1, way_c (by omega) q1, bL_s, w16, bL_s, low_c, if_pos ⟨e, e'⟩, ix_nI (by omega), ix_nI (by omega)]
      unfold lowG odN
      rw [if_neg h3, nzc h3, gd_t, gd_t]
      by_cases y : w = 0
      · rw [if_pos y, if_pos y, bL_s]; exact OlC_0 h
      · rw [if_neg y, if_neg y, bL_s]; exact OlC_0 h
theorem od_m {S : Mem} {r : Nat} {Z : Zs} (h : MoR S r Z) (a b w : Int32) (d : Nat) : OlM r S (cal (d + 9) 290 [vR 8 r, vI a, vI b, vI w] S) (odZ a b w) Z := by
  have q16 : ∀ y : Int32, (decide ((0 : Int32) ≤ y) && decide (y ≤ (16 : Int32))) = inb y 17 := fun y => isIn_inb 16 (by decide) y
  rw [B_X8_odds, sp_isIn, bI_s, q16, ite_b0]
  unfold odZ
  cases ha : inb a 17
  · rw [if_pos rfl, if_neg (fun z => by cases z.1)]; exact OlM_0 h
  · rw [if_neg (by decide), sp_isIn, bI_s, q16, ite_b0]
    cases hb : inb b 17
    · rw [if_pos rfl, if_neg (fun z => by cases z.2)]; exact OlM_0 h
    · obtain ⟨j, hj, rfl⟩ := inb_ex ha (by decide)
      obtain ⟨q, hq, rfl⟩ := inb_ex hb (by decide)
      obtain ⟨h1, h2, h3⟩ := od_f (a := j) (b := q) (by omega) (by omega)
      have w16 : cal (d + 8) 289 [vI 16, vI (nI q)] S = some (some (vL (wayZ 16 q)), S) := way_m (n := 16) (by decide) (by omega) _ S
      rw [if_neg (by decide), s16 (by omega), way_m (by omega) (by omega), bL_s, w16, bL_s, div_m _ 20 _ _ S h1, bL_s, bL_s, h2, nzc h3, gd_t, gd_t, if_pos (show true = true ∧ true = true from ⟨rfl, rfl⟩), ix_nI (by omega), ix_nI (by omega)]
      unfold odN
      by_cases y : w = 0
      · rw [if_pos y, if_pos y]; exact OlM_0 h
      · rw [if_neg y, if_neg y]; exact OlM_0 h
