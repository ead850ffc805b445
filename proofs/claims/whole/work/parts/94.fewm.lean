/-! the reference's fewest -/
def dj (Z : Zs) (s : Nat) : Prop := ∀ f g, s.testBit f = true → s.testBit g = true → ¬ f = g → prZ Z f g
def TU (Z : Zs) (r u N : Nat) (S : Mem) : Prop := ∀ s, s < N → sub s u → (dj Z s ∧ ∃ w, w < 65536 ∧ rdI S (r + 14) s = nI w ∧ ∀ k, w.testBit k = true ↔ ∃ f, s.testBit f = true ∧ (lfN Z f).testBit k = true) ∨ (¬ dj Z s ∧ rdI S (r + 14) s = -1)
theorem dj_rm {Z : Zs} {s f : Nat} (hs : s < 65536) (h : dj Z s) : dj Z (rmb s f) := fun a b ha hb hn => by
  rw [rmb_t hs, Bool.and_eq_true] at ha hb
  exact h a b ha.1 hb.1 hn
theorem dj_add {Z : Zs} {s f : Nat} (hs : s < 65536) (h : dj Z (rmb s f)) (h2 : ∀ g, (rmb s f).testBit g = true → prZ Z g f) : dj Z s := fun a b ha hb hn => by
  have t : ∀ c, s.testBit c = true → ¬ c = f → (rmb s f).testBit c = true := fun c hc hne => by
    rw [rmb_t hs, hc, decide_eq_false (fun z => hne z.symm)]; rfl
  by_cases z : a = f
  · rw [z]; exact prZ_s Z _ _ (h2 b (t b hb (fun y => hn (z.trans y.symm))))
  · by_cases y : b = f
    · rw [y]; exact h2 a (t a ha z)
    · exact h a b (t a ha z) (t b hb y) hn
theorem un_and {Z : Zs} {s f w : Nat} (hw : ∀ k, w.testBit k = true ↔ ∃ f, s.testBit f = true ∧ (lfN Z f).testBit k = true) : w &&& lfN Z f = 0 ↔ ∀ g, s.testBit g = true → prZ Z g f := by
  constructor
  · intro h g hg
    refine nat_0.mpr (fun k => ?_)
    have := nat_0.mp h k
    rw [Nat.testBit_and] at this ⊢
    cases g1 : (lfN Z g).testBit k
    · rfl
    · have hk := (hw k).mpr ⟨g, hg, g1⟩
      rw [hk] at this; exact this
  · intro h
    refine nat_0.mpr (fun k => ?_)
    rw [Nat.testBit_and]
    cases g1 : w.testBit k
    · rfl
    · obtain ⟨g, hg, h2⟩ := (hw k).mp g1
      have := nat_0.mp (h g hg) k
      rw [Nat.testBit_and, h2] at this; exact this
theorem TU_w {Z : Zs} {r u N : Nat} {v : Int32} {S : Mem} (h : TU Z r u N S) (hv : (dj Z N ∧ ∃ w, w < 65536 ∧ v = nI w ∧ ∀ k, w.testBit k = true ↔ ∃ f, N.testBit f = true ∧ (lfN Z f).testBit k = true) ∨ (¬ dj Z N ∧ v = -1)) : TU Z r u (N + 1) (wrI S (r + 14) N v) := fun s hs hsu => by
  by_cases e : s = N
  · subst e; rw [rdI_wrI, if_pos ⟨rfl, rfl⟩]; exact hv
  · rw [rdI_wrI, if_neg (fun z => e z.2)]; exact h s (by omega) hsu
theorem luo_m {S : Mem} {r u : Nat} {Z : Zs} (I : ZI Z) (hL : LvR Z r 12 S) (hu : u < 4096) (hT : TU Z r u 1 S) (d : Nat) : ∀ m, m ≤ u → ∃ q3 q4 S', ev (d + 2) 300 13 [vR 8 r, vI (nI u), vI 1, vU, vU] [] S = ev (d + 2) 300 13 [vR 8 r, vI (nI u), vI (nI (m + 1)), q3, q4] [] S' ∧ LvR Z r 12 S' ∧ TU Z r u (m + 1) S' ∧ FrP (r + 12) 3 S S' := by
  intro m
  induction m with
  | zero => intro _; exact ⟨vU, vU, S, rfl, hL, hT, FrP_r⟩
  | succ m ih =>
    intro hm
    obtain ⟨q3, q4, S1, e, l1, t1, f1⟩ := ih (by omega)
    rw [e, B_X8_layUnited_13, if_neg (nI_nlt (by omega) (by omega)), nI_1]
    by_cases hs : sub (m + 1) u
    · obtain ⟨f, hf, hbf, hlo⟩ := low_x (s := m + 1) (by omega) (by omega)
      have hr := rmb_lt (s := m + 1) (i := f) (by omega) hbf
      have lw : ∀ v, LvR Z r 12 (wrI S1 (r + 14) (m + 1) v) := fun v g hg => by rw [rdI_wrI, if_neg (by omega)]; exact l1 g hg
      have fw : ∀ v, FrP (r + 12) 3 S (wrI S1 (r + 14) (m + 1) v) := fun v => FrP_t f1 (FrP_w (by omega) (by omega))
      rw [if_pos ((sub_i (by omega)).mpr hs), lowBit_m d (by omega) (by omega) hbf hlo, bI_s, wto_m (by omega), bI_s, inb_t (by omega) (by decide), gd_t, ix_nI (by omega)]
      rcases t1 (rmb (m + 1) f) hr (sub_rm (by omega) hs) with ⟨dr, w, hw, ew, hwk⟩ | ⟨dr, ew⟩
      · obtain ⟨lf1, -⟩ := lfN_e I f
        rw [ew, if_neg (nI_m1 (by omega)), i12 hf, gd_t, x12 hf, l1 f hf, inb_t (by omega) (by decide), gd_t, ix_nI (by omega), gd_t]
        by_cases z : w &&& lfN Z f = 0
        · rw [if_pos ((and_z hw).mpr z), nI_or]
          refine ⟨vU, vU, _, rfl, lw _, TU_w t1 (Or.inl ⟨dj_add (by omega) dr ((un_and hwk).mp z), w ||| lfN Z f, Nat.or_lt_two_pow (n := 16) hw lf1, rfl, fun k => ?_⟩), fw _⟩
          rw [Nat.testBit_or, Bool.or_eq_true]
          constructor
          · rintro (h | h)
            · obtain ⟨g, hg, h2⟩ := (hwk k).mp h
              rw [rmb_t (by omega), Bool.and_eq_true] at hg
              exact ⟨g, hg.1, h2⟩
            · exact ⟨f, hbf, h⟩
          · rintro ⟨g, hg, h2⟩
            by_cases y : g = f
            · rw [y] at h2; exact Or.inr h2
            · exact Or.inl ((hwk k).mpr ⟨g, by rw [rmb_t (by omega), hg, decide_eq_false (fun x => y x.symm)]; rfl, h2⟩)
        · rw [if_neg (mt (and_z hw).mp z)]
          refine ⟨vU, vU, _, rfl, lw _, TU_w t1 (Or.inr ⟨fun hd => z ((un_and hwk).mpr (fun g hg => ?_)), rfl⟩), fw _⟩
          rw [rmb_t (by omega), Bool.and_eq_true] at hg
          refine hd g f hg.1 hbf (fun y => ?_)
          rw [y, decide_eq_true rfl] at hg
          exact absurd hg.2 (by decide)
      · rw [ew, if_pos rfl, inb_t (by omega) (by decide), gd_t, ix_nI (by omega)]
        exact ⟨vU, vU, _, rfl, lw _, TU_w t1 (Or.inr ⟨fun hd => dr (dj_rm (by omega) hd), rfl⟩), fw _⟩
    · rw [if_neg (mt (sub_i (by omega)).mp hs)]
      exact ⟨vU, vU, S1, rfl, l1, fun s h1 h2 => by
        by_cases z : s = m + 1
        · subst z; exact absurd h2 hs
        · exact t1 s (by omega) h2, f1⟩
theorem lu_m {S : Mem} {r u : Nat} {Z : Zs} (h : RP S (r + 1) 4 (zA Z)) (I : ZI Z) (hu : u < 4096) (d : Nat) : ∃ S', cal (d + 2) 300 [vR 8 r, vI (nI u)] S = some (none, S') ∧ LvR Z r 12 S' ∧ TU Z r u (u + 1) S' ∧ FrP (r + 12) 3 S S' := by
  obtain ⟨S1, e1, l1, f1⟩ := ll_m h I d
  have t1 : TU Z r u 1 (wrI S1 (r + 14) 0 0) := fun s hs _ => by
    have : s = 0 := by omega
    subst this
    refine Or.inl ⟨fun f g hf => (by rw [Nat.zero_testBit] at hf; cases hf), 0, by decide, by rw [rdI_wrI, if_pos ⟨rfl, rfl⟩]; rfl, fun k => ⟨fun hk => (by rw [Nat.zero_testBit] at hk; cases hk), fun ⟨f, hf, _⟩ => (by rw [Nat.zero_testBit] at hf; cases hf)⟩⟩
  have l2 : LvR Z r 12 (wrI S1 (r + 14) 0 0) := fun g hg => by rw [rdI_wrI, if_neg (by omega)]; exact l1 g hg
  obtain ⟨q3, q4, S2, e2, l3, t3, f2⟩ := luo_m I l2 hu t1 d u (Nat.le_refl _)
  refine ⟨S2, ?_, l3, t3, FrP_t (FrP_t ⟨fun c hc => f1.1 c (by omega), f1.2⟩ (FrP_w (by omega) (by omega))) f2⟩
  rw [B_X8_layUnited, e1, bV_s, gd_p (show inb 0 4096 = true by decide), show ix 0 = 0 from rfl, e2, B_X8_layUnited_13, if_pos (nI_lt (by omega) (by omega))]
def andn (a b : Nat) : Nat := a &&& (b ^^^ 4294967295)
theorem andn_t {a b : Nat} (h : a < 65536) (k : Nat) : (andn a b).testBit k = (a.testBit k && !(b.testBit k)) := andn_b h k
theorem andn_le (a b : Nat) : andn a b ≤ a := Nat.and_le_left
theorem andn_e (a b : Nat) : nI a &&& (nI b ^^^ -1) = nI (andn a b) := by
  have e1 : (-1 : Int32) = nI 4294967295 := by decide
  rw [e1, nI_xor, nI_and]; rfl
def TG (Z : Zs) (r u N : Nat) (S : Mem) : Prop := ∀ s, s < N → sub s u → ∃ v, v ≤ 12 ∧ rdI S (r + 15) s = nI v ∧ IsV (prZ Z) (bP s) v
theorem Cv_add {Z : Zs} {s f m w : Nat} (hs : s < 65536) (hm : sub m (rmb s f)) (hbf : s.testBit f = true) (hd : dj Z (m ||| 2 ^ f)) (h : Cv (prZ Z) (bP (andn (rmb s f) m)) w) : Cv (prZ Z) (bP s) (1 + w) := by
  have hr := rmb_le s f
  obtain ⟨c, h1, h2⟩ := h
  have ht : ∀ g, bP s g → (m ||| 2 ^ f).testBit g = false → bP (andn (rmb s f) m) g := fun g hg hn => by
    have hg : s.testBit g = true := hg
    rw [Nat.testBit_or, Bool.or_eq_false_iff, Nat.testBit_two_pow] at hn
    show (andn (rmb s f) m).testBit g = true
    rw [andn_t (by omega), rmb_t hs, hg, hn.1, hn.2]; rfl
  refine ⟨fun g => if (m ||| 2 ^ f).testBit g = true then w else c g, fun g hg => ?_, fun a b ha hb hn he => ?_⟩
  · try dsimp only
    cases z : (m ||| 2 ^ f).testBit g
    · rw [if_neg (by decide)]
      have := h1 g (ht g hg z); omega
    · rw [if_pos rfl]; omega
  · try dsimp only at he
    cases z : (m ||| 2 ^ f).testBit a <;> cases y : (m ||| 2 ^ f).testBit b
    · rw [z, y, if_neg (by decide), if_neg (by decide)] at he
      exact h2 a b (ht a ha z) (ht b hb y) hn he
    · rw [z, y, if_neg (by decide), if_pos rfl] at he
      have := h1 a (ht a ha z); omega
    · rw [z, y, if_pos rfl, if_neg (by decide)] at he
      have := h1 b (ht b hb y); omega
    · exact hd a b z y hn
theorem Cv_cut {Z : Zs} {s f k : Nat} (hs : s < 4096) (hf : f < 12) (hbf : s.testBit f = true) (h : Cv (prZ Z) (bP s) k) : 0 < k ∧ ∃ m, sub m (rmb s f) ∧ dj Z (m ||| 2 ^ f) ∧ Cv (prZ Z) (bP (andn (rmb s f) m)) (k - 1) := by
  have hr := rmb_le s f
  obtain ⟨c, h1, h2⟩ := h
  have hk := h1 f hbf
  have hl12 : ∀ g, s.testBit g = true → g < 12 := fun g hg => by
    rcases Nat.lt_or_ge g 12 with z | z
    · exact z
    · have h3 : 2 ^ 12 ≤ 2 ^ g := Nat.pow_le_pow_right (by decide) z
      have h4 : 2 ^ 12 = 4096 := by decide
      rw [Nat.testBit_lt_two_pow (by omega)] at hg; cases hg
  have hmt : ∀ g, (bsN (fun g => (rmb s f).testBit g && decide (c g = c f)) 12).testBit g = true ↔ (rmb s f).testBit g = true ∧ c g = c f := fun g => by
    rw [bsN_t, Bool.and_eq_true, Bool.and_eq_true, decide_eq_true_iff, decide_eq_true_iff]
    refine ⟨fun z => z.2, fun z => ⟨?_, z⟩⟩
    have := z.1
    rw [rmb_t (by omega), Bool.and_eq_true] at this
    exact hl12 g this.1
  refine ⟨by omega, bsN (fun g => (rmb s f).testBit g && decide (c g = c f)) 12, fun g hg => ((hmt g).mp hg).1, fun a b ha hb hn => ?_, ?_⟩
  · have hx : ∀ a, (bsN (fun g => (rmb s f).testBit g && decide (c g = c f)) 12 ||| 2 ^ f).testBit a = true → bP s a ∧ c a = c f := fun a ha => by
      rw [Nat.testBit_or, Bool.or_eq_true, Nat.testBit_two_pow, decide_eq_true_iff] at ha
      rcases ha with z | z
      · obtain ⟨z1, z2⟩ := (hmt a).mp z
        rw [rmb_t (by omega), Bool.and_eq_true] at z1
        exact ⟨z1.1, z2⟩
      · rw [← z]; exact ⟨hbf, rfl⟩
    exact h2 a b (hx a ha).1 (hx b hb).1 hn ((hx a ha).2.trans (hx b hb).2.symm)
  · have hx : ∀ a, bP (andn (rmb s f) (bsN (fun g => (rmb s f).testBit g && decide (c g = c f)) 12)) a → bP s a ∧ ¬ c a = c f := fun a ha => by
      have ha : (andn (rmb s f) (bsN (fun g => (rmb s f).testBit g && decide (c g = c f)) 12)).testBit a = true := ha
      rw [andn_t (by omega), Bool.and_eq_true] at ha
      have h3 := ha.1
      rw [rmb_t (by omega), Bool.and_eq_true] at h3
      refine ⟨h3.1, fun z => ?_⟩
      rw [(hmt a).mpr ⟨ha.1, z⟩] at ha
      exact absurd ha.2 (by decide)
    refine ⟨fun a => if c a = k - 1 then c f else c a, fun a ha => ?_, fun a b ha hb hn he => h2 a b (hx a ha).1 (hx b hb).1 hn ?_⟩
    · have := h1 a (hx a ha).1
      have := (hx a ha).2
      try dsimp only
      by_cases z : c a = k - 1
      · rw [if_pos z]; omega
      · rw [if_neg z]; omega
    · have n1 := (hx a ha).2
      have n2 := (hx b hb).2
      try dsimp only at he
      by_cases z : c a = k - 1
      · rw [if_pos z] at he
        by_cases y : c b = k - 1
        · omega
        · rw [if_neg y] at he; omega
      · rw [if_neg z] at he
        by_cases y : c b = k - 1
        · rw [if_pos y] at he; omega
        · rw [if_neg y] at he; exact he
theorem fwi_m {S : Mem} {r u : Nat} {Z : Zs} (hU : TU Z r u (u + 1) S) {s f : Nat} (hG : TG Z r u s S) (hs : s < 4096) (hu : sub s u) (hu4 : u < 4096) (hf : f < 12) (hbf : s.testBit f = true) (d : Nat) : ∀ N m v, m < N → sub m (rmb s f) → v ≤ 12 → Cv (prZ Z) (bP s) v → (∀ m', sub m' (rmb s f) → m < m' → dj Z (m' ||| 2 ^ f) → ∀ w, IsV (prZ Z) (bP (andn (rmb s f) m')) w → v ≤ 1 + w) → ∃ v', ev (d + 1) 301 55 [vR 8 r, vI (nI u), vI (nI s), vI (nI f), vI (nI (rmb s f)), vI (nI v), vI (nI m)] [] S = ev (d + 1) 301 55 [vR 8 r, vI (nI u), vI (nI s), vI (nI f), vI (nI (rmb s f)), vI (nI v'), vI (-1)] [] S ∧ v' ≤ 12 ∧ Cv (prZ Z) (bP s) v' ∧ ∀ m', sub m' (rmb s f) → dj Z (m' ||| 2 ^ f) → ∀ w, IsV (prZ Z) (bP (andn (rmb s f) m')) w → v' ≤ 1 + w := by
  have hr := rmb_lt (s := s) (i := f) (by omega) hbf
  intro N
  induction N with
  | zero => intro m v h; omega
  | succ N ih =>
    intro m v hmN hm hv hC hP
    have hmr := sub_le hm
    have h2f : 2 ^ f < 4096 := by
      have h3 : 2 ^ f < 2 ^ 12 := Nat.pow_lt_pow_right (by decide) hf
      have h4 : 2 ^ 12 = 4096 := by decide
      omega
    have hor : m ||| 2 ^ f < 4096 := Nat.or_lt_two_pow (n := 12) (by omega) (by omega)
    have hsub : sub (m ||| 2 ^ f) u := fun k hk => by
      rw [Nat.testBit_or, Bool.or_eq_true, Nat.testBit_two_pow, decide_eq_true_iff] at hk
      rcases hk with z | z
      · exact sub_rm (by omega) hu k (hm k z)
      · rw [← z]; exact hu f hbf
    have hsl := sub_le hsub
    have han := andn_le (rmb s f) m
    have hsa : sub (andn (rmb s f) m) u := fun k hk => by
      rw [andn_t (by omega), Bool.and_eq_true] at hk
      exact sub_rm (by omega) hu k hk.1
    have go : ∀ v1, v1 ≤ v → v1 ≤ 12 → Cv (prZ Z) (bP s) v1 → (dj Z (m ||| 2 ^ f) → ∀ w, IsV (prZ Z) (bP (andn (rmb s f) m)) w → v1 ≤ 1 + w) → ∃ v', (if nI m = 0 then ev (d + 1) 301 55 [vR 8 r, vI (nI u), vI (nI s), vI (nI f), vI (nI (rmb s f)), vI (nI v1), vI (-1)] [] S else ev (d + 1) 301 55 [vR 8 r, vI (nI u), vI (nI s), vI (nI f), vI (nI (rmb s f)), vI (nI v1), vI ((nI m - 1) &&& nI (rmb s f))] [] S) = ev (d + 1) 301 55 [vR 8 r, vI (nI u), vI (nI s), vI (nI f), vI (nI (rmb s f)), vI (nI v'), vI (-1)] [] S ∧ v' ≤ 12 ∧ Cv (prZ Z) (bP s) v' ∧ ∀ m', sub m' (rmb s f) → dj Z (m' ||| 2 ^ f) → ∀ w, IsV (prZ Z) (bP (andn (rmb s f) m')) w → v' ≤ 1 + w := by
      intro v1 a1 a2 a3 a4
      have nxt : ∀ m', sub m' (rmb s f) → m ≤ m' → dj Z (m' ||| 2 ^ f) → ∀ w, IsV (prZ Z) (bP (andn (rmb s f) m')) w → v1 ≤ 1 + w := fun m' b1 b2 b3 w b4 => by
        by_cases z : m' = m
        · rw [z] at b3 b4; exact a4 b3 w b4
        · have := hP m' b1 (by omega) b3 w b4; omega
      by_cases z : m = 0
      · rw [if_pos (by rw [z]; rfl)]
        exact ⟨v1, rfl, a2, a3, fun m' b1 b3 w b4 => nxt m' b1 (by omega) b3 w b4⟩
      · have hlt : (m - 1) &&& rmb s f ≤ m - 1 := Nat.and_le_left
        rw [if_neg (nI_ne0 (by omega) (by omega)), s1_sub (by omega), nI_and]
        refine ih _ v1 (by omega) and_sub a2 a3 (fun m' b1 b2 b3 w b4 => nxt m' b1 ?_ b3 w b4)
        rcases Nat.lt_or_ge m' m with y | y
        · have := sub_nx (m + 1) m (rmb s f) m' (by omega) hm b1 y; omega
        · exact y
    rw [B_X8_fewest_55, if_neg (nI_pos (by omega)), shl1 (by omega), nI_or, inb_t (by omega) (by decide), gd_t, ix_nI (by omega)]
    rcases hU (m ||| 2 ^ f) (by omega) hsub with ⟨hd, w1, hw1, ew1, -⟩ | ⟨hd, ew1⟩
    · obtain ⟨w, wl, ew, hw⟩ := hG (andn (rmb s f) m) (by omega) hsa
      have m1 : (1 : Int32) + nI w = nI (1 + w) := nI_add 1 w
      rw [ew1, if_neg (nI_m1 (by omega)), andn_e, inb_t (by omega) (by decide), gd_t, gd_t, ix_nI (by omega), ew, m1]
      by_cases z : v ≤ 1 + w
      · rw [if_pos (nI_le z (by omega))]
        exact go v (Nat.le_refl _) hv hC (fun _ w' hw' => by rw [IsV_u hw' hw]; exact z)
      · rw [if_neg (nI_ge (by omega) (by omega))]
        exact go (1 + w) (by omega) (by omega) (Cv_add (by omega) hm hbf hd hw.1) (fun _ w' hw' => by rw [IsV_u hw' hw]; exact Nat.le_refl _)
    · rw [ew1, if_pos rfl]
      exact go v (Nat.le_refl _) hv hC (fun h => absurd h hd)
theorem TG_w {Z : Zs} {r u N v : Nat} {S : Mem} (h : TG Z r u N S) (hv : IsV (prZ Z) (bP N) v) (hb : v ≤ 12) : TG Z r u (N + 1) (wrI S (r + 15) N (nI v)) := fun s hs hsu => by
  by_cases e : s = N
  · subst e; exact ⟨v, hb, by rw [rdI_wrI, if_pos ⟨rfl, rfl⟩], hv⟩
  · obtain ⟨w, e1, e2, e3⟩ := h s (by omega) hsu
    exact ⟨w, e1, by rw [rdI_wrI, if_neg (fun z => e z.2)]; exact e2, e3⟩
theorem TU_k {Z : Zs} {r u N : Nat} {S S' : Mem} (h : TU Z r u N S) (e : rdI S' (r + 14) = rdI S (r + 14)) : TU Z r u N S' := fun s h1 h2 => by rw [e]; exact h s h1 h2
theorem fwo_m {S : Mem} {r u : Nat} {Z : Zs} (hU : TU Z r u (u + 1) S) (hu : u < 4096) (hT : TG Z r u 1 S) (d : Nat) : ∀ m, m ≤ u → ∃ q3 q4 q5 q6 S', ev (d + 2) 301 19 [vR 8 r, vI (nI u), vI 1, vU, vU, vU, vU] [] S = ev (d + 2) 301 19 [vR 8 r, vI (nI u), vI (nI (m + 1)), q3, q4, q5, q6] [] S' ∧ TU Z r u (u + 1) S' ∧ TG Z r u (m + 1) S' ∧ FrP (r + 12) 4 S S' := by
  intro m
  induction m with
  | zero => intro _; exact ⟨vU, vU, vU, vU, S, rfl, hU, hT, FrP_r⟩
  | succ m ih =>
    intro hm
    obtain ⟨q3, q4, q5, q6, S1, e, u1, t1, f1⟩ := ih (by omega)
    rw [e, B_X8_fewest_19, if_neg (nI_nlt (by omega) (by omega)), nI_1]
    by_cases hs : sub (m + 1) u
    · obtain ⟨f, hf, hbf, hlo⟩ := low_x (s := m + 1) (by omega) (by omega)
      have hr := rmb_lt (s := m + 1) (i := f) (by omega) hbf
      have l12 : ∀ g, bP (m + 1) g → g < 12 := fun g hg => by
        have hg : (m + 1).testBit g = true := hg
        rcases Nat.lt_or_ge g 12 with z | z
        · exact z
        · have h3 : 2 ^ 12 ≤ 2 ^ g := Nat.pow_le_pow_right (by decide) z
          have h4 : 2 ^ 12 = 4096 := by decide
          rw [Nat.testBit_lt_two_pow (by omega)] at hg; cases hg
      have c12 : Cv (prZ Z) (bP (m + 1)) 12 := ⟨fun g => g, l12, fun a b _ _ hn he => absurd he hn⟩
      obtain ⟨v, e2, v1, v2, v3⟩ := fwi_m u1 t1 (by omega) hs hu hf hbf (d + 1) (rmb (m + 1) f + 1) (rmb (m + 1) f) 12 (by omega) (fun _ h => h) (Nat.le_refl _) c12 (fun m' b1 b2 => by have := sub_le b1; omega)
      have hV : IsV (prZ Z) (bP (m + 1)) v := by
        refine ⟨v2, fun k hk hc => ?_⟩
        obtain ⟨k0, m', b1, b2, b3⟩ := Cv_cut (by omega) hf hbf hc
        have ha := andn_le (rmb (m + 1) f) m'
        obtain ⟨w, w1, w2, w3⟩ := t1 (andn (rmb (m + 1) f) m') (by omega) (fun j hj => by
          rw [andn_t (by omega), Bool.and_eq_true] at hj
          exact sub_rm (by omega) hs j hj.1)
        have h4 := v3 m' b1 b2 w w3
        rcases Nat.lt_or_ge (k - 1) w with z | z
        · exact w3.2 _ z b3
        · omega
      have e2' : ev (d + 2) 301 55 [vR 8 r, vI (nI u), vI (nI (m + 1)), vI (nI f), vI (nI (rmb (m + 1) f)), vI 12, vI (nI (rmb (m + 1) f))] [] S1 = _ := e2
      rw [if_pos ((sub_i (by omega)).mpr hs), lowBit_m d (by omega) (by omega) hbf hlo, bI_s, wto_m (by omega), bI_s, e2', B_X8_fewest_55, if_pos m1_lt, inb_t (by omega) (by decide), gd_t, ix_nI (by omega), nI_1]
      exact ⟨vU, vU, vU, vU, _, rfl, TU_k u1 (funext fun b => by rw [rdI_wrI, if_neg (by omega)]), TG_w t1 hV v1, FrP_t f1 (FrP_w (by omega) (by omega))⟩
    · rw [if_neg (mt (sub_i (by omega)).mp hs)]
      exact ⟨vU, vU, vU, vU, S1, rfl, u1, fun s h1 h2 => by
        by_cases z : s = m + 1
        · subst z; exact absurd h2 hs
        · exact t1 s (by omega) h2, f1⟩
theorem few_m {S : Mem} {r : Nat} {Z : Zs} (h : MoR S r Z) (I : ZI Z) (d : Nat) : OkM r S (cal (d + 30) 301 [vR 8 r] S) (nI (fewN Z)) Z := by
  obtain ⟨hu, eu, -⟩ := usN_e I
  obtain ⟨S1, e1, l1, t1, f1⟩ := lu_m (mA h) I hu (d + 27)
  have g1 : TG Z r (usN Z) 1 (wrI S1 (r + 15) 0 0) := fun s hs _ => by
    have : s = 0 := by omega
    subst this
    refine ⟨0, by decide, by rw [rdI_wrI, if_pos ⟨rfl, rfl⟩]; rfl, ⟨fun _ => 0, fun f hf => ?_, fun f g hf => ?_⟩, fun k hk => absurd hk (Nat.not_lt_zero _)⟩
    · have hf : (0 : Nat).testBit f = true := hf
      rw [Nat.zero_testBit] at hf; cases hf
    · have hf : (0 : Nat).testBit f = true := hf
      rw [Nat.zero_testBit] at hf; cases hf
  obtain ⟨q3, q4, q5, q6, S2, e2, u2, g2, f2⟩ := fwo_m (S := wrI S1 (r + 15) 0 0) (TU_k t1 (funext fun b => by rw [rdI_wrI, if_neg (by omega)])) hu g1 (d + 28) (usN Z) (Nat.le_refl _)
  obtain ⟨v, v1, v2, v3⟩ := g2 (usN Z) (by omega) (sub_r _)
  have fa : FrP (r + 12) 5 S S2 := FrP_t (FrP_t ⟨fun c hc => f1.1 c (by omega), f1.2⟩ (FrP_w (by omega) (by omega))) ⟨fun c hc => f2.1 c (by omega), f2.2⟩
  obtain ⟨c, fy⟩ := MoR_P h I fa (by omega) (by omega)
  rw [B_X8_fewest, km_used (mA h), bI_s, eu, e1, bV_s, gd_p (show inb 0 4096 = true by decide), show ix 0 = 0 from rfl, e2, B_X8_fewest_19, if_pos (nI_lt (by omega) (by omega)), inb_t (by omega) (by decide), gd_t, ix_nI (by omega), v2, fewN_e v3]
  exact ⟨S2, rfl, c, fy⟩
