/-! covers: the fewest groups of a set -/
def Cv (pr : Nat → Nat → Prop) (P : Nat → Prop) (k : Nat) : Prop := ∃ c : Nat → Nat, (∀ f, P f → c f < k) ∧ ∀ f g, P f → P g → ¬ f = g → c f = c g → pr f g
def IsV (pr : Nat → Nat → Prop) (P : Nat → Prop) (v : Nat) : Prop := Cv pr P v ∧ ∀ k, k < v → ¬ Cv pr P k
theorem IsV_u {pr : Nat → Nat → Prop} {P : Nat → Prop} {v w : Nat} (h : IsV pr P v) (h2 : IsV pr P w) : v = w := by
  rcases Nat.lt_trichotomy v w with z | z | z
  · exact absurd h.1 (h2.2 v z)
  · exact z
  · exact absurd h2.1 (h.2 w z)
def upf (G : Nat → Nat) (g v : Nat) : Nat → Nat := fun x => if x = g then v else G x
theorem upf_s (G : Nat → Nat) (g v : Nat) : upf G g v g = v := if_pos rfl
theorem upf_n {G : Nat → Nat} {g v x : Nat} (h : ¬ x = g) : upf G g v x = G x := if_neg h
theorem or_and0 {a b c : Nat} : (a ||| b) &&& c = 0 ↔ a &&& c = 0 ∧ b &&& c = 0 := by
  have e : (a ||| b) &&& c = (a &&& c) ||| (b &&& c) := Nat.eq_of_testBit_eq (fun i => by
    rw [Nat.testBit_and, Nat.testBit_or, Nat.testBit_or, Nat.testBit_and, Nat.testBit_and]
    cases a.testBit i <;> cases b.testBit i <;> cases c.testBit i <;> rfl)
  rw [e]
  refine ⟨fun h => ⟨?_, ?_⟩, fun ⟨h1, h2⟩ => by rw [h1, h2]; rfl⟩
  · have := Nat.left_le_or (n := a &&& c) (m := b &&& c); omega
  · have := Nat.right_le_or (n := a &&& c) (m := b &&& c); omega
/-- from the i-th on can all be put into k groups, of which u have G in them -/
def Ext (lv : Nat → Nat) (n i u : Nat) (G : Nat → Nat) (k : Nat) : Prop := u ≤ k ∧ ∃ c : Nat → Nat, (∀ j, i ≤ j → j < n → c j < k ∧ (c j < u → G (c j) &&& lv j = 0)) ∧ ∀ j j', i ≤ j → j < n → i ≤ j' → j' < n → ¬ j = j' → c j = c j' → lv j &&& lv j' = 0
theorem Ext_n (lv : Nat → Nat) (n u : Nat) (G : Nat → Nat) : Ext lv n n u G u := ⟨Nat.le_refl _, fun _ => 0, fun j h1 h2 => by omega, fun j j' h1 h2 => by omega⟩
theorem Ext_g {lv : Nat → Nat} {n i u g : Nat} {G : Nat → Nat} {k : Nat} (hg : g < u) (h0 : G g &&& lv i = 0) (h : Ext lv n (i + 1) u (upf G g (G g ||| lv i)) k) : Ext lv n i u G k := by
  obtain ⟨hu, c, h1, h2⟩ := h
  have hx : ∀ j, i + 1 ≤ j → j < n → c j = g → G g &&& lv j = 0 ∧ lv i &&& lv j = 0 := fun j j1 j2 e => by
    have := (h1 j j1 j2).2 (by omega)
    rw [e, upf_s] at this
    exact or_and0.mp this
  refine ⟨hu, fun j => if j = i then g else c j, fun j j1 j2 => ?_, fun j j' j1 j2 j3 j4 hn he => ?_⟩
  · try dsimp only
    by_cases z : j = i
    · rw [if_pos z, z]; exact ⟨by omega, fun _ => h0⟩
    · rw [if_neg z]
      refine ⟨(h1 j (by omega) j2).1, fun y => ?_⟩
      by_cases w : c j = g
      · rw [w]; exact (hx j (by omega) j2 w).1
      · have := (h1 j (by omega) j2).2 y
        rwa [upf_n w] at this
  · try dsimp only at he
    by_cases z : j = i
    · rw [if_pos z, if_neg (by omega)] at he
      rw [z]; exact (hx j' (by omega) j4 he.symm).2
    · rw [if_neg z] at he
      by_cases z' : j' = i
      · rw [if_pos z'] at he
        rw [z', Nat.and_comm]; exact (hx j (by omega) j2 he).2
      · rw [if_neg z'] at he
        exact h2 j j' (by omega) j2 (by omega) j4 hn he
theorem Ext_w {lv : Nat → Nat} {n i u : Nat} {G : Nat → Nat} {k : Nat} (h : Ext lv n (i + 1) (u + 1) (upf G u (lv i)) k) : Ext lv n i u G k := by
  obtain ⟨hu, c, h1, h2⟩ := h
  have hx : ∀ j, i + 1 ≤ j → j < n → c j = u → lv i &&& lv j = 0 := fun j j1 j2 e => by
    have := (h1 j j1 j2).2 (by omega)
    rwa [e, upf_s] at this
  refine ⟨by omega, fun j => if j = i then u else c j, fun j j1 j2 => ?_, fun j j' j1 j2 j3 j4 hn he => ?_⟩
  · try dsimp only
    by_cases z : j = i
    · rw [if_pos z]; exact ⟨by omega, fun y => by omega⟩
    · rw [if_neg z]
      refine ⟨(h1 j (by omega) j2).1, fun y => ?_⟩
      have := (h1 j (by omega) j2).2 (by omega)
      rwa [upf_n (by omega)] at this
  · try dsimp only at he
    by_cases z : j = i
    · rw [if_pos z, if_neg (by omega)] at he
      rw [z]; exact hx j' (by omega) j4 he.symm
    · rw [if_neg z] at he
      by_cases z' : j' = i
      · rw [if_pos z'] at he
        rw [z', Nat.and_comm]; exact hx j (by omega) j2 he
      · rw [if_neg z'] at he
        exact h2 j j' (by omega) j2 (by omega) j4 hn he
theorem Ext_c {lv : Nat → Nat} {n i u : Nat} {G : Nat → Nat} {k : Nat} (hi : i < n) (h : Ext lv n i u G k) : (∃ g, g < u ∧ G g &&& lv i = 0 ∧ Ext lv n (i + 1) u (upf G g (G g ||| lv i)) k) ∨ Ext lv n (i + 1) (u + 1) (upf G u (lv i)) k := by
  obtain ⟨hu, c, h1, h2⟩ := h
  obtain ⟨i1, i2⟩ := h1 i (Nat.le_refl _) hi
  by_cases hc : c i < u
  · left
    refine ⟨c i, hc, i2 hc, hu, c, fun j j1 j2 => ⟨(h1 j (by omega) j2).1, fun y => ?_⟩, fun j j' j1 j2 j3 j4 hn he => h2 j j' (by omega) j2 (by omega) j4 hn he⟩
    by_cases w : c j = c i
    · rw [w, upf_s]
      refine or_and0.mpr ⟨?_, h2 i j (Nat.le_refl _) hi (by omega) j2 (by omega) w.symm⟩
      rw [← w]; exact (h1 j (by omega) j2).2 y
    · rw [upf_n w]; exact (h1 j (by omega) j2).2 y
  · right
    have sw : ∀ x, (if x = c i then u else if x = u then c i else x) < k ↔ x < k := fun x => by
      by_cases z : x = c i
      · rw [if_pos z, z]; omega
      · rw [if_neg z]
        by_cases y : x = u
        · rw [if_pos y, y]; omega
        · rw [if_neg y]
    refine ⟨by omega, fun j => if c j = c i then u else if c j = u then c i else c j, fun j j1 j2 => ⟨(sw _).mpr (h1 j (by omega) j2).1, fun y => ?_⟩, fun j j' j1 j2 j3 j4 hn he => h2 j j' (by omega) j2 (by omega) j4 hn ?_⟩
    · try dsimp only at y ⊢
      by_cases z : c j = c i
      · rw [if_pos z, upf_s]
        exact h2 i j (Nat.le_refl _) hi (by omega) j2 (by omega) z.symm
      · rw [if_neg z] at y ⊢
        by_cases w : c j = u
        · rw [if_pos w] at y; omega
        · rw [if_neg w] at y ⊢
          rw [upf_n w]
          exact (h1 j (by omega) j2).2 (by omega)
    · try dsimp only at he
      by_cases z : c j = c i
      · rw [if_pos z] at he
        by_cases z' : c j' = c i
        · omega
        · rw [if_neg z'] at he
          by_cases w' : c j' = u
          · rw [if_pos w'] at he; omega
          · rw [if_neg w'] at he; omega
      · rw [if_neg z] at he
        by_cases w : c j = u
        · rw [if_pos w] at he
          by_cases z' : c j' = c i
          · rw [if_pos z'] at he; omega
          · rw [if_neg z'] at he
            by_cases w' : c j' = u
            · omega
            · rw [if_neg w'] at he; omega
        · rw [if_neg w] at he
          by_cases z' : c j' = c i
          · rw [if_pos z'] at he; omega
          · rw [if_neg z'] at he
            by_cases w' : c j' = u
            · rw [if_pos w'] at he; omega
            · rw [if_neg w'] at he; exact he
/-! how many of a set; pigeons -/
def ctB (P : Nat → Bool) : Nat → Nat
  | 0 => 0
  | n + 1 => ctB P n + cond (P n) 1 0
theorem ctB_s (P : Nat → Bool) (n : Nat) : ctB P (n + 1) = ctB P n + cond (P n) 1 0 := rfl
theorem cond_le (b : Bool) : cond b 1 0 ≤ (1 : Nat) := by cases b <;> decide
theorem ctB_le (P : Nat → Bool) : ∀ n, ctB P n ≤ n
  | 0 => Nat.le_refl 0
  | n + 1 => by
    have := ctB_le P n
    have := cond_le (P n)
    rw [ctB_s]; omega
theorem ctB_c {P Q : Nat → Bool} : ∀ n, (∀ i, i < n → P i = Q i) → ctB P n = ctB Q n
  | 0, _ => rfl
  | n + 1, h => by rw [ctB_s, ctB_s, ctB_c n (fun i hi => h i (by omega)), h n (by omega)]
theorem ctB_w {P Q : Nat → Bool} {f : Nat} (hf : P f = false) (hq : Q f = true) : ∀ n, f < n → (∀ i, i < n → ¬ i = f → P i = Q i) → ctB Q n = ctB P n + 1
  | 0, h, _ => by omega
  | n + 1, h, e => by
    rw [ctB_s, ctB_s]
    by_cases z : f = n
    · rw [← z, hf, hq, ctB_c (P := Q) (Q := P) f (fun i hi => (e i (by omega) (by omega)).symm)]; rfl
    · rw [ctB_w hf hq n (by omega) (fun i hi => e i (by omega)), e n (by omega) (fun y => z y.symm)]; omega
theorem ctB_lt {P : Nat → Bool} {f n : Nat} (hf : P f = false) (h : f < n) : ctB P n < n := by
  have e := ctB_w (P := P) (Q := fun i => if i = f then true else P i) hf (if_pos rfl) n h (fun i _ hi => (if_neg hi).symm)
  have := ctB_le (fun i => if i = f then true else P i) n
  omega
theorem pigeon : ∀ (k N : Nat) (Q : Nat → Bool) (c : Nat → Nat), (∀ f, f < N → Q f = true → c f < k) → (∀ f g, f < N → g < N → Q f = true → Q g = true → c f = c g → f = g) → ctB Q N ≤ k
  | 0, N, Q, c, h1, _ => by
    have e : ctB Q N = ctB (fun _ => false) N := ctB_c N (fun i hi => by
      cases g : Q i
      · rfl
      · exact absurd (h1 i hi g) (Nat.not_lt_zero _))
    have z : ∀ n, ctB (fun _ => false) n = 0 := fun n => by
      induction n with
      | zero => rfl
      | succ n ih => rw [ctB_s, ih]; rfl
    rw [e, z]; exact Nat.le_refl _
  | k + 1, N, Q, c, h1, h2 => by
    by_cases hx : ∃ f, f < N ∧ Q f = true ∧ c f = k
    · obtain ⟨f, hf, hq, e⟩ := hx
      have ew := ctB_w (P := fun i => if i = f then false else Q i) (Q := Q) (if_pos rfl) hq N hf (fun i _ hi => if_neg hi)
      have := pigeon k N (fun i => if i = f then false else Q i) c (fun g hg hgq => by
        try dsimp only at hgq
        by_cases z : g = f
        · rw [if_pos z] at hgq; cases hgq
        · rw [if_neg z] at hgq
          have := h1 g hg hgq
          by_cases y : c g = k
          · exact absurd (h2 g f hg hf hgq hq (by omega)) z
          · omega) (fun a b ha hb qa qb e => by
        try dsimp only at qa qb
        by_cases z : a = f
        · rw [if_pos z] at qa; cases qa
        · by_cases y : b = f
          · rw [if_pos y] at qb; cases qb
          · rw [if_neg z] at qa
            rw [if_neg y] at qb
            exact h2 a b ha hb qa qb e)
      omega
    · have := pigeon k N Q c (fun f hf hq => by
        have := h1 f hf hq
        by_cases z : c f = k
        · exact absurd ⟨f, hf, hq, z⟩ hx
        · omega) h2
      omega
/-- the sets within one, from above -/
theorem sub_and {s u : Nat} (h : sub s u) : s &&& u = s := Nat.eq_of_testBit_eq (fun k => by
    rw [Nat.testBit_and]
    cases g : s.testBit k
    · rfl
    · rw [h k g]; rfl)
theorem and_sub {s u : Nat} : sub (s &&& u) u := fun k hk => by
  rw [Nat.testBit_and, Bool.and_eq_true] at hk; exact hk.2
theorem sub_2 {s u : Nat} (h : sub s u) : sub (s / 2) (u / 2) := fun k hk => by
  rw [Nat.testBit_div_two] at hk ⊢; exact h _ hk
theorem sub_m {s u : Nat} (h : sub s u) : s % 2 ≤ u % 2 := by
  have := h 0
  rw [Nat.testBit_zero, Nat.testBit_zero, decide_eq_true_iff, decide_eq_true_iff] at this
  omega
theorem and_half (a b : Nat) : (a &&& b) = 2 * (a / 2 &&& b / 2) + (a % 2) * (b % 2) := by
  have h1 : (a &&& b) / 2 = a / 2 &&& b / 2 := Nat.eq_of_testBit_eq (fun k => by
    rw [Nat.testBit_div_two, Nat.testBit_and, Nat.testBit_and, Nat.testBit_div_two, Nat.testBit_div_two])
  have h2 : (a &&& b) % 2 = (a % 2) * (b % 2) := by
    have t : (a &&& b).testBit 0 = (a.testBit 0 && b.testBit 0) := Nat.testBit_and a b 0
    rw [Nat.testBit_zero, Nat.testBit_zero, Nat.testBit_zero] at t
    by_cases w : (a &&& b) % 2 = 1
    · rw [decide_eq_true w] at t
      have t' := t.symm
      rw [Bool.and_eq_true, decide_eq_true_iff, decide_eq_true_iff] at t'
      rw [w, t'.1, t'.2]
    · rw [decide_eq_false w] at t
      have e0 : (a &&& b) % 2 = 0 := by omega
      rcases (show a % 2 = 0 ∨ a % 2 = 1 by omega) with z | z
      · rw [e0, z, Nat.zero_mul]
      · rcases (show b % 2 = 0 ∨ b % 2 = 1 by omega) with y | y
        · rw [e0, y, Nat.mul_zero]
        · rw [decide_eq_true z, decide_eq_true y] at t
          cases t
  omega
theorem sub_nx : ∀ (N s r m : Nat), s < N → sub s r → sub m r → m < s → m ≤ (s - 1) &&& r
  | 0, s, _, _, h, _, _, _ => by omega
  | N + 1, s, r, m, h, hs, hm, hlt => by
    have hms := sub_m hs
    have hmm := sub_m hm
    rw [and_half]
    rcases (show s % 2 = 0 ∨ s % 2 = 1 by omega) with z | z
    · have ih := sub_nx N (s / 2) (r / 2) (m / 2) (by omega) (sub_2 hs) (sub_2 hm) (by omega)
      have e1 : (s - 1) / 2 = s / 2 - 1 := by omega
      have e2 : (s - 1) % 2 = 1 := by omega
      rw [e1, e2, Nat.one_mul]; omega
    · have e1 : (s - 1) / 2 = s / 2 := by omega
      have e2 : (s - 1) % 2 = 0 := by omega
      rw [e1, e2, Nat.zero_mul, sub_and (sub_2 hs)]; omega
