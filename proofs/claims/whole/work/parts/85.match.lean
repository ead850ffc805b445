/-! matchings: sets of numbers as predicates; the most pairs of a set -/
def sm (P : Nat → Prop) (i : Nat) : Nat → Prop := fun f => P f ∧ ¬ f = i
def Mt (pr : Nat → Nat → Prop) : Nat → (Nat → Prop) → Prop
  | 0, _ => True
  | n + 1, P => ∃ i j, P i ∧ P j ∧ ¬ j = i ∧ pr i j ∧ Mt pr n (sm (sm P i) j)
section MT
variable {pr : Nat → Nat → Prop}
theorem Mt_s (n : Nat) (P : Nat → Prop) : Mt pr (n + 1) P = ∃ i j, P i ∧ P j ∧ ¬ j = i ∧ pr i j ∧ Mt pr n (sm (sm P i) j) := rfl
theorem Mt_mono : ∀ (n : Nat) {P Q : Nat → Prop}, (∀ f, P f → Q f) → Mt pr n P → Mt pr n Q
  | 0, _, _, _, _ => trivial
  | n + 1, P, Q, h, hm => by
    rw [Mt_s] at hm ⊢
    obtain ⟨i, j, hi, hj, hn, hp, hm⟩ := hm
    exact ⟨i, j, h i hi, h j hj, hn, hp, Mt_mono n (fun f hf => ⟨⟨h f hf.1.1, hf.1.2⟩, hf.2⟩) hm⟩
theorem Mt_d : ∀ (n : Nat) {P : Nat → Prop}, Mt pr (n + 1) P → Mt pr n P
  | 0, _, _ => trivial
  | n + 1, P, hm => by
    rw [Mt_s] at hm
    obtain ⟨i, j, hi, hj, hn, hp, hm⟩ := hm
    rw [Mt_s]
    exact ⟨i, j, hi, hj, hn, hp, Mt_d n hm⟩
theorem Mt_le {P : Nat → Prop} {m n : Nat} (h : m ≤ n) (hm : Mt pr n P) : Mt pr m P := by
  induction h with
  | refl => exact hm
  | step _ ih => exact ih (Mt_d _ hm)
theorem Mt_rm (hs : ∀ i j, pr i j → pr j i) : ∀ (n : Nat) {P : Nat → Prop} {i : Nat}, P i → Mt pr n P → Mt pr n (sm P i) ∨ ∃ j m, P j ∧ ¬ j = i ∧ pr i j ∧ n = m + 1 ∧ Mt pr m (sm (sm P i) j)
  | 0, _, _, _, _ => Or.inl trivial
  | n + 1, P, i, hi, hm => by
    rw [Mt_s] at hm
    obtain ⟨a, b, ha, hb, hn, hp, hm⟩ := hm
    by_cases ea : a = i
    · subst ea
      exact Or.inr ⟨b, n, hb, hn, hp, rfl, hm⟩
    · by_cases eb : b = i
      · subst eb
        refine Or.inr ⟨a, n, ha, ea, hs _ _ hp, rfl, Mt_mono n (fun f hf => ⟨⟨hf.1.1, hf.2⟩, hf.1.2⟩) hm⟩
      · rcases Mt_rm hs n (i := i) (show sm (sm P a) b i from ⟨⟨hi, fun z => ea z.symm⟩, fun z => eb z.symm⟩) hm with h | ⟨j, m, hj, hji, hp2, e, h⟩
        · left
          rw [Mt_s]
          exact ⟨a, b, ⟨ha, ea⟩, ⟨hb, eb⟩, hn, hp, Mt_mono n (fun f hf => ⟨⟨⟨hf.1.1.1, hf.2⟩, hf.1.1.2⟩, hf.1.2⟩) h⟩
        · right
          refine ⟨j, n, hj.1.1, hji, hp2, rfl, ?_⟩
          rw [e, Mt_s]
          exact ⟨a, b, ⟨⟨ha, ea⟩, fun z => hj.1.2 z.symm⟩, ⟨⟨hb, eb⟩, fun z => hj.2 z.symm⟩, hn, hp, Mt_mono m (fun f hf => ⟨⟨⟨⟨hf.1.1.1.1, hf.1.2⟩, hf.2⟩, hf.1.1.1.2⟩, hf.1.1.2⟩) h⟩
def IsM (pr : Nat → Nat → Prop) (P : Nat → Prop) (v : Nat) : Prop := Mt pr v P ∧ ¬ Mt pr (v + 1) P
theorem IsM_u {P : Nat → Prop} {v w : Nat} (h : IsM pr P v) (h2 : IsM pr P w) : v = w := by
  rcases Nat.lt_trichotomy v w with z | z | z
  · exact absurd (Mt_le (show v + 1 ≤ w from z) h2.1) h.2
  · exact z
  · exact absurd (Mt_le (show w + 1 ≤ v from z) h.1) h2.2
theorem IsM_0 {P : Nat → Prop} (h : ∀ f, ¬ P f) : IsM pr P 0 := ⟨trivial, fun z => by
  rw [Mt_s] at z
  obtain ⟨i, _, hi, _⟩ := z
  exact h i hi⟩
/-- the step of both tables: one of the set is alone or has a mate -/
theorem IsM_step (hs : ∀ i j, pr i j → pr j i) {P : Nat → Prop} {i v v0 : Nat} {T : Nat → Nat} (hi : P i) (h0 : IsM pr (sm P i) v0) (hT : ∀ j, P j → ¬ j = i → pr i j → IsM pr (sm (sm P i) j) (T j)) (h1 : v0 ≤ v) (h2 : ∀ j, P j → ¬ j = i → pr i j → 1 + T j ≤ v) (h3 : v = v0 ∨ ∃ j, P j ∧ ¬ j = i ∧ pr i j ∧ v = 1 + T j) : IsM pr P v := by
  refine ⟨?_, fun z => ?_⟩
  · rcases h3 with e | ⟨j, hj, hn, hp, e⟩
    · rw [e]; exact Mt_mono _ (fun f hf => hf.1) h0.1
    · rw [e, Nat.add_comm, Mt_s]
      exact ⟨i, j, hi, hj, hn, hp, (hT j hj hn hp).1⟩
  · rcases Mt_rm hs (v + 1) hi z with h | ⟨j, m, hj, hn, hp, e, h⟩
    · exact h0.2 (Mt_le (by omega) h)
    · have := h2 j hj hn hp
      exact (hT j hj hn hp).2 (Mt_le (by omega) h)
noncomputable def mxN (pr : Nat → Nat → Prop) (P : Nat → Prop) : Nat := @dite _ (∃ v, IsM pr P v) (Classical.propDecidable _) (fun h => Classical.choose h) (fun _ => 0)
theorem mxN_e {P : Nat → Prop} {v : Nat} (h : IsM pr P v) : mxN pr P = v := by
  have hx : ∃ v, IsM pr P v := ⟨v, h⟩
  unfold mxN
  rw [dif_pos hx]
  exact IsM_u (Classical.choose_spec hx) h
end MT
/-! bits taken out -/
def rmb (s i : Nat) : Nat := s &&& (2 ^ i ^^^ 4294967295)
theorem rmb_t {s : Nat} (h : s < 65536) (i k : Nat) : (rmb s i).testBit k = (s.testBit k && !(decide (i = k))) := by
  unfold rmb
  rw [Nat.testBit_and, Nat.testBit_xor, Nat.testBit_two_pow]
  rcases Nat.lt_or_ge k 32 with hi | hi
  · rw [(by decide +kernel : ∀ i : Fin 32, Nat.testBit 4294967295 i.1 = true) ⟨k, hi⟩, Bool.xor_true]
  · have h16 : 2 ^ 16 ≤ 2 ^ k := Nat.pow_le_pow_right (by decide) (by omega)
    rw [Nat.testBit_lt_two_pow (Nat.lt_of_lt_of_le h h16), Bool.false_and, Bool.false_and]
theorem rmb_le (s i : Nat) : rmb s i ≤ s := Nat.and_le_left
theorem rmb_e {s : Nat} {i : Nat} (hi : i < 16) : nI s &&& (shlI 1 (nI i) ^^^ -1) = nI (rmb s i) := by
  have e1 : (-1 : Int32) = nI 4294967295 := by decide
  rw [shl1 hi, e1, nI_xor, nI_and]; rfl
theorem rmb_lt {s i : Nat} (h : s < 65536) (hb : s.testBit i = true) : rmb s i < s := by
  rcases Nat.lt_or_eq_of_le (rmb_le s i) with z | z
  · exact z
  · have := rmb_t h i i
    rw [z, hb, decide_eq_true rfl] at this
    cases this
theorem rmb_or {s i j : Nat} (hi : i < 16) (hj : j < 16) : nI s &&& ((shlI 1 (nI i) ||| shlI 1 (nI j)) ^^^ -1) = nI (rmb (rmb s i) j) := by
  rw [andn_or, rmb_e hi, rmb_e hj]
/-- a set of frames by its bits; by the places of those that have pages -/
def bP (s : Nat) : Nat → Prop := fun f => s.testBit f = true
def kP (fs : Nat → Nat) (n s : Nat) : Nat → Prop := fun f => ∃ k, k < n ∧ s.testBit k = true ∧ fs k = f
theorem bP_rm {s i : Nat} (h : s < 65536) : bP (rmb s i) = sm (bP s) i := by
  funext f
  refine propext ?_
  show (rmb s i).testBit f = true ↔ s.testBit f = true ∧ ¬ f = i
  rw [rmb_t h, Bool.and_eq_true]
  refine ⟨fun ⟨a, b⟩ => ⟨a, fun z => ?_⟩, fun ⟨a, b⟩ => ⟨a, ?_⟩⟩
  · rw [z, decide_eq_true rfl] at b; cases b
  · rw [decide_eq_false (fun z => b z.symm)]; rfl
theorem kP_rm {fs : Nat → Nat} {n s i : Nat} (h : s < 65536) (hi : i < n) (inj : ∀ a b, a < n → b < n → fs a = fs b → a = b) : kP fs n (rmb s i) = sm (kP fs n s) (fs i) := by
  funext f
  unfold kP sm
  refine propext ⟨fun ⟨k, hk, hb, e⟩ => ?_, fun ⟨⟨k, hk, hb, e⟩, hn⟩ => ⟨k, hk, ?_, e⟩⟩
  · rw [rmb_t h, Bool.and_eq_true] at hb
    refine ⟨⟨k, hk, hb.1, e⟩, fun z => ?_⟩
    have : k = i := inj k i hk hi (e.trans z)
    have h2 := hb.2
    rw [this, decide_eq_true rfl] at h2
    cases h2
  · rw [rmb_t h, hb, decide_eq_false (fun z => hn (by rw [← e, z]))]; rfl
