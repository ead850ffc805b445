/-! sparse frames, open pages: class and reference alike -/
def OpLv (fr lv : Nat → Int32) : Prop := ∀ p, p < 12 → ¬ fr p = -1 → ¬ lv p = 0
theorem or_ne0 {a b : Nat} (h : ¬ b = 0) : ¬ (a ||| b) = 0 := fun e => h (by
  refine Nat.eq_of_testBit_eq (fun i => ?_)
  have := congrArg (fun x => x.testBit i) e
  try dsimp only at this
  rw [Nat.testBit_or, Nat.zero_testBit] at this
  rw [Nat.zero_testBit]
  cases hb : b.testBit i
  · rfl
  · rw [hb, Bool.or_true] at this; cases this)
theorem pop_0 {k : Nat} (h : pop k = 0) : k = 0 := by
  unfold pop popF at h
  cases hb : Nat.beq k 0
  · rw [hb] at h; cases h
  · exact Nat.eq_of_beq_eq_true hb
theorem pop_pos {k : Nat} (h : ¬ k = 0) : 0 < pop k := Nat.pos_of_ne_zero (fun e => h (pop_0 e))
/-- what is live in a frame: none just where no page is in it -/
theorem live_ex {fr lv : Nat → Int32} (hL : LvOK lv) (hO : OpLv fr lv) {f : Nat} (hf : f < 12) : ∀ N, N ≤ 12 → ∃ k : Nat, k < 65536 ∧ itN (fun p b => if fr p = nI f then b ||| lv p else b) N 0 = nI k ∧ (k = 0 ↔ ∀ p, p < N → ¬ fr p = nI f) := by
  intro N
  induction N with
  | zero => intro _; exact ⟨0, by decide, rfl, ⟨fun _ p hp => absurd hp (by omega), fun _ => rfl⟩⟩
  | succ n ih =>
    intro hN
    obtain ⟨k, h1, h2, h3⟩ := ih (by omega)
    show ∃ k' : Nat, k' < 65536 ∧ (if fr n = nI f then itN _ n 0 ||| lv n else itN _ n 0) = nI k' ∧ _
    rw [h2]
    by_cases h : fr n = nI f
    · obtain ⟨j, hj, e⟩ := hL n (by omega)
      have hne : ¬ lv n = 0 := hO n (by omega) (by rw [h]; exact nI_m1 (by omega))
      have hj0 : ¬ j = 0 := fun z => hne (by rw [e, z]; rfl)
      rw [if_pos h, e, nI_or]
      exact ⟨k ||| j, Nat.or_lt_two_pow (n := 16) h1 hj, rfl, ⟨fun z => absurd z (or_ne0 hj0), fun z => absurd h (z n (by omega))⟩⟩
    · rw [if_neg h]
      refine ⟨k, h1, rfl, h3.trans ⟨fun z p hp => ?_, fun z p hp => z p (by omega)⟩⟩
      rcases Nat.lt_or_ge p n with y | y
      · exact z p y
      · rw [show p = n by omega]; exact h
theorem mLive_ex {fr lv : Nat → Int32} (hL : LvOK lv) (hO : OpLv fr lv) {f : Nat} (hf : f < 12) : ∃ k : Nat, k < 65536 ∧ mLiveIn fr lv (nI f) = nI k ∧ (k = 0 ↔ mUsed fr (nI f) = false) := by
  obtain ⟨k, h1, h2, h3⟩ := live_ex hL hO hf 12 (Nat.le_refl _)
  exact ⟨k, h1, h2, h3.trans (mUsed_iff fr (nI f)).symm⟩
theorem sparse_same {fr lv : Nat → Int32} (hL : LvOK lv) (hO : OpLv fr lv) {g s : Int32} (hgs : g = -1 → s = -1) : fSparse fr lv g s = mSparse fr lv g s := by
  unfold fSparse mSparse
  refine itN_congr (fun f a hf => ?_) 0
  have hm : ¬ nI f = -1 := nI_m1 (by omega)
  obtain ⟨k, h1, h2, h3⟩ := mLive_ex hL hO hf
  rw [← mLiveIn_f fr lv hm, h2, bitc_pop h1]
  have hp := pop_le h1
  have e1 : (0 : Int32) < nI (pop k) ↔ mUsed fr (nI f) = true := by
    refine (nI_ltI (a := 0) (by decide) (by omega)).trans ?_
    constructor
    · intro h
      cases hu : mUsed fr (nI f)
      · rw [h3.mpr hu] at h; exact absurd h (by decide)
      · rfl
    · intro h
      exact pop_pos (fun z => by rw [h3.mp z] at h; cases h)
  have e2 : mBound g s (nI f) = false ↔ ¬ nI f = g ∧ ¬ nI f = s := by
    unfold mBound
    by_cases hg : g = -1
    · rw [decide_eq_true hg, hg, hgs hg]
      exact ⟨fun _ => ⟨hm, hm⟩, fun _ => rfl⟩
    · rw [decide_eq_false hg]
      by_cases y1 : nI f = g
      · rw [decide_eq_true y1]; exact ⟨fun z => (by cases z), fun z => absurd y1 z.1⟩
      · by_cases y2 : nI f = s
        · rw [decide_eq_false y1, decide_eq_true y2]; exact ⟨fun z => (by cases z), fun z => absurd y2 z.2⟩
        · rw [decide_eq_false y1, decide_eq_false y2]; exact ⟨fun _ => ⟨y1, y2⟩, fun _ => rfl⟩
  by_cases hc : mUsed fr (nI f) = true ∧ nI (pop k) ≤ 8 ∧ mBound g s (nI f) = false
  · rw [if_pos hc, if_pos ⟨e1.mpr hc.1, hc.2.1, e2.mp hc.2.2⟩]
  · rw [if_neg hc, if_neg (fun z => hc ⟨e1.mp z.1, z.2.1, e2.mpr z.2.2⟩)]
