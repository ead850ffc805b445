/-! frames that are used -/
theorem used_ex {fr : Nat → Int32} (hF : FrOK fr) : ∀ N, N ≤ 12 → ∃ u : Nat, u < 2 ^ 12 ∧ itN (fun p b => if fr p = -1 then b else b ||| shlI 1 (fr p)) N 0 = nI u ∧ ∀ k, k < 12 → (u.testBit k = true ↔ ∃ p, p < N ∧ fr p = nI k) := by
  intro N
  induction N with
  | zero =>
    intro _
    refine ⟨0, by decide, rfl, fun k _ => ⟨fun h => ?_, fun h => ?_⟩⟩
    · rw [Nat.zero_testBit] at h; cases h
    · obtain ⟨p, hp, _⟩ := h
      exact absurd hp (by omega)
  | succ n ih =>
    intro hN
    obtain ⟨u, h1, h2, h3⟩ := ih (by omega)
    show ∃ u' : Nat, u' < 2 ^ 12 ∧ (if fr n = -1 then itN _ n 0 else itN _ n 0 ||| shlI 1 (fr n)) = nI u' ∧ _
    rw [h2]
    rcases hF n (by omega) with z | ⟨f, hf, z⟩
    · rw [if_pos z]
      refine ⟨u, h1, rfl, fun k hk => (h3 k hk).trans ⟨fun ⟨p, hp, e⟩ => ⟨p, by omega, e⟩, fun ⟨p, hp, e⟩ => ?_⟩⟩
      rcases Nat.lt_or_ge p n with y | y
      · exact ⟨p, y, e⟩
      · rw [show p = n by omega, z] at e
        exact absurd e.symm (nI_m1 (by omega))
    · rw [if_neg (by rw [z]; exact nI_m1 (by omega)), z, shl1 (by omega), nI_or]
      refine ⟨u ||| 2 ^ f, Nat.or_lt_two_pow h1 (Nat.pow_lt_pow_right (by decide) hf), rfl, fun k hk => ?_⟩
      rw [Nat.testBit_or, Nat.testBit_two_pow, Bool.or_eq_true, h3 k hk]
      constructor
      · rintro (⟨p, hp, e⟩ | e)
        · exact ⟨p, by omega, e⟩
        · exact ⟨n, by omega, by rw [z, of_decide_eq_true e]⟩
      · rintro ⟨p, hp, e⟩
        rcases Nat.lt_or_ge p n with y | y
        · exact Or.inl ⟨p, y, e⟩
        · right
          rw [show p = n by omega, z] at e
          exact decide_eq_true ((nI_eq (by omega) (by omega)).mp e)
theorem fUsed_ex {fr : Nat → Int32} (hF : FrOK fr) : ∃ u : Nat, u < 2 ^ 12 ∧ fUsed fr = nI u ∧ ∀ k, k < 12 → u.testBit k = mUsed fr (nI k) := by
  obtain ⟨u, h1, h2, h3⟩ := used_ex hF 12 (Nat.le_refl _)
  refine ⟨u, h1, h2, fun k hk => ?_⟩
  cases hm : mUsed fr (nI k)
  · have h4 := (mUsed_iff fr (nI k)).mp hm
    cases hb : u.testBit k
    · rfl
    · obtain ⟨p, hp, e⟩ := (h3 k hk).mp hb
      exact absurd e (h4 p hp)
  · cases hb : u.testBit k
    · have h4 : mUsed fr (nI k) = false := (mUsed_iff fr (nI k)).mpr (fun p hp e => by
        have := (h3 k hk).mpr ⟨p, hp, e⟩
        rw [hb] at this; cases this)
      rw [hm] at h4; cases h4
    · rfl
theorem free_same {fr : Nat → Int32} (hF : FrOK fr) : fFree fr = mFree fr := by
  obtain ⟨u, h1, h2, h3⟩ := fUsed_ex hF
  unfold fFree mFree
  rw [h2]
  refine ffind_congr 12 0 (fun p _ hp => ?_)
  rw [bit_0 (by omega) (by omega), h3 p (by omega)]
theorem used_open {fr : Nat → Int32} {p f : Nat} (hp : p < 12) (e : fr p = nI f) : mUsed fr (nI f) = true := by
  cases h : mUsed fr (nI f)
  · exact absurd e ((mUsed_iff fr (nI f)).mp h p hp)
  · rfl
