/-! class and reference agree where the rows do -/
theorem fenced_same {fr : Nat → Int32} {g : Int32} {p : Nat} (hp : p < 12) : fFenced fr g (nI p) = mFenced fr g p := by
  unfold fFenced mFenced
  rw [fOpen_nI hp, x12 hp]
  by_cases h : fr p = g
  · rw [decide_eq_true h, Bool.and_true, Bool.and_true, h]
    by_cases h2 : g = -1
    · rw [decide_eq_true h2, decide_eq_false (not_not_intro h2)]; rfl
    · rw [decide_eq_false h2, decide_eq_true h2]; rfl
  · rw [decide_eq_false h, Bool.and_false, Bool.and_false]
theorem and1 (x : Int32) : x &&& 1 = 0 ∨ x &&& 1 = 1 := by
  obtain ⟨j, hj, e⟩ := pk_andE x (m := 1) 1 (by decide)
  have hj : j < 2 := hj
  rcases (show j = 0 ∨ j = 1 by omega) with rfl | rfl
  · exact Or.inl e
  · exact Or.inr e
theorem and1_same (x : Int32) : decide (x &&& 1 = 0) = (decide (x &&& 1 = 1) == false) := by
  rcases and1 x with h | h <;> rw [h] <;> decide
theorem slot_same {fr lv vec : Nat → Int32} {g s : Int32} (hgs : g = -1 → s = -1) {p : Nat} (hp : p < 12) : fSlot fr lv vec g s (nI p) = mSlot fr lv vec g s p := by
  unfold fSlot mSlot
  rw [fOpen_nI hp, fenced_same hp, x12 hp]
  by_cases h : fr p = -1
  · rw [if_pos h, if_neg (show ¬ (decide (¬ fr p = -1) = true ∧ mFenced fr g p = false) from fun z => absurd h (of_decide_eq_true z.1))]
  · rw [if_neg h]
    by_cases h2 : mFenced fr g p = false
    · rw [if_pos h2, if_pos ⟨decide_eq_true h, h2⟩]
      have e : fTaken fr lv g s p = (if fr p = s then mLiveIn fr lv (fr p) ||| mLiveIn fr lv g else mLiveIn fr lv (fr p)) := by
        unfold fTaken
        by_cases h3 : fr p = s
        · have hg : ¬ g = -1 := fun z => h (h3.trans (hgs z))
          rw [if_pos h3, if_pos h3, mLiveIn_f fr lv h, mLiveIn_f fr lv hg]
        · rw [if_neg h3, if_neg h3, mLiveIn_f fr lv h]
      rw [e, ffind_congr 16 0 (fun i _ _ => and1_same _)]; rfl
    · rw [if_neg h2, if_neg (fun z => h2 z.2)]
theorem live_same {fr lv : Nat → Int32} (hLF : LvFr fr lv) (a : Int32) : fLive lv a = mLive fr lv a := by
  unfold fLive mLive
  cases h : inb a 192
  · rfl
  · rw [Bool.true_and, Bool.true_and]
    obtain ⟨q, hq, rfl⟩ := inb_ex h (by decide)
    rw [div16 (by omega), fOpen_nI (by omega), ix_nI (by omega)]
    by_cases h2 : fr (q / 16) = -1
    · rw [hLF _ (by omega) h2, decide_eq_false (not_not_intro h2), Bool.false_and]
      have e : ∀ k : Int32, shrI 0 k = 0 := fun k => Int32.zero_shiftRight
      rw [e]; decide
    · rw [decide_eq_true h2, Bool.true_and]
