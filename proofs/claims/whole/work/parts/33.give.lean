/-! who gives; what is free, class and reference alike -/
def mGiver (fr lv vec : Nat → Int32) (g s : Int32) : Option Nat := ffind (fun p => !(decide (mSlot fr lv vec g s p = -1))) 0 12
theorem giver_same {fr lv vec : Nat → Int32} {g s : Int32} (hgs : g = -1 → s = -1) : fGiver fr lv vec g s = mGiver fr lv vec g s := by
  unfold fGiver mGiver
  refine ffind_congr 12 0 (fun p _ hp => ?_)
  rw [slot_same hgs (by omega)]
theorem opens_bs (fr : Nat → Int32) : fOpens fr = nI (bsN (fun p => decide (¬ fr p = -1)) 12) := by
  rw [← it_bs _ (by decide)]
  unfold fOpens
  refine itN_congr (fun p a _ => ?_) 0
  by_cases h : fr p = -1
  · rw [if_pos h, if_neg (by simpa using h)]
  · rw [if_neg h, if_pos (decide_eq_true h)]
theorem pages_bs (fr : Nat → Int32) {f : Int32} (hf : ¬ f = -1) : fPagesIn fr f = nI (bsN (fun p => decide (fr p = f)) 12) := by
  rw [← mPagesIn_f fr hf, mPagesIn_bs]
