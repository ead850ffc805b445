/-- draws on the class's side, as numbers -/
def nNext (k : Nat) : Nat := (k * 769 + 631) % 31123
theorem nNext_lt (k : Nat) : nNext k < 31123 := Nat.mod_lt _ (by decide)
theorem fNext_nI {k : Nat} (h : k < 31123) : fNext (nI k) = nI (nNext k) := by
  unfold fNext nNext
  have e : nI k * 769 + 631 = nI (k * 769 + 631) := by
    show nI k * nI 769 + nI 631 = _
    rw [pk_mul, nI_add]
  rw [e]
  exact pk_rem (d := 31123) (by omega) (by decide) (by decide)
theorem sp_draw (d t n k : Nat) (h0 : 0 < n) (h : n < 2 ^ 31) (S : Mem) (hk : k < 31123) (e : rdI S t 1 = nI k) : cal d 20 [vR 1 t, vI (nI n)] S = some (some (vI (nI (k % n))), wrI S t 1 (nI (nNext k))) := by
  rw [sp_drawBelow d t n h0 h, e, fNext_nI hk]
  have e2 : remI (nI k) (nI n) = nI (k % n) := pk_rem (by omega) h0 h
  rw [e2]
