/-! rows filled and copied -/
def filI (S : Mem) (c n : Nat) (v : Int32) : Mem := itN (fun p S => wrI S c p v) n S
theorem rdI_fil (S : Mem) (c n : Nat) (v : Int32) (c' i : Nat) : rdI (filI S c n v) c' i = if c' = c ∧ i < n then v else rdI S c' i := by
  unfold filI
  induction n with
  | zero => rw [if_neg (by omega)]; rfl
  | succ n ih =>
    show rdI (wrI (itN _ n S) c n v) c' i = _
    rw [rdI_wrI, ih]
    by_cases h : c' = c ∧ i = n
    · rw [if_pos h, if_pos ⟨h.1, by omega⟩]
    · rw [if_neg h]
      by_cases h2 : c' = c ∧ i < n
      · rw [if_pos h2, if_pos ⟨h2.1, by omega⟩]
      · rw [if_neg h2, if_neg (fun z => by
          rcases Nat.lt_or_ge i n with y | y
          · exact h2 ⟨z.1, y⟩
          · exact h ⟨z.1, by omega⟩)]
theorem fil_2 (S : Mem) (c n : Nat) (v : Int32) : (filI S c n v).2 = S.2 := by
  unfold filI
  induction n with
  | zero => rfl
  | succ n ih => exact ih
theorem sp_fill (d n c : Nat) (hn : n < 100000) (v : Int32) (S : Mem) : cal d 319 [vR (100000 + n) c, vI v] S = some (none, filI S c n v) := by
  rw [B_J7_fill_53178 d n hn]
  have key := loop_it (fun p (S : Mem) => ev d 319 5 [vR (100000 + n) c, vI v, vI (nI p), vI (nI n)] [] S) n (fun p S => wrI S c p v) (fun p S hp => by
    try dsimp only
    rw [B_J7_fill_53178_5 d n hn, if_neg (nI_ge hp (by omega)), inb_t hp (by omega), gd_t, ix_nI (by omega), nI_1]) S
  refine key.trans ?_
  try dsimp only
  rw [B_J7_fill_53178_5 d n hn, if_pos (nI_le (Nat.le_refl n) (by omega))]; rfl
theorem rd_eta (S : Mem) (c : Nat) : (fun i => rdI S c i) = rdI S c := rfl
/-- the state of the draws, a step on -/
def fNext (x : Int32) : Int32 := remI (x * 769 + 631) 31123
theorem nz31123 : nz 31123 = true := by decide
theorem one_le {n : Nat} (h0 : 0 < n) (h : n < 2 ^ 31) : (1 : Int32) ≤ nI n := nI_le (a := 1) h0 h
theorem nz_nI {n : Nat} (h0 : 0 < n) (h : n < 2 ^ 31) : nz (nI n) = true := by
  have := nI_ne0 h0 h
  unfold nz
  simpa using this
theorem sp_drawBelow (d t n : Nat) (h0 : 0 < n) (h : n < 2 ^ 31) (S : Mem) : cal d 20 [vR 1 t, vI (nI n)] S = some (some (vI (remI (rdI S t 1) (nI n))), wrI S t 1 (fNext (rdI S t 1))) := by
  rw [B_X1_drawBelow, if_pos (one_le h0 h), gd_p (nz_nI h0 h), gd_p nz31123]; rfl
