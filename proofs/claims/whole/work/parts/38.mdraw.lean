/-- draws on the reference's side -/
theorem lN_32 {n : Nat} (h : n < 2 ^ 31) : Int64.toInt32 (lN n) = nI n := by rw [← nI_l h, lg_l2i_i2l]
theorem i13_5 : inb 5 13669 = true := i13 (k := 5) (by decide)
theorem x13_5 : ix 5 = 5 := ix_nI (p := 5) (by decide)
theorem nzL31123 : nzL 31123 = true := by decide
theorem sp_anew (d r k : Nat) (S : Mem) (hk : k < 31123) (e : rdI S (r + 1) 5 = nI k) : cal d 230 [vR 8 r] S = some (none, wrI S (r + 1) 5 (nI (nNext k))) := by
  rw [B_X8_anew, i13_5, gd_t, gd_p nzL31123, gd_t, x13_5, e, nI_l (by omega)]
  have e1 : lN k * 769 + 631 = lN (k * 769 + 631) := by
    show lN k * lN 769 + lN 631 = _
    rw [lN_mul, lN_add]
  have e2 : remL (lN (k * 769 + 631)) 31123 = lN (nNext k) := pk_lRem (b := 31123) (by omega) (by decide) (by decide)
  rw [e1, e2, lN_32 (Nat.lt_trans (nNext_lt k) (by decide))]
theorem sp_drawnBy (d r n k : Nat) (h0 : 0 < n) (h : n < 2 ^ 31) (S : Mem) (hk : k < 31123) (e : rdI S (r + 1) 5 = nI k) : cal (d + 1) 229 [vR 8 r, vI (nI n)] S = some (some (vI (nI (k % n))), wrI S (r + 1) 5 (nI (nNext k))) := by
  rw [B_X8_drawnBy, i13_5, gd_t, gd_p (nz_nI h0 h), sp_anew d r k S hk e, bV_s, x13_5, e]
  have e2 : remI (nI k) (nI n) = nI (k % n) := pk_rem (by omega) h0 h
  rw [e2]
