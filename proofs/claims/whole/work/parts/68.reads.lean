/-! what is asked of the pages -/
def atZ (Z : Zs) (a : Int32) : Int32 := if fLive (zA Z 2) a = true then frV (ix a) (zA Z) else -1
theorem live_f {A : AS} (I : Inv A) {a : Int32} (h : fLive (A 2) a = true) : ∃ q f, q < 192 ∧ a = nI q ∧ f < 12 ∧ A 1 (q / 16) = nI f := by
  unfold fLive at h
  rw [Bool.and_eq_true] at h
  obtain ⟨q, hq, rfl⟩ := inb_ex h.1 (by decide)
  have hb := of_decide_eq_true h.2
  rw [div16 (by omega), ix_nI (by omega)] at hb
  have ho : ¬ A 1 (q / 16) = -1 := by
    intro z
    rw [iLF I (q / 16) (by omega) z] at hb
    have e : ∀ k : Int32, shrI 0 k = 0 := fun k => Int32.zero_shiftRight
    rw [e] at hb
    exact absurd hb (by decide)
  obtain ⟨f, hf, ef⟩ := fr_ex (IvP_of I 0) (by omega) ho
  exact ⟨q, f, hq, rfl, hf, ef⟩
theorem at_c {S : Mem} {x : Nat} {Z : Zs} (h : ClR S x Z) (I : ZI Z) (a : Int32) (d : Nat) : OkC x S (cal (d + 9) 116 [vR 7 x, vI a] S) (atZ Z a) Z := by
  rw [B_X7_at, kc_live (cA h), bI_s, ite_b0]
  unfold atZ
  cases hl : fLive (zA Z 2) a
  · rw [if_pos rfl, if_neg Bool.false_ne_true]; exact OkC_0 h
  · obtain ⟨q, f, hq, rfl, hf, ef⟩ := live_f (zAI I) hl
    rw [if_neg (by decide), kc_valueAt (cA h) (zAI I), bI_s, if_pos rfl, (val_e hq hf ef).1, ix_nI (by omega)]
    exact OkC_0 h
theorem at_m {S : Mem} {r : Nat} {Z : Zs} (h : MoR S r Z) (I : ZI Z) (a : Int32) (d : Nat) : OkM r S (cal (d + 9) 273 [vR 8 r, vI a] S) (atZ Z a) Z := by
  rw [B_X8_at, km_live (mA h) (zAI I), bI_s, ite_b0]
  unfold atZ
  cases hl : fLive (zA Z 2) a
  · rw [if_pos rfl, if_neg Bool.false_ne_true]; exact OkM_0 h
  · obtain ⟨q, f, hq, rfl, hf, ef⟩ := live_f (zAI I) hl
    have e11 : rdI S (r + 1) (11 + q / 16) = nI f := (m1 (mA h) _ (by omega)).trans ef
    have ev : zA Z 4 (f * 16 + q % 16) = frV q (zA Z) := by unfold frV; rw [ef, ix_nI (by omega)]
    rw [if_neg (by decide), gd_p nz16, div16 (by omega), a11, i13 (by omega), gd_t, gd_p nz16, ix_nI (by omega), e11, rem16 (by omega), km_valueAt (mA h) (d + 8) hf (by omega), bI_s, if_pos rfl, ix_nI (by omega), ev]
    exact OkM_0 h
def paZ (Z : Zs) (a w : Int32) : Int32 := if inb a 12 = true then (if w = 0 then zA Z 1 (ix a) else if w = 1 then zA Z 2 (ix a) else if w = 2 then bitc (zA Z 2 (ix a)) else if w = 3 then b2i (fFenced (zA Z 1) (zA Z 0 3) a) else if w = 4 then aSlot (zA Z) a else -2) else -2
theorem pa_c {S : Mem} {x : Nat} {Z : Zs} (h : ClR S x Z) (a w : Int32) (d : Nat) : OkC x S (cal (d + 9) 117 [vR 7 x, vI a, vI w] S) (paZ Z a w) Z := by
  rw [B_X7_page, isPage_t, bI_s, ite_b0]
  unfold paZ
  cases ha : inb a 12
  · rw [if_pos rfl, if_neg Bool.false_ne_true]; exact OkC_0 h
  · obtain ⟨p, hp, rfl⟩ := inb_ex ha (by decide)
    rw [if_neg (by decide), if_pos rfl, gd_t, gd_t, gd_t, x12 hp, c1 (cA h) p hp, c2 (cA h) p hp]
    by_cases w0 : w = 0
    · rw [if_pos w0, if_pos w0]; exact OkC_0 h
    · rw [if_neg w0, if_neg w0]
      by_cases w1 : w = 1
      · rw [if_pos w1, if_pos w1]; exact OkC_0 h
      · rw [if_neg w1, if_neg w1]
        by_cases w2 : w = 2
        · rw [if_pos w2, if_pos w2, sp_bitCount, bI_s]; exact OkC_0 h
        · rw [if_neg w2, if_neg w2]
          by_cases w3 : w = 3
          · rw [if_pos w3, if_pos w3, kc_fenced (cA h), bI_s, ite_b0]
            cases fFenced (zA Z 1) (zA Z 0 3) (nI p)
            · rw [if_pos rfl]; exact OkC_0 h
            · rw [if_neg (by decide)]; exact OkC_0 h
          · rw [if_neg w3, if_neg w3]
            by_cases w4 : w = 4
            · rw [if_pos w4, if_pos w4, kc_slot (cA h), bI_s]; exact OkC_0 h
            · rw [if_neg w4, if_neg w4]; exact OkC_0 h
theorem pa_m' {S : Mem} {r : Nat} {Z : Zs} (h : MoR S r Z) (I : ZI Z) (a w : Int32) (d : Nat) : OkM r S (cal (d + 9) 274 [vR 8 r, vI a, vI w] S) (paZ Z a w) Z := by
  rw [B_X8_page, sp_misNumber, bI_s, ite_b0]
  unfold paZ
  cases ha : inb a 12
  · rw [if_pos rfl, if_neg Bool.false_ne_true]; exact OkM_0 h
  · obtain ⟨p, hp, rfl⟩ := inb_ex ha (by decide)
    have r1 : rdI S (r + 1) (11 + p) = zA Z 1 p := m1 (mA h) p hp
    have r2 : rdI S (r + 1) (23 + p) = zA Z 2 p := m2 (mA h) p hp
    rw [if_neg (by decide), if_pos rfl, km_open (mA h), bI_s, ite_b0, fOpen_nI hp, a11, a23, i13 (by omega), gd_t, i13 (by omega), gd_t, ix_nI (by omega), ix_nI (by omega), x12 hp, r1, r2]
    by_cases z : zA Z 1 p = -1
    · have hz : zA Z 2 p = 0 := iLF (zAI I) p hp z
      have hf : fFenced (zA Z 1) (zA Z 0 3) (nI p) = false := by
        unfold fFenced
        rw [fOpen_nI hp, decide_eq_false (not_not_intro z), Bool.false_and]
      rw [decide_eq_false (not_not_intro z), if_pos rfl, hz]
      by_cases w0 : w = 0
      · rw [if_pos w0, if_pos w0]; exact OkM_0 h
      · rw [if_neg w0, if_neg w0]
        by_cases w1 : w = 1
        · rw [if_pos w1, if_pos w1]; exact OkM_0 h
        · rw [if_neg w1, if_neg w1]
          by_cases w2 : w = 2
          · rw [if_pos w2, if_pos w2, km_bits (d + 8) (x := 0) ⟨0, by decide, rfl⟩, bI_s]; exact OkM_0 h
          · rw [if_neg w2, if_neg w2]
            by_cases w3 : w = 3
            · rw [if_pos w3, if_pos w3, km_open (mA h), bI_s, ite_b0, fOpen_nI hp, decide_eq_false (not_not_intro z), if_pos rfl, hf]; exact OkM_0 h
            · rw [if_neg w3, if_neg w3]
              by_cases w4 : w = 4
              · rw [if_pos w4, if_pos w4, km_slot (mA h) (iGS (zAI I)) _ hp, bI_s]; exact OkM_0 h
              · rw [if_neg w4, if_neg w4]; exact OkM_0 h
    · rw [decide_eq_true z, if_neg (by decide)]
      by_cases w0 : w = 0
      · rw [if_pos w0, if_pos w0]; exact OkM_0 h
      · rw [if_neg w0, if_neg w0]
        by_cases w1 : w = 1
        · rw [if_pos w1, if_pos w1]; exact OkM_0 h
        · rw [if_neg w1, if_neg w1]
          by_cases w2 : w = 2
          · rw [if_pos w2, if_pos w2, km_bits (d + 8) (iL (zAI I) p hp), bI_s]; exact OkM_0 h
          · rw [if_neg w2, if_neg w2]
            by_cases w3 : w = 3
            · rw [if_pos w3, if_pos w3, km_open (mA h), bI_s, ite_b0, fOpen_nI hp, decide_eq_true z, if_neg (by decide), km_fenced (mA h) _ hp, bI_s, ite_b0]
              cases fFenced (zA Z 1) (zA Z 0 3) (nI p)
              · rw [if_pos rfl]; exact OkM_0 h
              · rw [if_neg (by decide)]; exact OkM_0 h
            · rw [if_neg w3, if_neg w3]
              by_cases w4 : w = 4
              · rw [if_pos w4, if_pos w4, km_slot (mA h) (iGS (zAI I)) _ hp, bI_s]; exact OkM_0 h
              · rw [if_neg w4, if_neg w4]; exact OkM_0 h
def veZ (Z : Zs) (a b : Int32) : Int32 := if fOpen (zA Z 1) a = true ∧ inb b 16 = true then zA Z 3 (ix a * 16 + ix b) else -1
theorem ve_c {S : Mem} {x : Nat} {Z : Zs} (h : ClR S x Z) (I : ZI Z) (a b : Int32) (d : Nat) : OkC x S (cal (d + 9) 118 [vR 7 x, vI a, vI b] S) (veZ Z a b) Z := by
  rw [B_X7_vector, kc_open (cA h), bI_s, ite_b0]
  unfold veZ
  cases ha : fOpen (zA Z 1) a
  · rw [if_pos rfl, if_neg (fun z => by cases z.1)]; exact OkC_0 h
  · obtain ⟨p, f, hp, hf, rfl, ef⟩ := fOpen_ex (iF (zAI I)) ha
    rw [if_neg (by decide)]
    rcases rng0 (N := 15) (by decide) b with ⟨h1, e⟩ | ⟨h1, h2, e⟩ | ⟨k, k1, rfl, e, h1, h2⟩
    · rw [if_pos h1, if_neg (fun z => by rw [e] at z; cases z.2)]; exact OkC_0 h
    · rw [if_neg h1, if_neg (show ¬ b < (16 : Int32) from fun z => by
        obtain ⟨j, hj, rfl⟩ := nI_of h1
        have z1 : j < 16 := (nI_ltI (b := 16) hj (by decide)).mp z
        have z2 : 15 < j := (nI_ltI (by decide) hj).mp h2
        omega), if_neg (fun z => by rw [e] at z; cases z.2)]; exact OkC_0 h
    · have ea : nI p * 16 + nI k = nI (p * 16 + k) := by
        show nI p * nI 16 + nI k = _
        rw [pk_mul, nI_add]
      rw [if_neg h1, if_pos (show nI k < (16 : Int32) from nI_lt (b := 16) (by omega) (by decide)), ea, inb_t (by omega) (by decide), gd_t, ix_nI (by omega), c3 (cA h) _ (by omega), if_pos ⟨rfl, e⟩, x12 hp, ix_nI (by omega)]
      exact OkC_0 h
theorem ve_m {S : Mem} {r : Nat} {Z : Zs} (h : MoR S r Z) (I : ZI Z) (a b : Int32) (d : Nat) : OkM r S (cal (d + 9) 275 [vR 8 r, vI a, vI b] S) (veZ Z a b) Z := by
  have e15 : (decide ((0 : Int32) ≤ b) && decide (b ≤ (15 : Int32))) = inb b 16 := isIn_inb 15 (by decide) b
  rw [B_X8_vector, km_open (mA h), bI_s, ite_b0]
  unfold veZ
  cases ha : fOpen (zA Z 1) a
  · rw [if_pos rfl, if_neg (fun z => by cases z.1)]; exact OkM_0 h
  · obtain ⟨p, f, hp, hf, rfl, ef⟩ := fOpen_ex (iF (zAI I)) ha
    rw [if_neg (by decide), sp_isIn, bI_s, e15, ite_b0]
    cases hb : inb b 16
    · rw [if_pos rfl, if_neg (fun z => by cases z.2)]; exact OkM_0 h
    · obtain ⟨k, hk, rfl⟩ := inb_ex hb (by decide)
      have ea : ((35 : Int32) + 16 * nI p) + nI k = nI (35 + (p * 16 + k)) := by
        show (nI 35 + nI 16 * nI p) + nI k = _
        rw [pk_mul, nI_add, nI_add]; congr 1; omega
      have r3 : rdI S (r + 1) (35 + (p * 16 + k)) = zA Z 3 (p * 16 + k) := m3 (mA h) p k hp (by rw [ef]; exact nI_m1 (by omega)) hk
      rw [if_neg (by decide), ea, i13 (by omega), gd_t, ix_nI (by omega), r3, if_pos ⟨rfl, rfl⟩, x12 hp, ix_nI (by omega)]
      exact OkM_0 h
def frmZ (Z : Zs) (a w : Int32) : Int32 := if inb a 12 = true then (if w = 0 then fPagesIn (zA Z 1) a else if w = 1 then fLiveIn (zA Z 1) (zA Z 2) a else -2) else -2
theorem frm_c {S : Mem} {x : Nat} {Z : Zs} (h : ClR S x Z) (a w : Int32) (d : Nat) : OkC x S (cal (d + 9) 119 [vR 7 x, vI a, vI w] S) (frmZ Z a w) Z := by
  rw [B_X7_frame, isPage_t, bI_s, ite_b0]
  unfold frmZ
  cases ha : inb a 12
  · rw [if_pos rfl, if_neg Bool.false_ne_true]; exact OkC_0 h
  · rw [if_neg (by decide), if_pos rfl]
    by_cases w0 : w = 0
    · rw [if_pos w0, if_pos w0, kc_pagesIn (cA h), bI_s]; exact OkC_0 h
    · rw [if_neg w0, if_neg w0]
      by_cases w1 : w = 1
      · rw [if_pos w1, if_pos w1, kc_liveIn (cA h), bI_s]; exact OkC_0 h
      · rw [if_neg w1, if_neg w1]; exact OkC_0 h
theorem frm_m {S : Mem} {r : Nat} {Z : Zs} (h : MoR S r Z) (a w : Int32) (d : Nat) : OkM r S (cal (d + 9) 276 [vR 8 r, vI a, vI w] S) (frmZ Z a w) Z := by
  rw [B_X8_frame, sp_misNumber, bI_s, ite_b0]
  unfold frmZ
  cases ha : inb a 12
  · rw [if_pos rfl, if_neg Bool.false_ne_true]; exact OkM_0 h
  · obtain ⟨p, hp, rfl⟩ := inb_ex ha (by decide)
    rw [if_neg (by decide), if_pos rfl]
    by_cases w0 : w = 0
    · rw [if_pos w0, if_pos w0, km_pagesIn (mA h) _ (nI_m1 (by omega)), bI_s]; exact OkM_0 h
    · rw [if_neg w0, if_neg w0]
      by_cases w1 : w = 1
      · rw [if_pos w1, if_pos w1, km_liveIn (mA h) _ (nI_m1 (by omega)), bI_s]; exact OkM_0 h
      · rw [if_neg w1, if_neg w1]; exact OkM_0 h
def isZ' (Z : Zs) (w : Int32) : Int32 := if w = 0 then zA Z 0 0 else if w = 1 then zA Z 0 1 else if w = 2 then bitc (fUsed (zA Z 1)) else if w = 3 then fTotal (zA Z 2) else if w = 4 then zA Z 0 2 else if w = 5 then fOpens (zA Z 1) else -2
theorem is_c {S : Mem} {x : Nat} {Z : Zs} (h : ClR S x Z) (w : Int32) (d : Nat) : OkC x S (cal (d + 9) 120 [vR 7 x, vI w] S) (isZ' Z w) Z := by
  have hA := cA h
  rw [B_X7_is, c0 hA (by decide), c0 hA (by decide), c0 hA (by decide), kc_used hA, bI_s, sp_bitCount, bI_s, kc_total hA, bI_s, kc_opens hA, bI_s]
  unfold isZ'
  by_cases w0 : w = 0
  · rw [if_pos w0, if_pos w0]; exact OkC_0 h
  · rw [if_neg w0, if_neg w0]
    by_cases w1 : w = 1
    · rw [if_pos w1, if_pos w1]; exact OkC_0 h
    · rw [if_neg w1, if_neg w1]
      by_cases w2 : w = 2
      · rw [if_pos w2, if_pos w2]; exact OkC_0 h
      · rw [if_neg w2, if_neg w2]
        by_cases w3 : w = 3
        · rw [if_pos w3, if_pos w3]; exact OkC_0 h
        · rw [if_neg w3, if_neg w3]
          by_cases w4 : w = 4
          · rw [if_pos w4, if_pos w4]; exact OkC_0 h
          · rw [if_neg w4, if_neg w4]
            by_cases w5 : w = 5
            · rw [if_pos w5, if_pos w5]; exact OkC_0 h
            · rw [if_neg w5, if_neg w5]; exact OkC_0 h
theorem is_m {S : Mem} {r : Nat} {Z : Zs} (h : MoR S r Z) (I : ZI Z) (w : Int32) (d : Nat) : OkM r S (cal (d + 9) 277 [vR 8 r, vI w] S) (isZ' Z w) Z := by
  have hA := mA h
  rw [B_X8_is, i13_4, gd_t, i13_5, gd_t, i13_6, gd_t, x13_4, x13_5, x13_6, show rdI S (r + 1) 4 = zA Z 0 0 from m0 hA (j := 0) (by decide), show rdI S (r + 1) 5 = zA Z 0 1 from m0 hA (j := 1) (by decide), show rdI S (r + 1) 6 = zA Z 0 2 from m0 hA (j := 2) (by decide), km_used hA, bI_s, km_bits (d + 8) (fUsed_ok (iF (zAI I))), bI_s, km_total hA (zAI I), bI_s, km_opens hA, bI_s]
  unfold isZ'
  by_cases w0 : w = 0
  · rw [if_pos w0, if_pos w0]; exact OkM_0 h
  · rw [if_neg w0, if_neg w0]
    by_cases w1 : w = 1
    · rw [if_pos w1, if_pos w1]; exact OkM_0 h
    · rw [if_neg w1, if_neg w1]
      by_cases w2 : w = 2
      · rw [if_pos w2, if_pos w2]; exact OkM_0 h
      · rw [if_neg w2, if_neg w2]
        by_cases w3 : w = 3
        · rw [if_pos w3, if_pos w3]; exact OkM_0 h
        · rw [if_neg w3, if_neg w3]
          by_cases w4 : w = 4
          · rw [if_pos w4, if_pos w4]; exact OkM_0 h
          · rw [if_neg w4, if_neg w4]
            by_cases w5 : w = 5
            · rw [if_pos w5, if_pos w5]; exact OkM_0 h
            · rw [if_neg w5, if_neg w5]; exact OkM_0 h
/-! the book -/
def lnP (y : Int32) (w : Nat) : Int32 := if w = 0 then y / 720 else if w = 1 then remI (y / 144) 5 else if w = 2 then remI (y / 12) 12 else remI y 12
theorem lnR_w {u y : Int32} (h : LnR u y) : shrI u 12 = lnP y 0 ∧ shrI u 8 &&& 15 = lnP y 1 ∧ shrI u 4 &&& 15 = lnP y 2 ∧ u &&& 15 = lnP y 3 := by
  obtain ⟨dd, k, a, b, hd, hk, ha, hb, rfl, rfl⟩ := h
  have q : ∀ (n s : Nat), n < 2 ^ 31 → s < 16 → shrI (nI n) (nI s) = nI (n / 2 ^ s) := fun n s hn hs => pk_shrN hn _ s (shr_k hs)
  have a15 : ∀ n : Nat, n < 2 ^ 31 → nI n &&& 15 = nI (n % 16) := fun n hn => pk_andN (by omega) 4 (by decide)
  have d0 : ∀ n m : Nat, n < 2 ^ 31 → 0 < m → m < 2 ^ 31 → nI n / nI m = nI (n / m) := fun n m h1 h2 h3 => pk_div h1 h2 h3
  have r0 : ∀ n m : Nat, n < 2 ^ 31 → 0 < m → m < 2 ^ 31 → remI (nI n) (nI m) = nI (n % m) := fun n m h1 h2 h3 => pk_rem h1 h2 h3
  have l0 : lnP (nI (((dd * 5 + k) * 12 + a) * 12 + b)) 0 = nI dd := by
    show nI (((dd * 5 + k) * 12 + a) * 12 + b) / nI 720 = _
    rw [d0 _ 720 (by omega) (by decide) (by decide)]; congr 1; omega
  have l1 : lnP (nI (((dd * 5 + k) * 12 + a) * 12 + b)) 1 = nI k := by
    show remI (nI (((dd * 5 + k) * 12 + a) * 12 + b) / nI 144) (nI 5) = _
    rw [d0 _ 144 (by omega) (by decide) (by decide), r0 _ 5 (by omega) (by decide) (by decide)]; congr 1; omega
  have l2 : lnP (nI (((dd * 5 + k) * 12 + a) * 12 + b)) 2 = nI a := by
    show remI (nI (((dd * 5 + k) * 12 + a) * 12 + b) / nI 12) (nI 12) = _
    rw [d0 _ 12 (by omega) (by decide) (by decide), r0 _ 12 (by omega) (by decide) (by decide)]; congr 1; omega
  have l3 : lnP (nI (((dd * 5 + k) * 12 + a) * 12 + b)) 3 = nI b := by
    show remI (nI (((dd * 5 + k) * 12 + a) * 12 + b)) (nI 12) = _
    rw [r0 _ 12 (by omega) (by decide) (by decide)]; congr 1; omega
  have s12 : shrI (nI (dd * 4096 + k * 256 + a * 16 + b)) 12 = nI ((dd * 4096 + k * 256 + a * 16 + b) / 2 ^ 12) := q _ 12 (by omega) (by decide)
  have s8 : shrI (nI (dd * 4096 + k * 256 + a * 16 + b)) 8 = nI ((dd * 4096 + k * 256 + a * 16 + b) / 2 ^ 8) := q _ 8 (by omega) (by decide)
  have s4 : shrI (nI (dd * 4096 + k * 256 + a * 16 + b)) 4 = nI ((dd * 4096 + k * 256 + a * 16 + b) / 2 ^ 4) := q _ 4 (by omega) (by decide)
  rw [l0, l1, l2, l3, s12, s8, s4, a15 _ (by omega), a15 _ (by omega), a15 _ (by omega)]
  refine ⟨?_, ?_, ?_, ?_⟩ <;> congr 1 <;> omega
theorem lnP_k {u y : Int32} (h : LnR u y) : ∃ k, k < 5 ∧ lnP y 1 = nI k := by
  obtain ⟨dd, k, a, b, hd, hk, ha, hb, e1, rfl⟩ := h
  refine ⟨k, hk, ?_⟩
  show remI (nI (((dd * 5 + k) * 12 + a) * 12 + b) / nI 144) (nI 5) = _
  have e2 : nI (((dd * 5 + k) * 12 + a) * 12 + b) / nI 144 = nI ((((dd * 5 + k) * 12 + a) * 12 + b) / 144) := pk_div (by omega) (by decide) (by decide)
  have e3 : remI (nI ((((dd * 5 + k) * 12 + a) * 12 + b) / 144)) (nI 5) = nI ((((dd * 5 + k) * 12 + a) * 12 + b) / 144 % 5) := pk_rem (by omega) (by decide) (by decide)
  rw [e2, e3]; congr 1; omega
def lnN (Z : Zs) : Nat := ix (zA Z 0 6)
theorem lnN_e {Z : Zs} (I : ZI Z) : lnN Z ≤ 25 ∧ zA Z 0 6 = nI (lnN Z) := by
  obtain ⟨n, hn, e⟩ := iN (zAI I)
  unfold lnN
  rw [e, ix_nI (by omega)]
  exact ⟨hn, rfl⟩
theorem ln_c {S : Mem} {x : Nat} {Z : Zs} (h : ClR S x Z) (I : ZI Z) {i : Nat} (hi : i < lnN Z) : LnR (rdI S (x + 27 + 1 + 5) i) (zA Z 5 i) := by
  obtain ⟨n, hn, e, hb⟩ := (cA h).2
  obtain ⟨h25, e'⟩ := lnN_e I
  rw [e'] at e
  have := (nI_eq (by omega) (by omega)).mp e
  exact hb i (by omega)
theorem line_m {S : Mem} {r : Nat} {Z : Zs} (h : MoR S r Z) {i w : Nat} (hi : i < 25) (hw : w < 4) (d : Nat) : cal d 278 [vR 8 r, vI (nI i), vI (nI w)] S = some (some (vI (lnP (zA Z 5 i) w)), S) := by
  rw [B_X8_lineOf, a419, i13 (by omega), gd_t, ix_nI (by omega), m5 (mA h) i hi]
  unfold lnP
  rcases (show w = 0 ∨ w = 1 ∨ w = 2 ∨ w = 3 by omega) with rfl | rfl | rfl | rfl
  · rw [if_pos (show nI 0 = 0 from rfl), gd_p (show nz 720 = true by decide), if_pos rfl]
  · rw [if_neg (show ¬ nI 1 = 0 by decide), if_pos (show nI 1 = 1 from rfl), gd_p (show nz 144 = true by decide), gd_p (show nz 5 = true by decide), if_neg (by decide), if_pos rfl]
  · rw [if_neg (show ¬ nI 2 = 0 by decide), if_neg (show ¬ nI 2 = 1 by decide), if_pos (show nI 2 = 2 from rfl), gd_p (show nz 12 = true by decide), gd_p (show nz 12 = true by decide), if_neg (by decide), if_neg (by decide), if_pos rfl]
  · rw [if_neg (show ¬ nI 3 = 0 by decide), if_neg (show ¬ nI 3 = 1 by decide), if_neg (show ¬ nI 3 = 2 by decide), gd_p (show nz 12 = true by decide), if_neg (by decide), if_neg (by decide), if_neg (by decide)]
def boZ (Z : Zs) (a w : Int32) : Int32 := if a = -1 then zA Z 0 6 else if inb a (lnN Z) = true ∧ inb w 4 = true then lnP (zA Z 5 (ix a)) (ix w) else -2
theorem rngN {N : Nat} (hN : N < 20000) (a : Int32) : (a < 0 ∧ inb a N = false) ∨ (¬ a < 0 ∧ nI N ≤ a ∧ inb a N = false) ∨ ∃ k, k < N ∧ a = nI k ∧ inb a N = true ∧ ¬ a < 0 ∧ ¬ nI N ≤ a := by
  by_cases h0 : a < 0
  · refine Or.inl ⟨h0, ?_⟩
    cases hb : inb a N
    · rfl
    · obtain ⟨p, hp, rfl⟩ := inb_ex hb (by omega)
      exact absurd h0 (nI_pos (by omega))
  · obtain ⟨j, hj, rfl⟩ := nI_of h0
    rw [inb_nI hj]
    by_cases h2 : N ≤ j
    · exact Or.inr (Or.inl ⟨h0, nI_le h2 hj, decide_eq_false (by omega)⟩)
    · exact Or.inr (Or.inr ⟨j, by omega, rfl, decide_eq_true (by omega), h0, nI_ge (by omega) (by omega)⟩)
theorem bo_c {S : Mem} {x : Nat} {Z : Zs} (h : ClR S x Z) (I : ZI Z) (a w : Int32) (d : Nat) : OkC x S (cal (d + 9) 121 [vR 7 x, vI a, vI w] S) (boZ Z a w) Z := by
  obtain ⟨h25, e6⟩ := lnN_e I
  rw [B_X7_book, c0 (cA h) (by decide), e6]
  unfold boZ
  by_cases am : a = -1
  · rw [if_pos am, if_pos am, e6]; exact OkC_0 h
  · rw [if_neg am, if_neg am]
    rcases rngN (N := lnN Z) (by omega) a with ⟨h1, e⟩ | ⟨h1, h2, e⟩ | ⟨k, k1, rfl, e, h1, h2⟩
    · rw [if_pos h1, if_neg (fun z => by rw [e] at z; cases z.1)]; exact OkC_0 h
    · rw [if_neg h1, if_pos h2, if_neg (fun z => by rw [e] at z; cases z.1)]; exact OkC_0 h
    · obtain ⟨q0, q1, q2, q3⟩ := lnR_w (ln_c h I k1)
      rw [if_neg h1, if_neg h2, if_pos (show nI k < (25 : Int32) from nI_lt (b := 25) (by omega) (by decide)), i25 (by omega), gd_t, ix_nI (by omega), q0, q1, q2, q3]
      by_cases w0 : w = 0
      · rw [if_pos w0, w0, if_pos ⟨e, by decide⟩]; exact OkC_0 h
      · rw [if_neg w0]
        by_cases w1 : w = 1
        · rw [if_pos w1, w1, if_pos ⟨e, by decide⟩]; exact OkC_0 h
        · rw [if_neg w1]
          by_cases w2 : w = 2
          · rw [if_pos w2, w2, if_pos ⟨e, by decide⟩]; exact OkC_0 h
          · rw [if_neg w2]
            by_cases w3 : w = 3
            · rw [if_pos w3, w3, if_pos ⟨e, by decide⟩]; exact OkC_0 h
            · rw [if_neg w3, if_neg]
              · exact OkC_0 h
              · rintro ⟨-, z⟩
                obtain ⟨p, hp, rfl⟩ := inb_ex z (by decide)
                rcases (show p = 0 ∨ p = 1 ∨ p = 2 ∨ p = 3 by omega) with rfl | rfl | rfl | rfl
                · exact w0 rfl
                · exact w1 rfl
                · exact w2 rfl
                · exact w3 rfl
theorem isInP {N : Nat} (hN : N < 20000) (a : Int32) : (decide ((0 : Int32) ≤ a) && decide (a ≤ nI N - 1)) = inb a N := by
  rcases Nat.eq_zero_or_pos N with z | z
  · rw [z]
    have hb : inb a 0 = false := by
      cases hb : inb a 0
      · rfl
      · obtain ⟨p, hp, -⟩ := inb_ex hb (by decide)
        exact absurd hp (Nat.not_lt_zero _)
    rw [hb]
    by_cases y : (0 : Int32) ≤ a
    · have y2 : ¬ a ≤ nI 0 - 1 := fun w => by
        have := Int32.le_trans y w
        exact absurd this (by decide)
      rw [decide_eq_false y2, Bool.and_false]
    · rw [decide_eq_false y, Bool.false_and]
  · rw [s1_sub z, isIn_inb (N - 1) (by omega), show N - 1 + 1 = N by omega]
theorem bo_m {S : Mem} {r : Nat} {Z : Zs} (h : MoR S r Z) (I : ZI Z) (a w : Int32) (d : Nat) : OkM r S (cal (d + 9) 279 [vR 8 r, vI a, vI w] S) (boZ Z a w) Z := by
  obtain ⟨h25, e6⟩ := lnN_e I
  have r10 : rdI S (r + 1) 10 = nI (lnN Z) := (m0 (mA h) (j := 6) (by decide)).trans e6
  have e3 : (decide ((0 : Int32) ≤ w) && decide (w ≤ (3 : Int32))) = inb w 4 := isIn_inb 3 (by decide) w
  rw [B_X8_book, i13_10, gd_t, gd_t, x13_10, r10]
  unfold boZ
  by_cases am : a = -1
  · rw [if_pos am, if_pos am, e6]; exact OkM_0 h
  · rw [if_neg am, if_neg am, sp_isIn, bI_s, isInP (by omega), ite_b0]
    cases ha : inb a (lnN Z)
    · rw [if_pos rfl, if_neg (fun z => by cases z.1)]; exact OkM_0 h
    · rw [if_neg (by decide), sp_isIn, bI_s, e3, ite_b0]
      cases hw : inb w 4
      · rw [if_pos rfl, if_neg (fun z => by cases z.2)]; exact OkM_0 h
      · obtain ⟨k, hk, rfl⟩ := inb_ex ha (by omega)
        obtain ⟨q, hq, rfl⟩ := inb_ex hw (by decide)
        rw [if_neg (by decide), line_m h (by omega) hq, bI_s, if_pos ⟨rfl, rfl⟩, ix_nI (by omega), ix_nI (by omega)]
        exact OkM_0 h
/-- by the book -/
def leN (Z : Zs) (a : Int32) : Nat → Nat
  | 0 => 0
  | n + 1 => leN Z a n + (if lnP (zA Z 5 n) 1 = a then 1 else 0)
theorem leN_s (Z : Zs) (a : Int32) (n : Nat) : leN Z a (n + 1) = leN Z a n + (if lnP (zA Z 5 n) 1 = a then 1 else 0) := rfl
def leZ (Z : Zs) (a : Int32) : Int32 := if inb a 5 = true then nI (leN Z a (lnN Z)) else -2
theorem le_c {S : Mem} {x : Nat} {Z : Zs} (h : ClR S x Z) (I : ZI Z) (a : Int32) (d : Nat) : OkC x S (cal (d + 9) 144 [vR 7 x, vI a] S) (leZ Z a) Z := by
  obtain ⟨h25, e6⟩ := lnN_e I
  have lp_ : ∀ n, n ≤ lnN Z → ev (d + 9) 144 16 [vR 7 x, vI a, vI 0, vI 0] [] S = ev (d + 9) 144 16 [vR 7 x, vI a, vI (nI (leN Z a n)), vI (nI n)] [] S := by
    intro n
    induction n with
    | zero => intro _; rfl
    | succ n ih =>
      intro hn
      obtain ⟨-, q1, -, -⟩ := lnR_w (ln_c h I (show n < lnN Z by omega))
      rw [ih (by omega), B_X7_ledger_16, c0 (cA h) (by decide), e6, if_neg (nI_ge (show n < lnN Z by omega) (by omega)), if_neg (n25 (by omega)), i25 (by omega), gd_t, ix_nI (by omega), q1, nI_1, nI_1, leN_s]
      by_cases z : lnP (zA Z 5 n) 1 = a
      · rw [if_pos z, if_pos z]
      · rw [if_neg z, if_neg z]; rfl
  have hend : ev (d + 9) 144 16 [vR 7 x, vI a, vI 0, vI 0] [] S = some (some (vI (nI (leN Z a (lnN Z)))), S) := by
    rw [lp_ _ (Nat.le_refl _), B_X7_ledger_16, c0 (cA h) (by decide), e6, if_pos (nI_le (Nat.le_refl _) (by omega))]
  rw [B_X7_ledger, hend]
  unfold leZ
  rcases rngN (N := 5) (by decide) a with ⟨h1, e⟩ | ⟨h1, h2, e⟩ | ⟨k, k1, rfl, e, h1, h2⟩
  · rw [if_pos h1, e, if_neg Bool.false_ne_true]; exact OkC_0 h
  · rw [if_neg h1, if_neg (show ¬ a < (5 : Int32) from Int32.not_lt.mpr h2), e, if_neg Bool.false_ne_true]; exact OkC_0 h
  · rw [if_neg h1, if_pos (show nI k < (5 : Int32) from nI_lt (b := 5) k1 (by decide)), if_pos e]; exact OkC_0 h
theorem le_m {S : Mem} {r : Nat} {Z : Zs} (h : MoR S r Z) (I : ZI Z) (a : Int32) (d : Nat) : OkM r S (cal (d + 9) 280 [vR 8 r, vI a] S) (leZ Z a) Z := by
  obtain ⟨h25, e6⟩ := lnN_e I
  have r10 : rdI S (r + 1) 10 = nI (lnN Z) := (m0 (mA h) (j := 6) (by decide)).trans e6
  have e4 : (decide ((0 : Int32) ≤ a) && decide (a ≤ (4 : Int32))) = inb a 5 := isIn_inb 4 (by decide) a
  have lp_ : ∀ n, n ≤ lnN Z → ev (d + 9) 280 16 [vR 8 r, vI a, vI 0, vI 0] [] S = ev (d + 9) 280 16 [vR 8 r, vI a, vI (nI (leN Z a n)), vI (nI n)] [] S := by
    intro n
    induction n with
    | zero => intro _; rfl
    | succ n ih =>
      intro hn
      have el : cal (d + 8) 278 [vR 8 r, vI (nI n), vI 1] S = some (some (vI (lnP (zA Z 5 n) 1)), S) := line_m h (i := n) (w := 1) (by omega) (by decide) (d + 8)
      rw [ih (by omega), B_X8_ledger_16, i13_10, gd_t, x13_10, r10, if_neg (nI_ge (show n < lnN Z by omega) (by omega)), el, bI_s, nI_1, nI_1, add0, leN_s]
      by_cases z : lnP (zA Z 5 n) 1 = a
      · rw [if_pos z, if_pos z]
      · rw [if_neg z, if_neg z]; rfl
  rw [B_X8_ledger, sp_isIn, bI_s, e4, ite_b0, lp_ _ (Nat.le_refl _), B_X8_ledger_16, i13_10, gd_t, x13_10, r10, if_pos (nI_le (Nat.le_refl _) (by omega))]
  unfold leZ
  cases ha : inb a 5
  · rw [if_pos rfl, if_neg Bool.false_ne_true]; exact OkM_0 h
  · rw [if_neg (by decide), if_pos rfl]; exact OkM_0 h
