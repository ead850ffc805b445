/-! what kind a token is, asked by the reference -/
theorem wEq_e {b : Nat → Nat} {p l s : Nat} : wEq b p l s = true ↔ ∀ i, i < l → wTx (s + i) = nI (b (p + i)) := by
  unfold wEq
  cases g : ffind (fun i => !(decide (wTx (s + i) = nI (b (p + i))))) 0 l with
  | none =>
    refine ⟨fun _ i hi => ?_, fun _ => rfl⟩
    have := ffind_none g i (Nat.zero_le _) (by omega)
    simpa using this
  | some j =>
    obtain ⟨-, h2, h3, -⟩ := ffind_some g
    refine ⟨fun h => (by cases h), fun h => ?_⟩
    rw [decide_eq_true (h j (by omega))] at h3
    cases h3
theorem wIs_e {b : Nat → Nat} {p e K : Nat} : wIs b p e K = true ↔ e - p = wlK K ∧ ∀ i, i < e - p → wTx (wsK K + i) = nI (b (p + i)) := by
  unfold wIs
  rw [Bool.and_eq_true, decide_eq_true_iff, wEq_e]
theorem wT_3 : ∀ K K' : Fin 25, wlK K.1 = wlK K'.1 → (∀ i : Fin 8, i.1 < wlK K.1 → wTx (wsK K.1 + i.1) = wTx (wsK K'.1 + i.1)) → K = K' := by decide +kernel
theorem wT_4 : ∀ K : Fin 25, ∀ i : Fin 8, i.1 < wlK K.1 → 1 ≤ wFn K.1 i.1 ∧ wFn K.1 i.1 < 256 ∧ wTx (wsK K.1 + i.1) = nI (wFn K.1 i.1) := by decide +kernel
theorem wkd_i {b : Nat → Nat} {p e K : Nat} (hK : K < 25) : wKd b p e = K ↔ wIs b p e K = true := by
  unfold wKd
  cases g : ffind (wIs b p e) 0 25 with
  | none =>
    have := ffind_none g K (Nat.zero_le _) (by omega)
    rw [this]
    exact ⟨fun h => by have h : 40 = K := h; omega, fun h => by cases h⟩
  | some K' =>
    obtain ⟨-, h2, h3, -⟩ := ffind_some g
    constructor
    · intro h
      have h : K' = K := h
      rw [← h]; exact h3
    · intro h
      show K' = K
      obtain ⟨a1, a2⟩ := wIs_e.mp h3
      obtain ⟨b1, b2⟩ := wIs_e.mp h
      have := wT_3 ⟨K', by omega⟩ ⟨K, hK⟩ (by show wlK K' = wlK K; omega) (fun i hi => by
        have hi : i.1 < wlK K' := hi
        show wTx (wsK K' + i.1) = wTx (wsK K + i.1)
        rw [a2 i.1 (by omega), b2 i.1 (by omega)])
      exact congrArg Fin.val this
def cwK (K : Nat) : Nat := cvF (wFn K) (wlK K)
theorem cwK_lt : ∀ K : Fin 25, cwK K.1 < 72057594037927936 := by decide +kernel
theorem wv_i {b : Nat → Nat} {p e K : Nat} (hK : K < 25) (hL : ∀ q, p ≤ q → q < e → isLe (b q) = true) : wvN b p (e - p) = cwK K ↔ wKd b p e = K := by
  rw [wkd_i hK, wIs_e]
  have hk := wT_1 ⟨K, hK⟩
  have h8 : wlK K < 8 := hk.2.2.2
  have hc : cwK K < 72057594037927936 := cwK_lt ⟨K, hK⟩
  have hw : ∀ i, i < wlK K → 1 ≤ wFn K i ∧ wFn K i < 256 ∧ wTx (wsK K + i) = nI (wFn K i) := fun i hi => wT_4 ⟨K, hK⟩ ⟨i, by omega⟩ hi
  have hb : ∀ i, i < e - p → 1 ≤ b (p + i) ∧ b (p + i) < 256 := fun i hi => by
    have := (isLe_e _).mp (hL (p + i) (by omega) (by omega)); omega
  unfold wvN
  by_cases z : e - p ≤ 7
  · rw [if_pos z]
    constructor
    · intro h
      obtain ⟨h1, h2⟩ := cvF_inj (f := fun i => b (p + i)) (g := wFn K) (e - p) (wlK K) hb (fun i hi => ⟨(hw i hi).1, (hw i hi).2.1⟩) h
      exact ⟨h1, fun i hi => by rw [(hw i (by omega)).2.2, ← h2 i hi]⟩
    · rintro ⟨h1, h2⟩
      unfold cwK
      rw [← h1]
      have key : ∀ l, l ≤ e - p → cvF (fun i => b (p + i)) l = cvF (wFn K) l := by
        intro l
        induction l with
        | zero => intro _; rfl
        | succ l ih =>
          intro hl
          have e1 := h2 l (by omega)
          rw [(hw l (by omega)).2.2] at e1
          have e2 := (nI_eq (by have := (hw l (by omega)).2.1; omega) (by have := (hb l (by omega)).2; omega)).mp e1
          rw [cvF_s, cvF_s, ih (by omega), e2]
      exact key _ (Nat.le_refl _)
  · rw [if_neg z]
    exact ⟨fun h => by omega, fun h => by omega⟩
theorem lN_ne {a b : Nat} (ha : a < 2 ^ 62) (hb : b < 2 ^ 62) : lN a = lN b ↔ a = b := by
  constructor
  · intro h
    have e1 : (lN a).toInt = (a : Int) := lg_ofNat_toInt (by omega)
    have e2 : (lN b).toInt = (b : Int) := lg_ofNat_toInt (by omega)
    rw [h, e2] at e1
    omega
  · intro h; rw [h]
theorem wvN_lt {b : Nat → Nat} {p l : Nat} (hb : ∀ i, i < l → b (p + i) < 256) : wvN b p l < 2 ^ 62 := by
  unfold wvN
  by_cases y : l ≤ 7
  · have c1 := cvF_lt (f := fun i => b (p + i)) l hb
    have c2 : 256 ^ l ≤ 256 ^ 7 := Nat.pow_le_pow_right (by decide) y
    have c3 : 256 ^ 7 = 72057594037927936 := by decide
    rw [if_pos y]; omega
  · rw [if_neg y]; decide
def t9 (b : Nat → Nat) (n k : Nat) : Nat := t9p b n (tP b n k)
theorem RT_9 {b : Nat → Nat} {n r k : Nat} {S : Mem} (h : RT b n r k S) : rdI S r 9 = nI (t9 b n k) := h.2.2.1
theorem RT_8 {b : Nat → Nat} {n r k : Nat} {S : Mem} (h : RT b n r k S) : rdI S r 8 = nI (tP b n k) := h.2.1
theorem eW_L {b : Nat → Nat} {n p : Nat} (hp : p ≤ n) : ∀ q, p ≤ q → q < eW b n p → isLe (b q) = true := fun q h1 h2 => by
  have := (fstN_le (c := fun q => !(isLe (b q))) hp).2.2.1 q h1 h2
  simpa using this
/-- signs, figures, the end: code and kind -/
def ckL : List (Nat × Nat) := [(1, 38), (0, 39), (40, 35), (41, 36), (42, 33), (43, 31), (45, 32), (47, 34), (59, 37), (60, 25), (4, 26), (62, 27), (5, 28), (61, 29), (35, 30)]
theorem ck_sg : ∀ x : Fin 256, ∀ q ∈ ckL, (if isSg x.1 = true then x.1 else 3) = q.1 ↔ sgK x.1 = q.2 := by decide +kernel
theorem ck_le : ∀ q ∈ ckL, ¬ 2 = q.1 ∧ 25 ≤ q.2 ∧ q.2 < 40 := by decide
theorem ck_1 : ∀ q ∈ ckL, 1 = q.1 ↔ 38 = q.2 := by decide
theorem ck_4 : ∀ q ∈ ckL, 4 = q.1 ↔ 26 = q.2 := by decide
theorem ck_5 : ∀ q ∈ ckL, 5 = q.1 ↔ 28 = q.2 := by decide
theorem ck_0 : ∀ q ∈ ckL, 0 = q.1 ↔ 39 = q.2 := by decide
theorem t9_i {b : Nat → Nat} {n k : Nat} (hb : ∀ i, i < n → b i < 256) {q : Nat × Nat} (hq : q ∈ ckL) : t9 b n k = q.1 ↔ tK b n k = q.2 := by
  unfold t9 t9p tK tk
  by_cases h : tP b n k < n
  · rw [if_pos h, if_pos h]
    by_cases h1 : isLe (b (tP b n k)) = true
    · rw [if_pos h1, if_pos h1]
      obtain ⟨c1, c2, c3⟩ := ck_le q hq
      refine ⟨fun z => absurd z c1, fun z => ?_⟩
      have z : wKd b (tP b n k) (eW b n (tP b n k)) = q.2 := z
      rcases wKd_lt (b := b) (p := tP b n k) (e := eW b n (tP b n k)) with y | y <;> omega
    · rw [if_neg h1, if_neg h1]
      by_cases h2 : isDg (b (tP b n k)) = true
      · rw [if_pos h2, if_pos h2]; exact ck_1 q hq
      · rw [if_neg h2, if_neg h2]
        by_cases h3 : two b n (tP b n k) 60 = true
        · rw [if_pos h3, if_pos h3]; exact ck_4 q hq
        · rw [if_neg h3, if_neg h3]
          by_cases h4 : two b n (tP b n k) 62 = true
          · rw [if_pos h4, if_pos h4]; exact ck_5 q hq
          · rw [if_neg h4, if_neg h4]
            exact ck_sg ⟨b (tP b n k), hb _ h⟩ q hq
  · rw [if_neg h, if_neg h]; exact ck_0 q hq
theorem t9_lt {b : Nat → Nat} {n k : Nat} (hb : ∀ i, i < n → b i < 256) : t9 b n k < 256 := by
  unfold t9 t9p
  by_cases h : tP b n k < n
  · have := hb _ h
    rw [if_pos h]
    repeat' split
    all_goals omega
  · rw [if_neg h]; decide
theorem t9_2 {b : Nat → Nat} {n k : Nat} : t9 b n k = 2 → tP b n k < n ∧ isLe (b (tP b n k)) = true := by
  intro h
  unfold t9 t9p at h
  by_cases h0 : tP b n k < n
  · rw [if_pos h0] at h
    by_cases h1 : isLe (b (tP b n k)) = true
    · exact ⟨h0, h1⟩
    · rw [if_neg h1] at h
      by_cases h2 : isDg (b (tP b n k)) = true
      · rw [if_pos h2] at h; omega
      · rw [if_neg h2] at h
        by_cases h3 : two b n (tP b n k) 60 = true
        · rw [if_pos h3] at h; omega
        · rw [if_neg h3] at h
          by_cases h4 : two b n (tP b n k) 62 = true
          · rw [if_pos h4] at h; omega
          · rw [if_neg h4] at h
            by_cases h5 : isSg (b (tP b n k)) = true
            · rw [if_pos h5] at h
              rw [h] at h5; exact absurd h5 (by decide)
            · rw [if_neg h5] at h; omega
  · rw [if_neg h0] at h; omega
theorem t9_w {b : Nat → Nat} {n k : Nat} (h : tP b n k < n ∧ isLe (b (tP b n k)) = true) : t9 b n k = 2 ∧ tK b n k = wKd b (tP b n k) (eW b n (tP b n k)) := by
  unfold t9 t9p tK tk
  rw [if_pos h.1, if_pos h.2, if_pos h.1, if_pos h.2]
  exact ⟨rfl, rfl⟩
theorem tK_w {b : Nat → Nat} {n k : Nat} (h : tK b n k < 25) : tP b n k < n ∧ isLe (b (tP b n k)) = true := by
  unfold tK tk at h
  by_cases h0 : tP b n k < n
  · rw [if_pos h0] at h
    by_cases h1 : isLe (b (tP b n k)) = true
    · exact ⟨h0, h1⟩
    · have hs := sgK_le (b (tP b n k))
      rw [if_neg h1] at h
      by_cases h2 : isDg (b (tP b n k)) = true
      · rw [if_pos h2] at h; exact absurd h (show ¬ 38 < 25 by decide)
      · rw [if_neg h2] at h
        by_cases h3 : two b n (tP b n k) 60 = true
        · rw [if_pos h3] at h; exact absurd h (show ¬ 26 < 25 by decide)
        · rw [if_neg h3] at h
          by_cases h4 : two b n (tP b n k) 62 = true
          · rw [if_pos h4] at h; exact absurd h (show ¬ 28 < 25 by decide)
          · rw [if_neg h4] at h
            have h : sgK (b (tP b n k)) < 25 := h
            omega
  · rw [if_neg h0] at h; omega
/-- a test of the token's code -/
theorem is9 {b : Nat → Nat} {n r k : Nat} {S : Mem} (h : RT b n r k S) {c K : Nat} (hc : (c, K) ∈ ckL) (hc2 : c < 256) : rdI S r 9 = nI c ↔ tK b n k = K := by
  have hb : ∀ i, i < n → b i < 256 := fun i hi => (h.1.2.2 i hi).2
  have hl := t9_lt (k := k) hb
  rw [RT_9 h, ← t9_i hb hc]
  exact nI_eq (by omega) (by omega)
theorem is92 {b : Nat → Nat} {n r k : Nat} {S : Mem} (h : RT b n r k S) : rdI S r 9 = 2 ↔ t9 b n k = 2 := by
  have hb : ∀ i, i < n → b i < 256 := fun i hi => (h.1.2.2 i hi).2
  have hl := t9_lt (k := k) hb
  rw [RT_9 h]
  exact nI_eq (b := 2) (by omega) (by decide)
theorem isw {b : Nat → Nat} {n r k : Nat} {S : Mem} (h : RT b n r k S) (h2 : t9 b n k = 2) {K : Nat} (hK : K < 25) : lg_cmp (rdJ S r 11) (lN (cwK K)) = 0 ↔ tK b n k = K := by
  have hw := t9_2 h2
  have hb : ∀ i, i < n → b i < 256 := fun i hi => (h.1.2.2 i hi).2
  have hl := eW_lt hw.1 hw.2
  have e11 : rdJ S r 11 = lN (wvN b (tP b n k) (eW b n (tP b n k) - tP b n k)) := h.2.2.2.2.2 hw.1 hw.2
  have hc : cwK K < 72057594037927936 := cwK_lt ⟨K, hK⟩
  rw [lg_cmp_eq, e11, (t9_w hw).2, ← wv_i hK (eW_L (Nat.le_of_lt hw.1))]
  exact lN_ne (wvN_lt (fun i hi => hb _ (by omega))) (by omega)
theorem isW_m {b : Nat → Nat} {n r k : Nat} {S : Mem} (h : RT b n r k S) {K : Nat} (hK : K < 25) (d : Nat) : cal d 189 [vR 8 r, vL (lN (cwK K))] S = some (some (vI (b2i (decide (tK b n k = K)))), S) := by
  rw [B_X8_isWord]
  by_cases h2 : t9 b n k = 2
  · rw [if_pos ((is92 h).mpr h2)]
    by_cases z : tK b n k = K
    · rw [if_pos ((isw h h2 hK).mpr z), q1_t, decide_eq_true z]
    · rw [if_neg (mt (isw h h2 hK).mp z), q0_t, decide_eq_false z]
  · rw [if_neg (mt (is92 h).mp h2), q0_t, decide_eq_false (fun z => h2 (t9_w (tK_w (by omega))).1)]
theorem w2_m {a c : Nat} (ha : a < 256) (hc : c < 256) (d : Nat) (S : Mem) : cal d 184 [vI (nI a), vI (nI c)] S = some (some (vL (lN (a * 256 + c))), S) := by
  rw [B_X8_w2, nI_l (by omega), lJ_sh (by omega) hc]
theorem w3_m {a c e : Nat} (ha : a < 256) (hc : c < 256) (he : e < 256) (d : Nat) (S : Mem) : cal (d + 1) 185 [vI (nI a), vI (nI c), vI (nI e)] S = some (some (vL (lN ((a * 256 + c) * 256 + e))), S) := by
  rw [B_X8_w3, w2_m ha hc, bL_s, lJ_sh (by omega) he]
theorem w4_m {a c e f : Nat} (ha : a < 256) (hc : c < 256) (he : e < 256) (hf : f < 256) (d : Nat) (S : Mem) : cal (d + 2) 186 [vI (nI a), vI (nI c), vI (nI e), vI (nI f)] S = some (some (vL (lN (((a * 256 + c) * 256 + e) * 256 + f))), S) := by
  rw [B_X8_w4, w3_m ha hc he, bL_s, lJ_sh (by omega) hf]
theorem w5_m {a c e f g : Nat} (ha : a < 256) (hc : c < 256) (he : e < 256) (hf : f < 256) (hg : g < 256) (d : Nat) (S : Mem) : cal (d + 3) 187 [vI (nI a), vI (nI c), vI (nI e), vI (nI f), vI (nI g)] S = some (some (vL (lN ((((a * 256 + c) * 256 + e) * 256 + f) * 256 + g))), S) := by
  rw [B_X8_w5, w4_m ha hc he hf, bL_s, lJ_sh (by omega) hg]
theorem w6_m {a c e f g h : Nat} (ha : a < 256) (hc : c < 256) (he : e < 256) (hf : f < 256) (hg : g < 256) (hh : h < 256) (d : Nat) (S : Mem) : cal (d + 4) 188 [vI (nI a), vI (nI c), vI (nI e), vI (nI f), vI (nI g), vI (nI h)] S = some (some (vL (lN (((((a * 256 + c) * 256 + e) * 256 + f) * 256 + g) * 256 + h))), S) := by
  rw [B_X8_w6, w5_m ha hc he hf hg, bL_s, lJ_sh (by omega) hh]
theorem wd_0 (d : Nat) (S : Mem) : cal (d + 4) 188 [vI 109, vI 101, vI 115, vI 104, vI 101, vI 115] S = some (some (vL (lN (cwK 0))), S) := by
  have h := w6_m (show 109 < 256 by decide) (show 101 < 256 by decide) (show 115 < 256 by decide) (show 104 < 256 by decide) (show 101 < 256 by decide) (show 115 < 256 by decide) (d + 0) S
  rw [show (((((109 * 256 + 101) * 256 + 115) * 256 + 104) * 256 + 101) * 256 + 115) = cwK 0 by decide +kernel] at h
  exact h
theorem wd_1 (d : Nat) (S : Mem) : cal (d + 4) 188 [vI 112, vI 114, vI 111, vI 98, vI 101, vI 115] S = some (some (vL (lN (cwK 1))), S) := by
  have h := w6_m (show 112 < 256 by decide) (show 114 < 256 by decide) (show 111 < 256 by decide) (show 98 < 256 by decide) (show 101 < 256 by decide) (show 115 < 256 by decide) (d + 0) S
  rw [show (((((112 * 256 + 114) * 256 + 111) * 256 + 98) * 256 + 101) * 256 + 115) = cwK 1 by decide +kernel] at h
  exact h
theorem wd_2 (d : Nat) (S : Mem) : cal (d + 4) 186 [vI 103, vI 105, vI 118, vI 101] S = some (some (vL (lN (cwK 2))), S) := by
  have h := w4_m (show 103 < 256 by decide) (show 105 < 256 by decide) (show 118 < 256 by decide) (show 101 < 256 by decide) (d + 2) S
  rw [show (((103 * 256 + 105) * 256 + 118) * 256 + 101) = cwK 2 by decide +kernel] at h
  exact h
theorem wd_3 (d : Nat) (S : Mem) : cal (d + 4) 186 [vI 102, vI 114, vI 101, vI 101] S = some (some (vL (lN (cwK 3))), S) := by
  have h := w4_m (show 102 < 256 by decide) (show 114 < 256 by decide) (show 101 < 256 by decide) (show 101 < 256 by decide) (d + 2) S
  rw [show (((102 * 256 + 114) * 256 + 101) * 256 + 101) = cwK 3 by decide +kernel] at h
  exact h
theorem wd_4 (d : Nat) (S : Mem) : cal (d + 4) 187 [vI 119, vI 114, vI 105, vI 116, vI 101] S = some (some (vL (lN (cwK 4))), S) := by
  have h := w5_m (show 119 < 256 by decide) (show 114 < 256 by decide) (show 105 < 256 by decide) (show 116 < 256 by decide) (show 101 < 256 by decide) (d + 1) S
  rw [show ((((119 * 256 + 114) * 256 + 105) * 256 + 116) * 256 + 101) = cwK 4 by decide +kernel] at h
  exact h
theorem wd_5 (d : Nat) (S : Mem) : cal (d + 4) 186 [vI 109, vI 101, vI 115, vI 104] S = some (some (vL (lN (cwK 5))), S) := by
  have h := w4_m (show 109 < 256 by decide) (show 101 < 256 by decide) (show 115 < 256 by decide) (show 104 < 256 by decide) (d + 2) S
  rw [show (((109 * 256 + 101) * 256 + 115) * 256 + 104) = cwK 5 by decide +kernel] at h
  exact h
theorem wd_7 (d : Nat) (S : Mem) : cal (d + 4) 185 [vI 100, vI 97, vI 121] S = some (some (vL (lN (cwK 7))), S) := by
  have h := w3_m (show 100 < 256 by decide) (show 97 < 256 by decide) (show 121 < 256 by decide) (d + 3) S
  rw [show ((100 * 256 + 97) * 256 + 121) = cwK 7 by decide +kernel] at h
  exact h
theorem wd_8 (d : Nat) (S : Mem) : cal (d + 4) 184 [vI 97, vI 116] S = some (some (vL (lN (cwK 8))), S) := by
  have h := w2_m (show 97 < 256 by decide) (show 116 < 256 by decide) (d + 4) S
  rw [show (97 * 256 + 116) = cwK 8 by decide +kernel] at h
  exact h
theorem wd_9 (d : Nat) (S : Mem) : cal (d + 4) 186 [vI 119, vI 105, vI 116, vI 104] S = some (some (vL (lN (cwK 9))), S) := by
  have h := w4_m (show 119 < 256 by decide) (show 105 < 256 by decide) (show 116 < 256 by decide) (show 104 < 256 by decide) (d + 2) S
  rw [show (((119 * 256 + 105) * 256 + 116) * 256 + 104) = cwK 9 by decide +kernel] at h
  exact h
theorem wd_10 (d : Nat) (S : Mem) : cal (d + 4) 186 [vI 108, vI 105, vI 118, vI 101] S = some (some (vL (lN (cwK 10))), S) := by
  have h := w4_m (show 108 < 256 by decide) (show 105 < 256 by decide) (show 118 < 256 by decide) (show 101 < 256 by decide) (d + 2) S
  rw [show (((108 * 256 + 105) * 256 + 118) * 256 + 101) = cwK 10 by decide +kernel] at h
  exact h
theorem wd_11 (d : Nat) (S : Mem) : cal (d + 4) 187 [vI 112, vI 108, vI 97, vI 99, vI 101] S = some (some (vL (lN (cwK 11))), S) := by
  have h := w5_m (show 112 < 256 by decide) (show 108 < 256 by decide) (show 97 < 256 by decide) (show 99 < 256 by decide) (show 101 < 256 by decide) (d + 1) S
  rw [show ((((112 * 256 + 108) * 256 + 97) * 256 + 99) * 256 + 101) = cwK 11 by decide +kernel] at h
  exact h
theorem wd_12 (d : Nat) (S : Mem) : cal (d + 4) 184 [vI 105, vI 102] S = some (some (vL (lN (cwK 12))), S) := by
  have h := w2_m (show 105 < 256 by decide) (show 102 < 256 by decide) (d + 4) S
  rw [show (105 * 256 + 102) = cwK 12 by decide +kernel] at h
  exact h
theorem wd_13 (d : Nat) (S : Mem) : cal (d + 4) 186 [vI 116, vI 104, vI 101, vI 110] S = some (some (vL (lN (cwK 13))), S) := by
  have h := w4_m (show 116 < 256 by decide) (show 104 < 256 by decide) (show 101 < 256 by decide) (show 110 < 256 by decide) (d + 2) S
  rw [show (((116 * 256 + 104) * 256 + 101) * 256 + 110) = cwK 13 by decide +kernel] at h
  exact h
theorem wd_14 (d : Nat) (S : Mem) : cal (d + 4) 186 [vI 101, vI 108, vI 115, vI 101] S = some (some (vL (lN (cwK 14))), S) := by
  have h := w4_m (show 101 < 256 by decide) (show 108 < 256 by decide) (show 115 < 256 by decide) (show 101 < 256 by decide) (d + 2) S
  rw [show (((101 * 256 + 108) * 256 + 115) * 256 + 101) = cwK 14 by decide +kernel] at h
  exact h
theorem wd_15 (d : Nat) (S : Mem) : cal (d + 4) 185 [vI 101, vI 110, vI 100] S = some (some (vL (lN (cwK 15))), S) := by
  have h := w3_m (show 101 < 256 by decide) (show 110 < 256 by decide) (show 100 < 256 by decide) (d + 3) S
  rw [show ((101 * 256 + 110) * 256 + 100) = cwK 15 by decide +kernel] at h
  exact h
theorem wd_16 (d : Nat) (S : Mem) : cal (d + 4) 184 [vI 111, vI 114] S = some (some (vL (lN (cwK 16))), S) := by
  have h := w2_m (show 111 < 256 by decide) (show 114 < 256 by decide) (d + 4) S
  rw [show (111 * 256 + 114) = cwK 16 by decide +kernel] at h
  exact h
theorem wd_17 (d : Nat) (S : Mem) : cal (d + 4) 185 [vI 97, vI 110, vI 100] S = some (some (vL (lN (cwK 17))), S) := by
  have h := w3_m (show 97 < 256 by decide) (show 110 < 256 by decide) (show 100 < 256 by decide) (d + 3) S
  rw [show ((97 * 256 + 110) * 256 + 100) = cwK 17 by decide +kernel] at h
  exact h
theorem wd_18 (d : Nat) (S : Mem) : cal (d + 4) 185 [vI 110, vI 111, vI 116] S = some (some (vL (lN (cwK 18))), S) := by
  have h := w3_m (show 110 < 256 by decide) (show 111 < 256 by decide) (show 116 < 256 by decide) (d + 3) S
  rw [show ((110 * 256 + 111) * 256 + 116) = cwK 18 by decide +kernel] at h
  exact h
theorem wd_19 (d : Nat) (S : Mem) : cal (d + 4) 186 [vI 116, vI 105, vI 109, vI 101] S = some (some (vL (lN (cwK 19))), S) := by
  have h := w4_m (show 116 < 256 by decide) (show 105 < 256 by decide) (show 109 < 256 by decide) (show 101 < 256 by decide) (d + 2) S
  rw [show (((116 * 256 + 105) * 256 + 109) * 256 + 101) = cwK 19 by decide +kernel] at h
  exact h
theorem wd_20 (d : Nat) (S : Mem) : cal (d + 4) 187 [vI 112, vI 97, vI 103, vI 101, vI 115] S = some (some (vL (lN (cwK 20))), S) := by
  have h := w5_m (show 112 < 256 by decide) (show 97 < 256 by decide) (show 103 < 256 by decide) (show 101 < 256 by decide) (show 115 < 256 by decide) (d + 1) S
  rw [show ((((112 * 256 + 97) * 256 + 103) * 256 + 101) * 256 + 115) = cwK 20 by decide +kernel] at h
  exact h
theorem wd_21 (d : Nat) (S : Mem) : cal (d + 4) 188 [vI 102, vI 114, vI 97, vI 109, vI 101, vI 115] S = some (some (vL (lN (cwK 21))), S) := by
  have h := w6_m (show 102 < 256 by decide) (show 114 < 256 by decide) (show 97 < 256 by decide) (show 109 < 256 by decide) (show 101 < 256 by decide) (show 115 < 256 by decide) (d + 0) S
  rw [show (((((102 * 256 + 114) * 256 + 97) * 256 + 109) * 256 + 101) * 256 + 115) = cwK 21 by decide +kernel] at h
  exact h
theorem wd_22 (d : Nat) (S : Mem) : cal (d + 4) 185 [vI 111, vI 110, vI 101] S = some (some (vL (lN (cwK 22))), S) := by
  have h := w3_m (show 111 < 256 by decide) (show 110 < 256 by decide) (show 101 < 256 by decide) (d + 3) S
  rw [show ((111 * 256 + 110) * 256 + 101) = cwK 22 by decide +kernel] at h
  exact h
theorem wd_23 (d : Nat) (S : Mem) : cal (d + 4) 187 [vI 111, vI 116, vI 104, vI 101, vI 114] S = some (some (vL (lN (cwK 23))), S) := by
  have h := w5_m (show 111 < 256 by decide) (show 116 < 256 by decide) (show 104 < 256 by decide) (show 101 < 256 by decide) (show 114 < 256 by decide) (d + 1) S
  rw [show ((((111 * 256 + 116) * 256 + 104) * 256 + 101) * 256 + 114) = cwK 23 by decide +kernel] at h
  exact h
theorem wd_24 (d : Nat) (S : Mem) : cal (d + 4) 188 [vI 115, vI 112, vI 97, vI 114, vI 115, vI 101] S = some (some (vL (lN (cwK 24))), S) := by
  have h := w6_m (show 115 < 256 by decide) (show 112 < 256 by decide) (show 97 < 256 by decide) (show 114 < 256 by decide) (show 115 < 256 by decide) (show 101 < 256 by decide) (d + 0) S
  rw [show (((((115 * 256 + 112) * 256 + 97) * 256 + 114) * 256 + 115) * 256 + 101) = cwK 24 by decide +kernel] at h
  exact h
def nmV (K : Nat) : Int32 := if 19 ≤ K ∧ K ≤ 24 then nI (K - 19) else -1
theorem nm_m {b : Nat → Nat} {n r k : Nat} {S : Mem} (h : RT b n r k S) (d : Nat) : cal (d + 5) 192 [vR 8 r] S = some (some (vI (nmV (tK b n k))), S) := by
  rw [B_X8_nameOf]
  by_cases h2 : t9 b n k = 2
  · have i := fun K hK => isw h h2 (K := K) hK
    rw [if_pos ((is92 h).mpr h2), wd_19, bL_s]
    by_cases z0 : tK b n k = 19
    · rw [if_pos ((i 19 (by decide)).mpr z0), z0]; rfl
    rw [if_neg (mt (i 19 (by decide)).mp z0), wd_20, bL_s]
    by_cases z1 : tK b n k = 20
    · rw [if_pos ((i 20 (by decide)).mpr z1), z1]; rfl
    rw [if_neg (mt (i 20 (by decide)).mp z1), wd_21, bL_s]
    by_cases z2 : tK b n k = 21
    · rw [if_pos ((i 21 (by decide)).mpr z2), z2]; rfl
    rw [if_neg (mt (i 21 (by decide)).mp z2), wd_22, bL_s]
    by_cases z3 : tK b n k = 22
    · rw [if_pos ((i 22 (by decide)).mpr z3), z3]; rfl
    rw [if_neg (mt (i 22 (by decide)).mp z3), wd_23, bL_s]
    by_cases z4 : tK b n k = 23
    · rw [if_pos ((i 23 (by decide)).mpr z4), z4]; rfl
    rw [if_neg (mt (i 23 (by decide)).mp z4), wd_24, bL_s]
    by_cases z5 : tK b n k = 24
    · rw [if_pos ((i 24 (by decide)).mpr z5), z5]; rfl
    rw [if_neg (mt (i 24 (by decide)).mp z5)]
    unfold nmV
    rw [if_neg (by omega)]
  · have : ¬ tK b n k < 25 := fun z => h2 (t9_w (tK_w z)).1
    rw [if_neg (mt (is92 h).mp h2)]
    unfold nmV
    rw [if_neg (by omega)]
theorem cp_i {b : Nat → Nat} {n r k : Nat} {S : Mem} (h : RT b n r k S) (d : Nat) : cal (d + 5) 191 [vR 8 r] S = some (some (vI (b2i (decide (tK b n k = 6)))), S) := by
  have hb : ∀ i, i < n → b i < 256 := fun i hi => (h.1.2.2 i hi).2
  have hT := h.1
  have hn := hT.1
  rw [B_X8_isCompactWord]
  by_cases h2 : t9 b n k = 2
  · have hw := t9_2 h2
    have hl := eW_lt hw.1 hw.2
    have e8 := RT_8 h
    have e7 : rdI S r 7 = nI (eW b n (tP b n k)) := by
      have e := h.2.2.2.1
      rw [e]
      unfold tEp tk
      rw [if_pos hw.1, if_pos hw.2]
    have ek := (t9_w hw).2
    have hk := wkd_i (b := b) (p := tP b n k) (e := eW b n (tP b n k)) (K := 6) (by decide)
    rw [wIs_e, ← ek] at hk
    have e6 : wlK 6 = 7 := by decide
    rw [e6] at hk
    have hL := eW_L (b := b) (n := n) (Nat.le_of_lt hw.1)
    generalize tP b n k = p at *
    generalize eW b n p = e at *
    rw [if_pos ((is92 h).mpr h2), e7, e8, pk_sub (by omega)]
    by_cases z7 : e - p = 7
    · have hby : ∀ i, i < 7 → byV b n (p + i) = nI (b (p + i)) ∧ b (p + i) < 256 := fun i hi => ⟨if_pos (by omega), hb _ (by omega)⟩
      have hy : ∀ i, i < 7 → ∀ d, cal d 179 [vR 8 r, vI (nI (p + i))] S = some (some (vI (nI (b (p + i)))), S) := fun i hi d => by
        rw [byt_m hT (by omega), (hby i hi).1]
      have y0 := hy 0 (by decide)
      have w4c : cal (d + 4) 186 [vI 99, vI 111, vI 109, vI 112] S = some (some (vL (lN (((99 * 256 + 111) * 256 + 109) * 256 + 112))), S) := w4_m (show 99 < 256 by decide) (show 111 < 256 by decide) (show 109 < 256 by decide) (show 112 < 256 by decide) (d + 2) S
      have w3c : cal (d + 4) 185 [vI 97, vI 99, vI 116] S = some (some (vL (lN ((97 * 256 + 99) * 256 + 116))), S) := w3_m (show 97 < 256 by decide) (show 99 < 256 by decide) (show 116 < 256 by decide) (d + 3) S
      have e0 : ∀ j : Nat, nI p + nI j = nI (p + j) := fun j => nI_add p j
      have e1 : nI p + 1 = nI (p + 1) := e0 1
      have e2 : nI p + 2 = nI (p + 2) := e0 2
      have e3 : nI p + 3 = nI (p + 3) := e0 3
      have e4 : nI p + 4 = nI (p + 4) := e0 4
      have e5 : nI p + 5 = nI (p + 5) := e0 5
      have e6' : nI p + 6 = nI (p + 6) := e0 6
      have wt : ∀ i : Nat, i < 7 → (wTx (wsK 6 + i) = nI (b (p + i)) ↔ b (p + i) = wFn 6 i) := fun i hi => by
        have h4 := wT_4 ⟨6, by decide⟩ ⟨i, by omega⟩ (by show i < wlK 6; omega)
        have h42 : wFn 6 i < 256 := h4.2.1
        have h43 : wTx (wsK 6 + i) = nI (wFn 6 i) := h4.2.2
        have := (hby i hi).2
        rw [h43]
        exact ⟨fun y => ((nI_eq (by omega) (by omega)).mp y).symm, fun y => by rw [y]⟩
      have f0 : wFn 6 0 = 99 := by decide
      have f1 : wFn 6 1 = 111 := by decide
      have f2 : wFn 6 2 = 109 := by decide
      have f3 : wFn 6 3 = 112 := by decide
      have f4 : wFn 6 4 = 97 := by decide
      have f5 : wFn 6 5 = 99 := by decide
      have f6 : wFn 6 6 = 116 := by decide
      have g0 := (hby 0 (by decide)).2
      have g1 := (hby 1 (by decide)).2
      have g2 := (hby 2 (by decide)).2
      have g3 := (hby 3 (by decide)).2
      have g4 := (hby 4 (by decide)).2
      have g5 := (hby 5 (by decide)).2
      have g6 := (hby 6 (by decide)).2
      have k0 := wt 0 (by decide)
      have k1 := wt 1 (by decide)
      have k2 := wt 2 (by decide)
      have k3 := wt 3 (by decide)
      have k4 := wt 4 (by decide)
      have k5 := wt 5 (by decide)
      have k6 := wt 6 (by decide)
      rw [f0] at k0
      rw [f1] at k1
      rw [f2] at k2
      rw [f3] at k3
      rw [f4] at k4
      rw [f5] at k5
      rw [f6] at k6
      have hall : tK b n k = 6 ↔ (b (p + 0) = 99 ∧ b (p + 1) = 111 ∧ b (p + 2) = 109 ∧ b (p + 3) = 112) ∧ b (p + 4) = 97 ∧ b (p + 5) = 99 ∧ b (p + 6) = 116 := by
        rw [hk]
        constructor
        · rintro ⟨-, q⟩
          exact ⟨⟨k0.mp (q 0 (by omega)), k1.mp (q 1 (by omega)), k2.mp (q 2 (by omega)), k3.mp (q 3 (by omega))⟩, k4.mp (q 4 (by omega)), k5.mp (q 5 (by omega)), k6.mp (q 6 (by omega))⟩
        · rintro ⟨⟨q0, q1, q2, q3⟩, q4, q5, q6⟩
          refine ⟨z7, fun i hi => ?_⟩
          rcases (show i = 0 ∨ i = 1 ∨ i = 2 ∨ i = 3 ∨ i = 4 ∨ i = 5 ∨ i = 6 by omega) with rfl | rfl | rfl | rfl | rfl | rfl | rfl
          · exact k0.mpr q0
          · exact k1.mpr q1
          · exact k2.mpr q2
          · exact k3.mpr q3
          · exact k4.mpr q4
          · exact k5.mpr q5
          · exact k6.mpr q6
      have y0' : ∀ d, cal d 179 [vR 8 r, vI (nI p)] S = some (some (vI (nI (b (p + 0)))), S) := y0
      rw [if_pos (by rw [z7]; rfl), y0', bI_s, e8, e1, hy 1 (by decide), bI_s, e8, e2, hy 2 (by decide), bI_s, e8, e3, hy 3 (by decide), bI_s, show d + 4 = (d + 2) + 2 by omega, w4_m g0 g1 g2 g3, bL_s, w4c, bL_s]
      by_cases c1 : b (p + 0) = 99 ∧ b (p + 1) = 111 ∧ b (p + 2) = 109 ∧ b (p + 3) = 112
      · rw [if_pos (by rw [lg_cmp_eq, c1.1, c1.2.1, c1.2.2.1, c1.2.2.2]), e8, e4, hy 4 (by decide), bI_s, e8, e5, hy 5 (by decide), bI_s, e8, e6', hy 6 (by decide), bI_s, show d + 2 + 2 = (d + 3) + 1 by omega, w3_m g4 g5 g6, bL_s, w3c, bL_s]
        by_cases c2 : b (p + 4) = 97 ∧ b (p + 5) = 99 ∧ b (p + 6) = 116
        · rw [if_pos (by rw [lg_cmp_eq, c2.1, c2.2.1, c2.2.2]), q1_t, decide_eq_true (hall.mpr ⟨c1, c2⟩)]
        · rw [if_neg (fun y => c2 (by
            rw [lg_cmp_eq, lN_ne (by omega) (by omega)] at y
            refine ⟨?_, ?_, ?_⟩ <;> omega)), q0_t, decide_eq_false (fun y => c2 (hall.mp y).2)]
      · rw [if_neg (fun y => c1 (by
          rw [lg_cmp_eq, lN_ne (by omega) (by omega)] at y
          refine ⟨?_, ?_, ?_, ?_⟩ <;> omega)), q0_t, decide_eq_false (fun y => c1 (hall.mp y).1)]
    · rw [if_neg (show ¬ nI (e - p) = 7 from fun y => z7 ((nI_eq (b := 7) (by omega) (by decide)).mp y)), q0_t, decide_eq_false (fun y => z7 (hk.mp y).1)]
  · have : ¬ tK b n k < 25 := fun z => h2 (t9_w (tK_w z)).1
    rw [if_neg (mt (is92 h).mp h2), q0_t, decide_eq_false (by omega)]
def srV (K : Nat) : Int32 := if K ≤ 7 then nI K else -1
theorem sr_m {b : Nat → Nat} {n r k : Nat} {S : Mem} (h : RT b n r k S) (d : Nat) : cal (d + 6) 211 [vR 8 r] S = some (some (vI (srV (tK b n k))), S) := by
  have w : ∀ K, K < 25 → ∀ d, cal d 189 [vR 8 r, vL (lN (cwK K))] S = some (some (vI (b2i (decide (tK b n k = K)))), S) := fun K hK d => isW_m h hK d
  rw [B_X8_sortOf, show d + 5 = (d + 1) + 4 by omega, wd_0, bL_s, w 0 (by decide), bI_s, ite_b0]
  by_cases z0 : tK b n k = 0
  · rw [if_neg (by rw [decide_eq_true z0]; decide), z0]; rfl
  rw [if_pos (decide_eq_false z0), wd_1, bL_s, w 1 (by decide), bI_s, ite_b0]
  by_cases z1 : tK b n k = 1
  · rw [if_neg (by rw [decide_eq_true z1]; decide), z1]; rfl
  rw [if_pos (decide_eq_false z1), wd_2, bL_s, w 2 (by decide), bI_s, ite_b0]
  by_cases z2 : tK b n k = 2
  · rw [if_neg (by rw [decide_eq_true z2]; decide), z2]; rfl
  rw [if_pos (decide_eq_false z2), wd_3, bL_s, w 3 (by decide), bI_s, ite_b0]
  by_cases z3 : tK b n k = 3
  · rw [if_neg (by rw [decide_eq_true z3]; decide), z3]; rfl
  rw [if_pos (decide_eq_false z3), wd_4, bL_s, w 4 (by decide), bI_s, ite_b0]
  by_cases z4 : tK b n k = 4
  · rw [if_neg (by rw [decide_eq_true z4]; decide), z4]; rfl
  rw [if_pos (decide_eq_false z4), wd_5, bL_s, w 5 (by decide), bI_s, ite_b0]
  by_cases z5 : tK b n k = 5
  · rw [if_neg (by rw [decide_eq_true z5]; decide), z5]; rfl
  have e6 : cal (d + 1 + 4) 191 [vR 8 r] S = some (some (vI (b2i (decide (tK b n k = 6)))), S) := cp_i h d
  rw [if_pos (decide_eq_false z5), e6, bI_s, ite_b0]
  by_cases z6 : tK b n k = 6
  · rw [if_neg (by rw [decide_eq_true z6]; decide), z6]; rfl
  rw [if_pos (decide_eq_false z6), wd_7, bL_s, w 7 (by decide), bI_s, ite_b0]
  by_cases z7 : tK b n k = 7
  · rw [if_neg (by rw [decide_eq_true z7]; decide), z7]; rfl
  rw [if_pos (decide_eq_false z7)]
  unfold srV
  rw [if_neg (by omega)]
