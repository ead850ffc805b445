/-! clash, sparse, runs, alike, found, sums, the first that holds, the fullest -/
def clZ (Z : Zs) (a b : Int32) : Int32 := if (fOpen (zA Z 1) a && fOpen (zA Z 1) b) = true then lvP (zA Z) (ix a) &&& lvP (zA Z) (ix b) else -1
theorem cl_c {S : Mem} {x : Nat} {Z : Zs} (h : ClR S x Z) (I : ZI Z) (a b : Int32) (d : Nat) : OkC x S (cal (d + 9) 123 [vR 7 x, vI a, vI b] S) (clZ Z a b) Z := by
  have hA := cA h
  rw [B_X7_clash, kc_open hA, bI_s, ite_b0]
  unfold clZ
  cases ha : fOpen (zA Z 1) a
  · rw [if_pos rfl, Bool.false_and, if_neg Bool.false_ne_true]; exact OkC_0 h
  · rw [if_neg (by decide), kc_open hA, bI_s, ite_b0]
    cases hb : fOpen (zA Z 1) b
    · rw [if_pos rfl, Bool.and_false, if_neg Bool.false_ne_true]; exact OkC_0 h
    · obtain ⟨p, f, hp, hf, rfl, ef⟩ := fOpen_ex (iF (zAI I)) ha
      obtain ⟨q, g, hq, hg, rfl, eg⟩ := fOpen_ex (iF (zAI I)) hb
      rw [if_neg (by decide), i12 hp, gd_t, x12 hp, c1 hA p hp, kc_liveIn hA, bI_s, i12 hq, gd_t, x12 hq, c1 hA q hq, kc_liveIn hA, bI_s, if_pos (by decide)]
      exact OkC_0 h
theorem cl_m {S : Mem} {r : Nat} {Z : Zs} (h : MoR S r Z) (I : ZI Z) (a b : Int32) (d : Nat) : OkM r S (cal (d + 9) 285 [vR 8 r, vI a, vI b] S) (clZ Z a b) Z := by
  have hA := mA h
  rw [B_X8_clash, km_areOpen hA, bI_s, ite_b0]
  unfold clZ
  cases ha : fOpen (zA Z 1) a
  · rw [Bool.false_and, if_pos rfl, if_neg Bool.false_ne_true]; exact OkM_0 h
  · cases hb : fOpen (zA Z 1) b
    · rw [Bool.and_false, if_pos rfl, if_neg Bool.false_ne_true]; exact OkM_0 h
    · obtain ⟨p, f, hp, hf, rfl, ef⟩ := fOpen_ex (iF (zAI I)) ha
      obtain ⟨q, g, hq, hg, rfl, eg⟩ := fOpen_ex (iF (zAI I)) hb
      have r1 : rdI S (r + 1) (11 + p) = zA Z 1 p := m1 hA p hp
      have r2 : rdI S (r + 1) (11 + q) = zA Z 1 q := m1 hA q hq
      rw [if_neg (by decide), a11, a11, i13 (by omega), gd_t, ix_nI (by omega), r1, km_liveIn hA _ (by rw [ef]; exact nI_m1 (by omega)), bI_s, i13 (by omega), gd_t, ix_nI (by omega), r2, km_liveIn hA _ (by rw [eg]; exact nI_m1 (by omega)), bI_s, if_pos (by decide), x12 hp, x12 hq]
      exact OkM_0 h
theorem spa_c {S : Mem} {x : Nat} {Z : Zs} (h : ClR S x Z) (d : Nat) : OkC x S (cal (d + 9) 131 [vR 7 x] S) (aSparse (zA Z)) Z := by
  rw [B_X7_sparse, kc_sparse (cA h), bI_s]; exact OkC_0 h
theorem spa_m {S : Mem} {r : Nat} {Z : Zs} (h : MoR S r Z) (I : ZI Z) (d : Nat) : OkM r S (cal (d + 9) 287 [vR 8 r] S) (aSparse (zA Z)) Z := by
  rw [B_X8_sparse, km_sparse (mA h) (zAI I), bI_s]; exact OkM_0 h
def ruZ (Z : Zs) (a : Int32) : Int32 := if fOpen (zA Z 1) a = true then bitc (zA Z 2 (ix a) &&& (shlI (zA Z 2 (ix a)) 1 ^^^ -1)) else -1
theorem ru_c {S : Mem} {x : Nat} {Z : Zs} (h : ClR S x Z) (I : ZI Z) (a : Int32) (d : Nat) : OkC x S (cal (d + 9) 132 [vR 7 x, vI a] S) (ruZ Z a) Z := by
  rw [B_X7_runs, kc_open (cA h), bI_s, ite_b0]
  unfold ruZ
  cases ha : fOpen (zA Z 1) a
  · rw [if_pos rfl, if_neg Bool.false_ne_true]; exact OkC_0 h
  · obtain ⟨p, f, hp, hf, rfl, ef⟩ := fOpen_ex (iF (zAI I)) ha
    rw [if_neg (by decide), i12 hp, gd_t, x12 hp, c2 (cA h) p hp, sp_bitCount, bI_s, if_pos rfl]
    exact OkC_0 h
theorem ru_m {S : Mem} {r : Nat} {Z : Zs} (h : MoR S r Z) (I : ZI Z) (a : Int32) (d : Nat) : OkM r S (cal (d + 9) 302 [vR 8 r, vI a] S) (ruZ Z a) Z := by
  rw [B_X8_runs, km_open (mA h), bI_s, ite_b0]
  unfold ruZ
  cases ha : fOpen (zA Z 1) a
  · rw [if_pos rfl, if_neg Bool.false_ne_true]; exact OkM_0 h
  · obtain ⟨p, f, hp, hf, rfl, ef⟩ := fOpen_ex (iF (zAI I)) ha
    have r2 : rdI S (r + 1) (23 + p) = zA Z 2 p := m2 (mA h) p hp
    have hok : ∃ k, k < 65536 ∧ zA Z 2 p &&& (shlI (zA Z 2 p) 1 ^^^ -1) = nI k := by
      obtain ⟨k, hk, e⟩ := iL (zAI I) p hp
      have := and_ok hk (shlI (zA Z 2 p) 1 ^^^ -1)
      rw [← e] at this; exact this
    rw [if_neg (by decide), a23, i13 (by omega), gd_t, gd_t, ix_nI (by omega), r2, km_bits _ hok, bI_s, if_pos rfl, x12 hp]
    exact OkM_0 h
def saZ (Z : Zs) (a b : Int32) : Int32 := if (fOpen (zA Z 1) a && fOpen (zA Z 1) b) = true then 16 - bitc (zA Z 2 (ix a) ^^^ zA Z 2 (ix b)) else -1
theorem sa_c {S : Mem} {x : Nat} {Z : Zs} (h : ClR S x Z) (I : ZI Z) (a b : Int32) (d : Nat) : OkC x S (cal (d + 9) 135 [vR 7 x, vI a, vI b] S) (saZ Z a b) Z := by
  have hA := cA h
  rw [B_X7_same, kc_open hA, bI_s, ite_b0]
  unfold saZ
  cases ha : fOpen (zA Z 1) a
  · rw [if_pos rfl, Bool.false_and, if_neg Bool.false_ne_true]; exact OkC_0 h
  · rw [if_neg (by decide), kc_open hA, bI_s, ite_b0]
    cases hb : fOpen (zA Z 1) b
    · rw [if_pos rfl, Bool.and_false, if_neg Bool.false_ne_true]; exact OkC_0 h
    · obtain ⟨p, f, hp, hf, rfl, ef⟩ := fOpen_ex (iF (zAI I)) ha
      obtain ⟨q, g, hq, hg, rfl, eg⟩ := fOpen_ex (iF (zAI I)) hb
      rw [if_neg (by decide), i12 hp, gd_t, i12 hq, gd_t, x12 hp, x12 hq, c2 hA p hp, c2 hA q hq, sp_bitCount, bI_s, if_pos (by decide)]
      exact OkC_0 h
theorem sa_m {S : Mem} {r : Nat} {Z : Zs} (h : MoR S r Z) (I : ZI Z) (a b : Int32) (d : Nat) : OkM r S (cal (d + 9) 305 [vR 8 r, vI a, vI b] S) (saZ Z a b) Z := by
  have hA := mA h
  rw [B_X8_same, km_areOpen hA, bI_s, ite_b0]
  unfold saZ
  cases ha : fOpen (zA Z 1) a
  · rw [Bool.false_and, if_pos rfl, if_neg Bool.false_ne_true]; exact OkM_0 h
  · cases hb : fOpen (zA Z 1) b
    · rw [Bool.and_false, if_pos rfl, if_neg Bool.false_ne_true]; exact OkM_0 h
    · obtain ⟨p, f, hp, hf, rfl, ef⟩ := fOpen_ex (iF (zAI I)) ha
      obtain ⟨q, g, hq, hg, rfl, eg⟩ := fOpen_ex (iF (zAI I)) hb
      have r1 : rdI S (r + 1) (23 + p) = zA Z 2 p := m2 hA p hp
      have r2 : rdI S (r + 1) (23 + q) = zA Z 2 q := m2 hA q hq
      have hok : ∃ k, k < 65536 ∧ zA Z 2 p ^^^ zA Z 2 q = nI k := by
        obtain ⟨k, hk, e⟩ := iL (zAI I) p hp
        obtain ⟨k', hk', e'⟩ := iL (zAI I) q hq
        rw [e, e', nI_xor]
        exact ⟨_, Nat.xor_lt_two_pow (n := 16) hk hk', rfl⟩
      rw [if_neg (by decide), a23, a23, i13 (by omega), gd_t, i13 (by omega), gd_t, ix_nI (by omega), ix_nI (by omega), r1, r2, km_bits _ hok, bI_s, if_pos (by decide), x12 hp, x12 hq]
      exact OkM_0 h
/-! found -/
def fiS (Z : Zs) (p n : Nat) (pat : Int32) : Option Nat := ffind (fun s => decide (shrI (zA Z 2 p) (nI s) &&& (shlI 1 (nI n) - 1) = pat)) 0 (17 - n)
def fiZ (Z : Zs) (a pat n : Int32) : Int32 := if fOpen (zA Z 1) a = true ∧ inb (n - 1) 16 = true ∧ inb pat (2 ^ ix n) = true then oI (fiS Z (ix a) (ix n) pat) else -1
theorem shl16 {n : Nat} (h : n ≤ 16) : shlI 1 (nI n) = nI (2 ^ n) := (by decide +kernel : ∀ p : Fin 17, shlI 1 (nI p.1) = nI (2 ^ p.1)) ⟨n, by omega⟩
theorem p16 {n : Nat} (h : n ≤ 16) : 2 ^ n ≤ 65536 ∧ 0 < 2 ^ n := by
  have h1 : 2 ^ n ≤ 2 ^ 16 := Nat.pow_le_pow_right (by decide) h
  exact ⟨h1, Nat.two_pow_pos n⟩
theorem fi_c {S : Mem} {x : Nat} {Z : Zs} (h : ClR S x Z) (I : ZI Z) (a pat n : Int32) (d : Nat) : OkC x S (cal (d + 9) 134 [vR 7 x, vI a, vI pat, vI n] S) (fiZ Z a pat n) Z := by
  rw [B_X7_find, kc_open (cA h), bI_s, ite_b0]
  unfold fiZ
  cases ha : fOpen (zA Z 1) a
  · rw [if_pos rfl, if_neg (fun z => by cases z.1)]; exact OkC_0 h
  · obtain ⟨p, f, hp, hf, rfl, ef⟩ := fOpen_ex (iF (zAI I)) ha
    rw [if_neg (by decide)]
    rcases rng1 (N := 16) (by decide) n with ⟨h1, e⟩ | ⟨h1, h2, e⟩ | ⟨k, k1, k2, rfl, e, h1, h2⟩
    · rw [if_pos h1, if_neg (fun z => by rw [e] at z; cases z.2.1)]; exact OkC_0 h
    · rw [if_neg h2, if_pos (show (16 : Int32) < n from h1), if_neg (fun z => by rw [e] at z; cases z.2.1)]; exact OkC_0 h
    · have hpk := p16 k2
      rw [if_neg h1, if_neg (show ¬ (16 : Int32) < nI k from h2), shl16 k2, ix_nI (show k < 2 ^ 31 by omega)]
      generalize hP : 2 ^ k = P at hpk
      rcases (show pat < 0 ∧ inb pat P = false ∨ ¬ pat < 0 ∧ nI P ≤ pat ∧ inb pat P = false ∨ ∃ j, j < P ∧ pat = nI j ∧ inb pat P = true ∧ ¬ pat < 0 ∧ ¬ nI P ≤ pat by
        by_cases h0 : pat < 0
        · refine Or.inl ⟨h0, ?_⟩
          cases hb : inb pat P
          · rfl
          · obtain ⟨q, hq, rfl⟩ := inb_ex hb (by omega)
            exact absurd h0 (nI_pos (by omega))
        · obtain ⟨j, hj, rfl⟩ := nI_of h0
          rw [inb_nI hj]
          by_cases h2 : P ≤ j
          · exact Or.inr (Or.inl ⟨h0, nI_le h2 hj, decide_eq_false (by omega)⟩)
          · exact Or.inr (Or.inr ⟨j, by omega, rfl, decide_eq_true (by omega), h0, nI_ge (by omega) (by omega)⟩)) with ⟨g1, e'⟩ | ⟨g1, g2, e'⟩ | ⟨j, j1, rfl, e', g1, g2⟩
      · rw [if_pos g1, if_neg (fun z => by rw [e'] at z; cases z.2.2)]; exact OkC_0 h
      · rw [if_neg g1, if_neg (show ¬ pat < nI P from Int32.not_lt.mpr g2), if_neg (fun z => by rw [e'] at z; cases z.2.2)]; exact OkC_0 h
      · rw [if_neg g1, if_pos (show nI j < nI P from Int32.not_le.mp g2), if_pos ⟨rfl, e, e'⟩, x12 hp]
        have key := loop_find (fun s => ev (d + 9) 134 48 [vR 7 x, vI (nI p), vI (nI j), vI (nI k), vI (nI P - 1), vI (nI s)] [] S) (fun s => decide (shrI (zA Z 2 p) (nI s) &&& (shlI 1 (nI k) - 1) = nI j)) (fun s => some (some (vI (nI s)), S)) (17 - k) 0 (fun s _ hs => by
          rw [Nat.zero_add] at hs
          try dsimp only
          rw [B_X7_find_48, nI_add, if_neg (show ¬ (16 : Int32) < nI (s + k) from nI_nlt (a := 16) (by omega) (by decide)), i12 hp, gd_t, x12 hp, c2 (cA h) p hp, shl16 k2, hP, nI_1]
          by_cases z : shrI (zA Z 2 p) (nI s) &&& (nI P - 1) = nI j
          · rw [if_pos z, if_pos (decide_eq_true z)]
          · rw [if_neg z, if_neg (by simpa using z)])
        have key2 : ev (d + 9) 134 48 [vR 7 x, vI (nI p), vI (nI j), vI (nI k), vI (nI P - 1), vI 0] [] S = some (some (vI (oI (fiS Z p k (nI j)))), S) := by
          refine key.trans ?_
          unfold fiS
          cases ffind (fun s => decide (shrI (zA Z 2 p) (nI s) &&& (shlI 1 (nI k) - 1) = nI j)) 0 (17 - k) with
          | some q => rfl
          | none =>
            try dsimp only
            rw [B_X7_find_48, nI_add, if_pos (show (16 : Int32) < nI (0 + (17 - k) + k) from nI_lt (a := 16) (by omega) (by omega))]; rfl
        rw [key2]
        exact OkC_0 h
theorem fi_m {S : Mem} {r : Nat} {Z : Zs} (h : MoR S r Z) (I : ZI Z) (a pat n : Int32) (d : Nat) : OkM r S (cal (d + 9) 304 [vR 8 r, vI a, vI pat, vI n] S) (fiZ Z a pat n) Z := by
  have e16 : (decide ((1 : Int32) ≤ n) && decide (n ≤ (16 : Int32))) = inb (n - 1) 16 := isIn1 (N := 16) (by decide) n
  rw [B_X8_find, km_open (mA h), bI_s, ite_b0]
  unfold fiZ
  cases ha : fOpen (zA Z 1) a
  · rw [if_pos rfl, if_neg (fun z => by cases z.1)]; exact OkM_0 h
  · obtain ⟨p, f, hp, hf, rfl, ef⟩ := fOpen_ex (iF (zAI I)) ha
    rw [if_neg (by decide), sp_isIn, bI_s, e16, ite_b0]
    rcases rng1 (N := 16) (by decide) n with ⟨h1, e⟩ | ⟨h1, h2, e⟩ | ⟨k, k1, k2, rfl, e, h1, h2⟩
    · rw [e, if_pos rfl, if_neg (fun z => by cases z.2.1)]; exact OkM_0 h
    · rw [e, if_pos rfl, if_neg (fun z => by cases z.2.1)]; exact OkM_0 h
    · have hpk := p16 k2
      have hin : (decide ((0 : Int32) ≤ pat) && decide (pat ≤ shlI 1 (nI k) - 1)) = inb pat (2 ^ k) := by
        rw [shl16 k2, s1_sub hpk.2, isIn_inb (2 ^ k - 1) (by omega), show 2 ^ k - 1 + 1 = 2 ^ k by omega]
      rw [e, if_neg (by decide), sp_isIn, bI_s, hin, ite_b0, ix_nI (show k < 2 ^ 31 by omega)]
      cases hb : inb pat (2 ^ k)
      · rw [if_pos rfl, if_neg (fun z => by cases z.2.2)]; exact OkM_0 h
      · have r2 : rdI S (r + 1) (23 + p) = zA Z 2 p := m2 (mA h) p hp
        rw [if_neg (by decide), if_pos ⟨rfl, rfl, rfl⟩, x12 hp]
        have key := loop_find (fun s => ev (d + 9) 304 36 [vR 8 r, vI (nI p), vI pat, vI (nI k), vI (nI s)] [] S) (fun s => decide (shrI (zA Z 2 p) (nI s) &&& (shlI 1 (nI k) - 1) = pat)) (fun s => some (some (vI (nI s)), S)) (17 - k) 0 (fun s _ hs => by
          rw [Nat.zero_add] at hs
          try dsimp only
          rw [B_X8_find_36, nI_add, if_neg (show ¬ (16 : Int32) < nI (s + k) from nI_nlt (a := 16) (by omega) (by decide)), a23, i13 (by omega), gd_t, ix_nI (by omega), r2, nI_1]
          by_cases z : shrI (zA Z 2 p) (nI s) &&& (shlI 1 (nI k) - 1) = pat
          · rw [if_pos z, if_pos (decide_eq_true z)]
          · rw [if_neg z, if_neg (by simpa using z)])
        have key2 : ev (d + 9) 304 36 [vR 8 r, vI (nI p), vI pat, vI (nI k), vI 0] [] S = some (some (vI (oI (fiS Z p k pat))), S) := by
          refine key.trans ?_
          unfold fiS
          cases ffind (fun s => decide (shrI (zA Z 2 p) (nI s) &&& (shlI 1 (nI k) - 1) = pat)) 0 (17 - k) with
          | some q => rfl
          | none =>
            try dsimp only
            rw [B_X8_find_36, nI_add, if_pos (show (16 : Int32) < nI (0 + (17 - k) + k) from nI_lt (a := 16) (by omega) (by omega))]; rfl
        rw [key2]
        exact OkM_0 h
/-! sums -/
def suN (Z : Zs) (p : Nat) : Nat → Int32
  | 0 => 0
  | s + 1 => if fLive (zA Z 2) (nI (p * 16 + s)) = true then suN Z p s + frV (p * 16 + s) (zA Z) else suN Z p s
theorem suN_s (Z : Zs) (p s : Nat) : suN Z p (s + 1) = if fLive (zA Z 2) (nI (p * 16 + s)) = true then suN Z p s + frV (p * 16 + s) (zA Z) else suN Z p s := rfl
def suZ (Z : Zs) (a : Int32) : Int32 := if fOpen (zA Z 1) a = true then suN Z (ix a) 16 else -1
theorem su_c {S : Mem} {x : Nat} {Z : Zs} (h : ClR S x Z) (I : ZI Z) (a : Int32) (d : Nat) : OkC x S (cal (d + 9) 136 [vR 7 x, vI a] S) (suZ Z a) Z := by
  rw [B_X7_sum, kc_open (cA h), bI_s, ite_b0]
  unfold suZ
  cases ha : fOpen (zA Z 1) a
  · rw [if_pos rfl, if_neg Bool.false_ne_true]; exact OkC_0 h
  · obtain ⟨p, f, hp, hf, rfl, ef⟩ := fOpen_ex (iF (zAI I)) ha
    have lp_ : ∀ n, n ≤ 16 → ∃ u, ev (d + 9) 136 20 [vR 7 x, vI (nI p), vI 0, vI 0, vU] [] S = ev (d + 9) 136 20 [vR 7 x, vI (nI p), vI (suN Z p n), vI (nI n), u] [] S := by
      intro n
      induction n with
      | zero => intro _; exact ⟨vU, rfl⟩
      | succ n ih =>
        intro hn
        obtain ⟨u, e⟩ := ih (by omega)
        have ea : nI p * 16 + nI n = nI (p * 16 + n) := by
          show nI p * nI 16 + nI n = _
          rw [pk_mul, nI_add]
        refine ⟨vU, ?_⟩
        rw [e, B_X7_sum_20, if_neg (n16 (by omega)), ea, kc_live (cA h), bI_s, ite_b0, suN_s, nI_1]
        cases hl : fLive (zA Z 2) (nI (p * 16 + n))
        · rw [if_pos rfl, if_neg Bool.false_ne_true]
        · rw [if_neg (by decide), kc_valueAt (cA h) (zAI I), bI_s, if_pos rfl, (val_e (q := p * 16 + n) (by omega) hf (by rw [show (p * 16 + n) / 16 = p by omega]; exact ef)).1]
    obtain ⟨u, e⟩ := lp_ 16 (Nat.le_refl _)
    rw [if_neg (by decide), e, B_X7_sum_20, if_pos y16, if_pos rfl, x12 hp]
    exact OkC_0 h
theorem su_m {S : Mem} {r : Nat} {Z : Zs} (h : MoR S r Z) (I : ZI Z) (a : Int32) (d : Nat) : OkM r S (cal (d + 9) 306 [vR 8 r, vI a] S) (suZ Z a) Z := by
  rw [B_X8_sum, km_open (mA h), bI_s, ite_b0]
  unfold suZ
  cases ha : fOpen (zA Z 1) a
  · rw [if_pos rfl, if_neg Bool.false_ne_true]; exact OkM_0 h
  · obtain ⟨p, f, hp, hf, rfl, ef⟩ := fOpen_ex (iF (zAI I)) ha
    have r1 : rdI S (r + 1) (11 + p) = nI f := (m1 (mA h) p hp).trans ef
    have r2 : rdI S (r + 1) (23 + p) = zA Z 2 p := m2 (mA h) p hp
    have lp_ : ∀ n, n ≤ 16 → ev (d + 9) 306 14 [vR 8 r, vI (nI p), vI 0, vI 0] [] S = ev (d + 9) 306 14 [vR 8 r, vI (nI p), vI (suN Z p n), vI (nI n)] [] S := by
      intro n
      induction n with
      | zero => intro _; rfl
      | succ n ih =>
        intro hn
        have hl : fLive (zA Z 2) (nI (p * 16 + n)) = decide (shrI (zA Z 2 p) (nI n) &&& 1 = 1) := by
          unfold fLive
          rw [inb_t (show p * 16 + n < 192 by omega) (by decide), Bool.true_and, div16 (by omega), rem16 (by omega), show (p * 16 + n) / 16 = p by omega, show (p * 16 + n) % 16 = n by omega, x12 hp]
        have ev : zA Z 4 (f * 16 + n) = frV (p * 16 + n) (zA Z) := by
          unfold frV
          rw [show (p * 16 + n) / 16 = p by omega, show (p * 16 + n) % 16 = n by omega, ef, ix_nI (by omega)]
        rw [ih (by omega), B_X8_sum_14, if_neg (n16 (by omega)), a23, i13 (by omega), gd_t, ix_nI (by omega), r2, sp_mhas, bI_s, ite_b0, suN_s, hl, nI_1]
        cases hc : decide (shrI (zA Z 2 p) (nI n) &&& 1 = 1)
        · rw [if_pos rfl, if_neg Bool.false_ne_true, add0]
        · rw [if_neg (by decide), a11, i13 (by omega), gd_t, ix_nI (by omega), r1, km_valueAt (mA h) _ hf (by omega), bI_s, if_pos rfl, ev]
    rw [if_neg (by decide), lp_ 16 (Nat.le_refl _), B_X8_sum_14, if_pos y16, if_pos rfl, x12 hp]
    exact OkM_0 h
/-! the first that holds -/
def hoC (Z : Zs) (v : Int32) (q : Nat) : Bool := fLive (zA Z 2) (nI q) && decide (frV q (zA Z) = v)
def hoZ (Z : Zs) (v : Int32) : Int32 := if inb v 1000 = true then oI (ffind (hoC Z v) 0 192) else -1
theorem ho_c {S : Mem} {x : Nat} {Z : Zs} (h : ClR S x Z) (I : ZI Z) (v : Int32) (d : Nat) : OkC x S (cal (d + 9) 137 [vR 7 x, vI v] S) (hoZ Z v) Z := by
  rw [B_X7_holds, isValue_c, bI_s, ite_b0]
  unfold hoZ
  cases hv : inb v 1000
  · rw [if_pos rfl, if_neg Bool.false_ne_true]; exact OkC_0 h
  · have key := loop_find (fun q => ev (d + 9) 137 11 [vR 7 x, vI v, vI (nI q)] [] S) (hoC Z v) (fun q => some (some (vI (nI q)), S)) 192 0 (fun q _ hq => by
      rw [Nat.zero_add] at hq
      try dsimp only
      rw [B_X7_holds_11, if_neg (n192 hq), kc_live (cA h), bI_s, ite_b0, nI_1]
      unfold hoC
      cases hl : fLive (zA Z 2) (nI q)
      · rw [if_pos rfl, Bool.false_and, if_neg Bool.false_ne_true]
      · obtain ⟨q', f, hq', e', hf, ef⟩ := live_f (zAI I) hl
        have eqq : q' = q := ((nI_eq (by omega) (by omega)).mp e').symm
        subst eqq
        rw [if_neg (by decide), kc_valueAt (cA h) (zAI I), bI_s, (val_e hq hf ef).1, Bool.true_and]
        by_cases z : frV q' (zA Z) = v
        · rw [if_pos z, if_pos (decide_eq_true z)]
        · rw [if_neg z, if_neg (by simpa using z)])
    have key2 : ev (d + 9) 137 11 [vR 7 x, vI v, vI 0] [] S = some (some (vI (oI (ffind (hoC Z v) 0 192))), S) := by
      refine key.trans ?_
      cases ffind (hoC Z v) 0 192 with
      | some q => rfl
      | none =>
        try dsimp only
        rw [B_X7_holds_11, if_pos y192]; rfl
    rw [if_neg (by decide), key2, if_pos rfl]
    exact OkC_0 h
theorem ho_m {S : Mem} {r : Nat} {Z : Zs} (h : MoR S r Z) (I : ZI Z) (v : Int32) (d : Nat) : OkM r S (cal (d + 9) 307 [vR 8 r, vI v] S) (hoZ Z v) Z := by
  rw [B_X8_holds, isValue_m, bI_s, ite_b0]
  unfold hoZ
  cases hv : inb v 1000
  · rw [if_pos rfl, if_neg Bool.false_ne_true]; exact OkM_0 h
  · have key := loop_find (fun q => ev (d + 9) 307 11 [vR 8 r, vI v, vI (nI q)] [] S) (hoC Z v) (fun q => some (some (vI (nI q)), S)) 192 0 (fun q _ hq => by
      rw [Nat.zero_add] at hq
      try dsimp only
      rw [B_X8_holds_11, if_neg (n192 hq), km_live (mA h) (zAI I), bI_s, ite_b0, nI_1]
      unfold hoC
      cases hl : fLive (zA Z 2) (nI q)
      · rw [if_pos rfl, Bool.false_and, if_neg Bool.false_ne_true]
      · obtain ⟨q', f, hq', e', hf, ef⟩ := live_f (zAI I) hl
        have eqq : q' = q := ((nI_eq (by omega) (by omega)).mp e').symm
        subst eqq
        have e11 : rdI S (r + 1) (11 + q' / 16) = nI f := (m1 (mA h) _ (by omega)).trans ef
        have ev : zA Z 4 (f * 16 + q' % 16) = frV q' (zA Z) := by unfold frV; rw [ef, ix_nI (by omega)]
        rw [if_neg (by decide), gd_p nz16, div16 (by omega), a11, i13 (by omega), gd_t, gd_p nz16, ix_nI (by omega), e11, rem16 (by omega), km_valueAt (mA h) _ hf (by omega), bI_s, ev, Bool.true_and]
        by_cases z : frV q' (zA Z) = v
        · rw [if_pos z, if_pos (decide_eq_true z)]
        · rw [if_neg z, if_neg (by simpa using z)])
    have key2 : ev (d + 9) 307 11 [vR 8 r, vI v, vI 0] [] S = some (some (vI (oI (ffind (hoC Z v) 0 192))), S) := by
      refine key.trans ?_
      cases ffind (hoC Z v) 0 192 with
      | some q => rfl
      | none =>
        try dsimp only
        rw [B_X8_holds_11, if_pos y192]; rfl
    rw [if_neg (by decide), key2, if_pos rfl]
    exact OkM_0 h
/-! the fullest -/
def fuN (Z : Zs) : Nat → Option Nat
  | 0 => none
  | p + 1 => if zA Z 1 p = -1 then fuN Z p else match fuN Z p with
    | none => some p
    | some b => if bitc (zA Z 2 p) ≤ bitc (zA Z 2 b) then some b else some p
theorem fuN_c (Z : Zs) {p : Nat} (h : zA Z 1 p = -1) : fuN Z (p + 1) = fuN Z p := if_pos h
theorem fuN_n (Z : Zs) {p : Nat} (h : ¬ zA Z 1 p = -1) (h2 : fuN Z p = none) : fuN Z (p + 1) = some p := by
  show (if zA Z 1 p = -1 then fuN Z p else match fuN Z p with
    | none => some p
    | some b => if bitc (zA Z 2 p) ≤ bitc (zA Z 2 b) then some b else some p) = _
  rw [if_neg h, h2]
theorem fuN_b (Z : Zs) {p b : Nat} (h : ¬ zA Z 1 p = -1) (h2 : fuN Z p = some b) : fuN Z (p + 1) = if bitc (zA Z 2 p) ≤ bitc (zA Z 2 b) then some b else some p := by
  show (if zA Z 1 p = -1 then fuN Z p else match fuN Z p with
    | none => some p
    | some b => if bitc (zA Z 2 p) ≤ bitc (zA Z 2 b) then some b else some p) = _
  rw [if_neg h, h2]
theorem fuN_lt (Z : Zs) : ∀ n b, fuN Z n = some b → b < n
  | 0, b, h => by cases h
  | n + 1, b, h => by
    by_cases z : zA Z 1 n = -1
    · rw [fuN_c Z z] at h
      have := fuN_lt Z n b h
      omega
    · cases e : fuN Z n with
      | none =>
        rw [fuN_n Z z e] at h
        cases h; omega
      | some b' =>
        rw [fuN_b Z z e] at h
        have := fuN_lt Z n b' e
        by_cases y : bitc (zA Z 2 n) ≤ bitc (zA Z 2 b')
        · rw [if_pos y] at h; cases h; omega
        · rw [if_neg y] at h; cases h; omega
def fuM (Z : Zs) (n : Nat) : Int32 := match fuN Z n with
  | none => 0
  | some b => bitc (zA Z 2 b)
theorem fu_c {S : Mem} {x : Nat} {Z : Zs} (h : ClR S x Z) (I : ZI Z) (d : Nat) : OkC x S (cal (d + 9) 138 [vR 7 x] S) (oI (fuN Z 12)) Z := by
  have lp_ : ∀ n, n ≤ 12 → ∃ u, ev (d + 9) 138 6 [vR 7 x, vI (-1), vI 0, vI 0, vU] [] S = ev (d + 9) 138 6 [vR 7 x, vI (oI (fuN Z n)), vI (fuM Z n), vI (nI n), u] [] S := by
    intro n
    induction n with
    | zero => intro _; exact ⟨vU, rfl⟩
    | succ n ih =>
      intro hn
      obtain ⟨u, e⟩ := ih (by omega)
      refine ⟨vU, ?_⟩
      obtain ⟨k, hk, ek⟩ := iL (zAI I) n (by omega)
      have hpk := pop_le hk
      rw [e, B_X7_fullest_6, if_neg (n12 (by omega)), i12 (by omega), gd_t, x12 (by omega), c2 (cA h) n (by omega), sp_bitCount, bI_s, nI_1]
      by_cases z : zA Z 1 n = -1
      · have e0 : bitc (zA Z 2 n) = 0 := by rw [iLF (zAI I) n (by omega) z]; decide
        have ge : (0 : Int32) ≤ fuM Z n := by
          unfold fuM
          cases hb : fuN Z n with
          | none => exact Int32.le_refl _
          | some b =>
            obtain ⟨p, hp, e, -⟩ := bitc_ok (iL (zAI I) b (by have := fuN_lt Z n b hb; omega))
            show 0 ≤ bitc (zA Z 2 b)
            rw [e]; exact nI_pos' (by omega)
        have e2 : fuM Z (n + 1) = fuM Z n := by unfold fuM; rw [fuN_c Z z]
        rw [if_pos (by rw [e0]; exact ge), fuN_c Z z, e2]
      · cases hb : fuN Z n with
        | none =>
          have e0 : fuM Z n = 0 := by unfold fuM; rw [hb]
          have hk0 : ¬ k = 0 := fun y => iO (zAI I) n (by omega) z (by rw [ek, y]; rfl)
          have hpos : ¬ bitc (zA Z 2 n) ≤ 0 := by rw [ek, bitc_pop hk]; exact nI_nle (pop_pos hk0) (by omega)
          have e2 : fuM Z (n + 1) = bitc (zA Z 2 n) := by unfold fuM; rw [fuN_n Z z hb]
          rw [e0, if_neg hpos, fuN_n Z z hb, e2]; rfl
        | some b =>
          have e0 : fuM Z n = bitc (zA Z 2 b) := by unfold fuM; rw [hb]
          rw [e0]
          by_cases y : bitc (zA Z 2 n) ≤ bitc (zA Z 2 b)
          · have e2 : fuM Z (n + 1) = bitc (zA Z 2 b) := by unfold fuM; rw [fuN_b Z z hb, if_pos y]
            rw [if_pos y, e2, fuN_b Z z hb, if_pos y]
          · have e2 : fuM Z (n + 1) = bitc (zA Z 2 n) := by unfold fuM; rw [fuN_b Z z hb, if_neg y]
            rw [if_neg y, e2, fuN_b Z z hb, if_neg y]; rfl
  obtain ⟨u, e⟩ := lp_ 12 (Nat.le_refl _)
  rw [B_X7_fullest, e, B_X7_fullest_6, if_pos y12]
  exact OkC_0 h
theorem fu_m {S : Mem} {r : Nat} {Z : Zs} (h : MoR S r Z) (I : ZI Z) (d : Nat) : OkM r S (cal (d + 9) 308 [vR 8 r] S) (oI (fuN Z 12)) Z := by
  have lp_ : ∀ n, n ≤ 12 → ev (d + 9) 308 4 [vR 8 r, vI (-1), vI 0] [] S = ev (d + 9) 308 4 [vR 8 r, vI (oI (fuN Z n)), vI (nI n)] [] S := by
    intro n
    induction n with
    | zero => intro _; rfl
    | succ n ih =>
      intro hn
      have r2 : ∀ p, p < 12 → rdI S (r + 1) (23 + p) = zA Z 2 p := fun p hp => m2 (mA h) p hp
      rw [ih (by omega), B_X8_fullest_4, if_neg (n12 (by omega)), km_open (mA h), bI_s, ite_b0, fOpen_nI (by omega), nI_1]
      by_cases z : zA Z 1 n = -1
      · rw [decide_eq_false (not_not_intro z), if_pos rfl, fuN_c Z z]
      · rw [decide_eq_true z, if_neg (by decide)]
        cases hb : fuN Z n with
        | none => rw [oI_none, if_pos rfl, fuN_n Z z hb]; rfl
        | some b =>
          have hbl := fuN_lt Z n b hb
          rw [oI_some, if_neg (nI_m1 (by omega)), a23, a23, i13 (by omega), gd_t, ix_nI (by omega), r2 n (by omega), km_bits _ (iL (zAI I) n (by omega)), bI_s, i13 (by omega), gd_t, ix_nI (by omega), r2 b (by omega), km_bits _ (iL (zAI I) b (by omega)), bI_s, fuN_b Z z hb]
          by_cases y : bitc (zA Z 2 n) ≤ bitc (zA Z 2 b)
          · rw [if_pos y, if_pos y]; rfl
          · rw [if_neg y, if_neg y]; rfl
  rw [B_X8_fullest, lp_ 12 (Nat.le_refl _), B_X8_fullest_4, if_pos y12]
  exact OkM_0 h
