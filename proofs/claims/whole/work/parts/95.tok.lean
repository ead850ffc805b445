/-! the tokens of a tape, pure -/
def isLe (x : Nat) : Bool := (decide (97 ≤ x) && decide (x ≤ 122)) || (decide (65 ≤ x) && decide (x ≤ 90))
def isDg (x : Nat) : Bool := decide (48 ≤ x) && decide (x ≤ 57)
def isBl (x : Nat) : Bool := decide (x = 32) || decide (x = 10)
theorem isLe_e (x : Nat) : isLe x = true ↔ (97 ≤ x ∧ x ≤ 122) ∨ (65 ≤ x ∧ x ≤ 90) := by
  unfold isLe
  rw [Bool.or_eq_true, Bool.and_eq_true, Bool.and_eq_true, decide_eq_true_iff, decide_eq_true_iff, decide_eq_true_iff, decide_eq_true_iff]
theorem isDg_e (x : Nat) : isDg x = true ↔ 48 ≤ x ∧ x ≤ 57 := by
  unfold isDg
  rw [Bool.and_eq_true, decide_eq_true_iff, decide_eq_true_iff]
theorem isBl_e (x : Nat) : isBl x = true ↔ x = 32 ∨ x = 10 := by
  unfold isBl
  rw [Bool.or_eq_true, decide_eq_true_iff, decide_eq_true_iff]
theorem bf {b : Bool} (h : ¬ b = true) : b = false := by simpa using h
/-- the first from p on, below n, that is so; n -/
def fstN (c : Nat → Bool) (p n : Nat) : Nat := match ffind c p (n - p) with
  | some q => q
  | none => n
theorem fstN_t {c : Nat → Bool} {p n : Nat} (hp : p < n) (h : c p = true) : fstN c p n = p := by
  unfold fstN
  rw [show n - p = (n - p - 1) + 1 by omega, ff_t h]
theorem fstN_f {c : Nat → Bool} {p n : Nat} (hp : p < n) (h : c p = false) : fstN c p n = fstN c (p + 1) n := by
  unfold fstN
  rw [show n - p = (n - (p + 1)) + 1 by omega, ff_f h]
theorem fstN_n {c : Nat → Bool} {n : Nat} : fstN c n n = n := by
  unfold fstN
  rw [Nat.sub_self]; rfl
theorem fstN_le {c : Nat → Bool} {p n : Nat} (hp : p ≤ n) : p ≤ fstN c p n ∧ fstN c p n ≤ n ∧ (∀ q, p ≤ q → q < fstN c p n → c q = false) ∧ (fstN c p n < n → c (fstN c p n) = true) := by
  unfold fstN
  cases g : ffind c p (n - p) with
  | none => exact ⟨hp, Nat.le_refl _, fun q h1 h2 => ffind_none g q h1 (by have h3 : q < n := h2; omega), fun h => absurd h (Nat.lt_irrefl _)⟩
  | some q =>
    obtain ⟨h1, h2, h3, h4⟩ := ffind_some g
    exact ⟨h1, by show q ≤ n; omega, h4, fun _ => h3⟩
def eW (b : Nat → Nat) (n p : Nat) : Nat := fstN (fun q => !(isLe (b q))) p n
def eN (b : Nat → Nat) (n p : Nat) : Nat := fstN (fun q => !(isDg (b q))) p n
def nbl (b : Nat → Nat) (n p : Nat) : Nat := fstN (fun q => !(isBl (b q))) p n
def nuV (b : Nat → Nat) (p : Nat) : Nat → Nat
  | 0 => 0
  | l + 1 => min 10000 (nuV b p l * 10 + b (p + l) - 48)
theorem nuV_s (b : Nat → Nat) (p l : Nat) : nuV b p (l + 1) = min 10000 (nuV b p l * 10 + b (p + l) - 48) := rfl
theorem nuV_le (b : Nat → Nat) (p : Nat) : ∀ l, nuV b p l ≤ 10000
  | 0 => Nat.zero_le _
  | l + 1 => by rw [nuV_s]; omega
/-- the words: where each starts in the row of words, how long it is -/
def wsK (K : Nat) : Nat := [0, 7, 14, 19, 24, 30, 35, 43, 47, 50, 55, 60, 66, 69, 74, 79, 83, 86, 90, 94, 99, 105, 112, 116, 122, 129].getD K 129
def wlK (K : Nat) : Nat := [6, 6, 4, 4, 5, 4, 7, 3, 2, 4, 4, 5, 2, 4, 4, 3, 2, 3, 3, 4, 5, 6, 3, 5, 6].getD K 0
def wFn (K i : Nat) : Nat := (wTx (wsK K + i)).toBitVec.toNat
def wEq (b : Nat → Nat) (p l s : Nat) : Bool := (ffind (fun i => !(decide (wTx (s + i) = nI (b (p + i))))) 0 l).isNone
def wIs (b : Nat → Nat) (p e K : Nat) : Bool := decide (e - p = wlK K) && wEq b p (e - p) (wsK K)
def wKd (b : Nat → Nat) (p e : Nat) : Nat := match ffind (wIs b p e) 0 25 with
  | some K => K
  | none => 40
def sgK (x : Nat) : Nat := if x = 35 then 30 else if x = 40 then 35 else if x = 41 then 36 else if x = 42 then 33 else if x = 43 then 31 else if x = 45 then 32 else if x = 47 then 34 else if x = 59 then 37 else if x = 60 then 25 else if x = 61 then 29 else if x = 62 then 27 else 40
def two (b : Nat → Nat) (n p x : Nat) : Bool := (decide (p + 1 < n) && decide (b (p + 1) = 61)) && decide (b p = x)
def tk (b : Nat → Nat) (n p : Nat) : Nat × (Nat × Nat) := if isLe (b p) = true then (wKd b p (eW b n p), (0, eW b n p)) else if isDg (b p) = true then (38, (nuV b p (eN b n p - p), eN b n p)) else if two b n p 60 = true then (26, (0, p + 2)) else if two b n p 62 = true then (28, (0, p + 2)) else (sgK (b p), (0, p + 1))
theorem eW_lt {b : Nat → Nat} {n p : Nat} (hp : p < n) (h : isLe (b p) = true) : p < eW b n p ∧ eW b n p ≤ n := by
  unfold eW
  rw [fstN_f hp (by rw [h]; rfl)]
  have := fstN_le (c := fun q => !(isLe (b q))) (p := p + 1) (n := n) hp
  omega
theorem eN_lt {b : Nat → Nat} {n p : Nat} (hp : p < n) (h : isDg (b p) = true) : p < eN b n p ∧ eN b n p ≤ n := by
  unfold eN
  rw [fstN_f hp (by rw [h]; rfl)]
  have := fstN_le (c := fun q => !(isDg (b q))) (p := p + 1) (n := n) hp
  omega
theorem two_lt {b : Nat → Nat} {n p x : Nat} (h : two b n p x = true) : p + 1 < n := by
  unfold two at h
  rw [Bool.and_eq_true, Bool.and_eq_true, decide_eq_true_iff] at h
  exact h.1.1
theorem tk_end {b : Nat → Nat} {n p : Nat} (hp : p < n) : p < (tk b n p).2.2 ∧ (tk b n p).2.2 ≤ n := by
  unfold tk
  by_cases h1 : isLe (b p) = true
  · rw [if_pos h1]; exact eW_lt hp h1
  · rw [if_neg h1]
    by_cases h2 : isDg (b p) = true
    · rw [if_pos h2]; exact eN_lt hp h2
    · rw [if_neg h2]
      by_cases h3 : two b n p 60 = true
      · have := two_lt h3
        rw [if_pos h3]
        show p < p + 2 ∧ p + 2 ≤ n
        omega
      · rw [if_neg h3]
        by_cases h4 : two b n p 62 = true
        · have := two_lt h4
          rw [if_pos h4]
          show p < p + 2 ∧ p + 2 ≤ n
          omega
        · rw [if_neg h4]
          show p < p + 1 ∧ p + 1 ≤ n
          omega
theorem wKd_lt {b : Nat → Nat} {p e : Nat} : wKd b p e < 25 ∨ wKd b p e = 40 := by
  unfold wKd
  cases g : ffind (wIs b p e) 0 25 with
  | none => exact Or.inr rfl
  | some K =>
    obtain ⟨-, h2, -, -⟩ := ffind_some g
    exact Or.inl (by show K < 25; omega)
theorem sgK_le (x : Nat) : sgK x ≤ 40 ∧ 25 ≤ sgK x ∧ ¬ sgK x = 38 ∧ ¬ sgK x = 39 := by
  unfold sgK
  repeat' split
  all_goals omega
theorem tk_lt (b : Nat → Nat) (n p : Nat) : (tk b n p).1 ≤ 40 ∧ ¬ (tk b n p).1 = 39 ∧ (tk b n p).2.1 ≤ 10000 := by
  unfold tk
  have h0 := wKd_lt (b := b) (p := p) (e := eW b n p)
  have h9 := sgK_le (b p)
  by_cases h1 : isLe (b p) = true
  · rw [if_pos h1]
    show wKd b p (eW b n p) ≤ 40 ∧ ¬ wKd b p (eW b n p) = 39 ∧ 0 ≤ 10000
    omega
  · rw [if_neg h1]
    by_cases h2 : isDg (b p) = true
    · rw [if_pos h2]
      exact ⟨(by decide : (38 : Nat) ≤ 40), (by decide : ¬ (38 : Nat) = 39), nuV_le _ _ _⟩
    · rw [if_neg h2]
      by_cases h3 : two b n p 60 = true
      · rw [if_pos h3]; exact ⟨(by decide : (26 : Nat) ≤ 40), (by decide : ¬ (26 : Nat) = 39), Nat.zero_le _⟩
      · rw [if_neg h3]
        by_cases h4 : two b n p 62 = true
        · rw [if_pos h4]; exact ⟨(by decide : (28 : Nat) ≤ 40), (by decide : ¬ (28 : Nat) = 39), Nat.zero_le _⟩
        · rw [if_neg h4]
          exact ⟨h9.1, h9.2.2.2, Nat.zero_le _⟩
def tP (b : Nat → Nat) (n : Nat) : Nat → Nat
  | 0 => nbl b n 0
  | k + 1 => if tP b n k < n then nbl b n (tk b n (tP b n k)).2.2 else n
theorem tP_s (b : Nat → Nat) (n k : Nat) : tP b n (k + 1) = if tP b n k < n then nbl b n (tk b n (tP b n k)).2.2 else n := rfl
theorem nbl_le {b : Nat → Nat} {n p : Nat} (hp : p ≤ n) : p ≤ nbl b n p ∧ nbl b n p ≤ n := by
  have := fstN_le (c := fun q => !(isBl (b q))) hp
  exact ⟨this.1, this.2.1⟩
theorem tP_le (b : Nat → Nat) (n : Nat) : ∀ k, tP b n k ≤ n
  | 0 => (nbl_le (Nat.zero_le n)).2
  | k + 1 => by
    rw [tP_s]
    by_cases h : tP b n k < n
    · rw [if_pos h]; exact (nbl_le (tk_end h).2).2
    · rw [if_neg h]; exact Nat.le_refl _
theorem tP_lt {b : Nat → Nat} {n k : Nat} (h : tP b n k < n) : tP b n k < tP b n (k + 1) := by
  rw [tP_s, if_pos h]
  have h1 := tk_end (b := b) h
  have h2 := nbl_le (b := b) h1.2
  omega
theorem tP_ge (b : Nat → Nat) (n : Nat) : ∀ k, tP b n k < n → k ≤ tP b n k
  | 0, _ => Nat.zero_le _
  | k + 1, h => by
    by_cases z : tP b n k < n
    · have := tP_ge b n k z
      have := tP_lt z
      omega
    · rw [tP_s, if_neg z] at h; omega
theorem tP_nb {b : Nat → Nat} {n : Nat} : ∀ k, tP b n k < n → isBl (b (tP b n k)) = false := by
  intro k h
  have key : ∀ p, p ≤ n → nbl b n p < n → isBl (b (nbl b n p)) = false := fun p hp hl => by
    have := (fstN_le (c := fun q => !(isBl (b q))) hp).2.2.2 hl
    have e : (!(isBl (b (nbl b n p)))) = true := this
    simpa using e
  cases k with
  | zero => exact key 0 (Nat.zero_le _) h
  | succ k =>
    by_cases z : tP b n k < n
    · rw [tP_s, if_pos z] at h ⊢
      exact key _ (tk_end z).2 h
    · rw [tP_s, if_neg z] at h; omega
/-- how many tokens there are -/
def tN (b : Nat → Nat) (n : Nat) : Nat := fstN (fun k => !(decide (tP b n k < n))) 0 n
theorem tN_le (b : Nat → Nat) (n : Nat) : tN b n ≤ n := (fstN_le (c := fun k => !(decide (tP b n k < n))) (Nat.zero_le n)).2.1
theorem tN_lt {b : Nat → Nat} {n k : Nat} (h : k < tN b n) : tP b n k < n := by
  have := (fstN_le (c := fun k => !(decide (tP b n k < n))) (Nat.zero_le n)).2.2.1 k (Nat.zero_le _) h
  simpa using this
theorem tP_n {b : Nat → Nat} {n : Nat} : ∀ m k, tP b n k = n → tP b n (k + m) = n
  | 0, _, h => h
  | m + 1, k, h => by
    have e := tP_n m k h
    rw [show k + (m + 1) = (k + m) + 1 by omega, tP_s, if_neg (by omega)]
theorem tN_ge {b : Nat → Nat} {n k : Nat} (h : tN b n ≤ k) : tP b n k = n := by
  have e : tP b n (tN b n) = n := by
    have hl := tP_le b n (tN b n)
    rcases Nat.lt_or_eq_of_le (tN_le b n) with z | z
    · have := (fstN_le (c := fun k => !(decide (tP b n k < n))) (Nat.zero_le n)).2.2.2 z
      have e2 : (!(decide (tP b n (tN b n) < n))) = true := this
      have e3 : ¬ tP b n (tN b n) < n := by simpa using e2
      omega
    · rcases Nat.lt_or_eq_of_le hl with y | y
      · have := tP_ge b n _ y; omega
      · exact y
  have := tP_n (k - tN b n) (tN b n) e
  rwa [show tN b n + (k - tN b n) = k by omega] at this
theorem tN_iff {b : Nat → Nat} {n k : Nat} : tP b n k < n ↔ k < tN b n := ⟨fun h => by
  rcases Nat.lt_or_ge k (tN b n) with z | z
  · exact z
  · have := tN_ge z; omega, tN_lt⟩
def tK (b : Nat → Nat) (n k : Nat) : Nat := if tP b n k < n then (tk b n (tP b n k)).1 else 39
def tV (b : Nat → Nat) (n k : Nat) : Nat := (tk b n (tP b n k)).2.1
theorem tK_end {b : Nat → Nat} {n k : Nat} : tK b n k = 39 ↔ tN b n ≤ k := by
  unfold tK
  by_cases h : tP b n k < n
  · have := tN_iff.mp h
    have h2 := (tk_lt b n (tP b n k)).2.1
    rw [if_pos h]
    exact ⟨fun z => absurd z h2, fun z => by omega⟩
  · rw [if_neg h]
    exact ⟨fun _ => by
      rcases Nat.lt_or_ge k (tN b n) with z | z
      · exact absurd (tN_lt z) h
      · exact z, fun _ => rfl⟩
theorem tK_le (b : Nat → Nat) (n k : Nat) : tK b n k ≤ 40 := by
  unfold tK
  by_cases h : tP b n k < n
  · rw [if_pos h]; exact (tk_lt _ _ _).1
  · rw [if_neg h]; decide
/-! letters and figures in class and reference -/
theorem q0_t (S : Mem) : gd (isZ 0) (some (some (vI 0), S)) = some (some (vI (b2i false)), S) := gd_p isZ_0
theorem q1_t (S : Mem) : gd (isZ 1) (some (some (vI 1), S)) = some (some (vI (b2i true)), S) := gd_p isZ_1
theorem let_t {a : Int32} (S : Mem) {x : Nat} (hx : x < 256) (ha : a = nI x) : (if a < 97 then if a < 65 then gd (isZ 0) (some (some (vI 0), S)) else if 90 < a then gd (isZ 0) (some (some (vI 0), S)) else gd (isZ 1) (some (some (vI 1), S)) else if a ≤ 122 then gd (isZ 1) (some (some (vI 1), S)) else if a < 65 then gd (isZ 0) (some (some (vI 0), S)) else if 90 < a then gd (isZ 0) (some (some (vI 0), S)) else gd (isZ 1) (some (some (vI 1), S))) = some (some (vI (b2i (isLe x))), S) := by
  have l97 : a < 97 ↔ x < 97 := by rw [ha]; exact nI_ltI (b := 97) (by omega) (by decide)
  have l65 : a < 65 ↔ x < 65 := by rw [ha]; exact nI_ltI (b := 65) (by omega) (by decide)
  have l90 : 90 < a ↔ 90 < x := by rw [ha]; exact nI_ltI (a := 90) (by decide) (by omega)
  have l122 : a ≤ 122 ↔ x ≤ 122 := by rw [ha]; exact nI_leI (b := 122) (by omega) (by decide)
  have he := isLe_e x
  rw [q0_t, q1_t]
  by_cases h1 : x < 97
  · rw [if_pos (l97.mpr h1)]
    by_cases h2 : x < 65
    · rw [if_pos (l65.mpr h2), (bf (fun z => by have := he.mp z; omega) : isLe x = false)]
    · rw [if_neg (mt l65.mp h2)]
      by_cases h3 : 90 < x
      · rw [if_pos (l90.mpr h3), (bf (fun z => by have := he.mp z; omega) : isLe x = false)]
      · rw [if_neg (mt l90.mp h3), he.mpr (by omega)]
  · rw [if_neg (mt l97.mp h1)]
    by_cases h2 : x ≤ 122
    · rw [if_pos (l122.mpr h2), he.mpr (by omega)]
    · rw [if_neg (mt l122.mp h2), if_neg (mt l65.mp (by omega)), if_pos (l90.mpr (by omega)), (bf (fun z => by have := he.mp z; omega) : isLe x = false)]
theorem dig_t {a : Int32} (S : Mem) {x : Nat} (hx : x < 256) (ha : a = nI x) : (if a < 48 then gd (isZ 0) (some (some (vI 0), S)) else if 57 < a then gd (isZ 0) (some (some (vI 0), S)) else gd (isZ 1) (some (some (vI 1), S))) = some (some (vI (b2i (isDg x))), S) := by
  have l48 : a < 48 ↔ x < 48 := by rw [ha]; exact nI_ltI (b := 48) (by omega) (by decide)
  have l57 : 57 < a ↔ 57 < x := by rw [ha]; exact nI_ltI (a := 57) (by decide) (by omega)
  have he := isDg_e x
  rw [q0_t, q1_t]
  by_cases h1 : x < 48
  · rw [if_pos (l48.mpr h1), (bf (fun z => by have := he.mp z; omega) : isDg x = false)]
  · rw [if_neg (mt l48.mp h1)]
    by_cases h2 : 57 < x
    · rw [if_pos (l57.mpr h2), (bf (fun z => by have := he.mp z; omega) : isDg x = false)]
    · rw [if_neg (mt l57.mp h2), he.mpr (by omega)]
theorem ltr_c {x : Nat} (hx : x < 256) (d : Nat) (S : Mem) : cal d 60 [vI (nI x)] S = some (some (vI (b2i (isLe x))), S) := (B_X3_isLetter d (nI x) S).trans (let_t S hx rfl)
theorem dg_c {x : Nat} (hx : x < 256) (d : Nat) (S : Mem) : cal d 61 [vI (nI x)] S = some (some (vI (b2i (isDg x))), S) := (B_X3_isDigit d (nI x) S).trans (dig_t S hx rfl)
theorem ltr_m {x : Nat} (hx : x < 256) (d : Nat) (S : Mem) : cal d 180 [vI (nI x)] S = some (some (vI (b2i (isLe x))), S) := (B_X8_isLetterByte d (nI x) S).trans (let_t S hx rfl)
theorem dg_m {x : Nat} (hx : x < 256) (d : Nat) (S : Mem) : cal d 181 [vI (nI x)] S = some (some (vI (b2i (isDg x))), S) := (B_X8_isFigure d (nI x) S).trans (dig_t S hx rfl)
theorem sg_c {x : Nat} (hx : x < 256) (d : Nat) (S : Mem) : cal d 64 [vI (nI x)] S = some (some (vI (nI (sgK x))), S) := by
  have e : ∀ y : Nat, y < 256 → (nI x = nI y ↔ x = y) := fun y hy => nI_eq (by omega) (by omega)
  rw [B_X3_signKind]
  unfold sgK
  by_cases h35 : x = 35
  · rw [if_pos (show nI x = 35 from (e 35 (by decide)).mpr h35), if_pos h35]; rfl
  rw [if_neg (show ¬ nI x = 35 from mt (e 35 (by decide)).mp h35), if_neg h35]
  by_cases h40 : x = 40
  · rw [if_pos (show nI x = 40 from (e 40 (by decide)).mpr h40), if_pos h40]; rfl
  rw [if_neg (show ¬ nI x = 40 from mt (e 40 (by decide)).mp h40), if_neg h40]
  by_cases h41 : x = 41
  · rw [if_pos (show nI x = 41 from (e 41 (by decide)).mpr h41), if_pos h41]; rfl
  rw [if_neg (show ¬ nI x = 41 from mt (e 41 (by decide)).mp h41), if_neg h41]
  by_cases h42 : x = 42
  · rw [if_pos (show nI x = 42 from (e 42 (by decide)).mpr h42), if_pos h42]; rfl
  rw [if_neg (show ¬ nI x = 42 from mt (e 42 (by decide)).mp h42), if_neg h42]
  by_cases h43 : x = 43
  · rw [if_pos (show nI x = 43 from (e 43 (by decide)).mpr h43), if_pos h43]; rfl
  rw [if_neg (show ¬ nI x = 43 from mt (e 43 (by decide)).mp h43), if_neg h43]
  by_cases h45 : x = 45
  · rw [if_pos (show nI x = 45 from (e 45 (by decide)).mpr h45), if_pos h45]; rfl
  rw [if_neg (show ¬ nI x = 45 from mt (e 45 (by decide)).mp h45), if_neg h45]
  by_cases h47 : x = 47
  · rw [if_pos (show nI x = 47 from (e 47 (by decide)).mpr h47), if_pos h47]; rfl
  rw [if_neg (show ¬ nI x = 47 from mt (e 47 (by decide)).mp h47), if_neg h47]
  by_cases h59 : x = 59
  · rw [if_pos (show nI x = 59 from (e 59 (by decide)).mpr h59), if_pos h59]; rfl
  rw [if_neg (show ¬ nI x = 59 from mt (e 59 (by decide)).mp h59), if_neg h59]
  by_cases h60 : x = 60
  · rw [if_pos (show nI x = 60 from (e 60 (by decide)).mpr h60), if_pos h60]; rfl
  rw [if_neg (show ¬ nI x = 60 from mt (e 60 (by decide)).mp h60), if_neg h60]
  by_cases h61 : x = 61
  · rw [if_pos (show nI x = 61 from (e 61 (by decide)).mpr h61), if_pos h61]; rfl
  rw [if_neg (show ¬ nI x = 61 from mt (e 61 (by decide)).mp h61), if_neg h61]
  by_cases h62 : x = 62
  · rw [if_pos (show nI x = 62 from (e 62 (by decide)).mpr h62), if_pos h62]; rfl
  rw [if_neg (show ¬ nI x = 62 from mt (e 62 (by decide)).mp h62), if_neg h62]
  rfl
