/-! the pages as rows of their own (0 numbers, 1 frames, 2 live, 3 vectors, 4 values, 5 the book as the reference spells it) -/
abbrev AS : Type := Nat → Nat → Int32
def up (A : AS) (k i : Nat) (v : Int32) : AS := fun a b => if a = k ∧ b = i then v else A a b
theorem up_s (A : AS) (k i : Nat) (v : Int32) : up A k i v k i = v := if_pos ⟨rfl, rfl⟩
theorem up_n {A : AS} {k i a b : Nat} {v : Int32} (h : ¬ (a = k ∧ b = i)) : up A k i v a b = A a b := if_neg h
theorem up_k {A : AS} {k i a : Nat} {v : Int32} (h : ¬ a = k) : up A k i v a = A a := funext fun _ => if_neg (fun z => h z.1)
def ln : Nat → Nat
  | 0 => 7
  | 1 => 12
  | 2 => 12
  | 3 => 192
  | 4 => 192
  | _ => 25
def off : Nat → Nat
  | 0 => 0
  | 1 => 7
  | 2 => 19
  | 3 => 31
  | 4 => 223
  | _ => 415
theorem k5 {k : Nat} (h : k ≤ 5) : k = 0 ∨ k = 1 ∨ k = 2 ∨ k = 3 ∨ k = 4 ∨ k = 5 := by omega
theorem off_lt {k i : Nat} (hk : k ≤ 5) (hi : i < ln k) : off k + i < 440 := by
  rcases k5 hk with rfl | rfl | rfl | rfl | rfl | rfl <;> simp only [off, ln] at hi ⊢ <;> omega
theorem off_inj {k k' i i' : Nat} (hk : k ≤ 5) (hk' : k' ≤ 5) (hi : i < ln k) (hi' : i' < ln k') (h : off k + i = off k' + i') : k = k' ∧ i = i' := by
  rcases k5 hk with rfl | rfl | rfl | rfl | rfl | rfl <;> rcases k5 hk' with rfl | rfl | rfl | rfl | rfl | rfl <;> simp only [off, ln] at hi hi' h <;> omega
/-- a line of the book as the class spells it, and as the reference does -/
def LnR (x y : Int32) : Prop := ∃ dd k a b : Nat, dd ≤ 9999 ∧ k < 5 ∧ a < 12 ∧ b < 12 ∧ x = nI (dd * 4096 + k * 256 + a * 16 + b) ∧ y = nI (((dd * 5 + k) * 12 + a) * 12 + b)
def BkR (f : Nat → Int32) (A : AS) : Prop := ∃ n : Nat, n ≤ 25 ∧ A 0 6 = nI n ∧ ∀ i, i < n → LnR (f i) (A 5 i)
/-- the class's pages at a cell; the reference's 440 numbers -/
def CP (S : Mem) (t : Nat) (A : AS) : Prop := (∀ k i, k ≤ 4 → i < ln k → rdI S (t + k) i = A k i) ∧ BkR (rdI S (t + 5)) A
def RP (S : Mem) (c o : Nat) (A : AS) : Prop := (∀ k i, k ≤ 5 → ¬ k = 3 → i < ln k → rdI S c (o + (off k + i)) = A k i) ∧ (∀ p i, p < 12 → ¬ A 1 p = -1 → i < 16 → rdI S c (o + (31 + (p * 16 + i))) = A 3 (p * 16 + i))
def FrC (t : Nat) (S S' : Mem) : Prop := (∀ c, ¬ (t ≤ c ∧ c < t + 6) → rdI S' c = rdI S c) ∧ S'.2 = S.2
theorem FrC_r {t : Nat} {S : Mem} : FrC t S S := ⟨fun _ _ => rfl, rfl⟩
theorem FrC_t {t : Nat} {S S' S'' : Mem} (h : FrC t S S') (h' : FrC t S' S'') : FrC t S S'' := ⟨fun c hc => (h'.1 c hc).trans (h.1 c hc), h'.2.trans h.2⟩
theorem FrC_w {t c i : Nat} {v : Int32} {S : Mem} (h : t ≤ c) (h2 : c < t + 6) : FrC t S (wrI S c i v) := ⟨fun c' hc => funext fun b => by rw [rdI_wrI, if_neg (fun z => hc (by omega))], rfl⟩
/-- what calls on the reference's pages leave as it was -/
def FrM (r : Nat) (S S' : Mem) : Prop := (∀ c i, ¬ c = r + 6 → ¬ (c = r + 1 ∧ 4 ≤ i ∧ i < 444) → ¬ c = r + 8 → rdI S' c i = rdI S c i) ∧ S'.2.2 = S.2.2
theorem FrM_r {r : Nat} {S : Mem} : FrM r S S := ⟨fun _ _ _ _ _ => rfl, rfl⟩
theorem FrM_t {r : Nat} {S S' S'' : Mem} (h : FrM r S S') (h' : FrM r S' S'') : FrM r S S'' := ⟨fun c i h1 h2 h3 => (h'.1 c i h1 h2 h3).trans (h.1 c i h1 h2 h3), h'.2.trans h.2⟩
theorem FrM_w {r i : Nat} {v : Int32} {S : Mem} (h : 4 ≤ i) (h2 : i < 444) : FrM r S (wrI S (r + 1) i v) := ⟨fun c j _ hc _ => by rw [rdI_wrI, if_neg (fun z => hc (by omega))], rfl⟩
/-! a line written -/
theorem CP_w {S : Mem} {t : Nat} {A : AS} (h : CP S t A) {k i : Nat} (hk : k ≤ 4) (h6 : ¬ (k = 0 ∧ i = 6)) (v : Int32) : CP (wrI S (t + k) i v) t (up A k i v) := by
  refine ⟨fun k' i' hk' hi' => ?_, ?_⟩
  · rw [rdI_wrI]
    by_cases e : k' = k ∧ i' = i
    · rw [if_pos (by omega), e.1, e.2, up_s]
    · rw [if_neg (by omega), up_n e]; exact h.1 k' i' hk' hi'
  · obtain ⟨n, hn, e, hb⟩ := h.2
    refine ⟨n, hn, ?_, fun j hj => ?_⟩
    · rw [up_n (fun z => h6 ⟨z.1.symm, z.2.symm⟩)]; exact e
    · rw [rdI_wrI, if_neg (by omega), up_n (by omega)]; exact hb j hj
theorem CP_fr {S S' : Mem} {t t' : Nat} {A : AS} (h : CP S t' A) (hf : FrC t S S') (hd : t' + 7 ≤ t ∨ t + 7 ≤ t') : CP S' t' A := by
  refine ⟨fun k i hk hi => ?_, ?_⟩
  · rw [hf.1 (t' + k) (by omega)]; exact h.1 k i hk hi
  · rw [hf.1 (t' + 5) (by omega)]; exact h.2
theorem RP_w {S : Mem} {c o : Nat} {A : AS} (h : RP S c o A) {k i : Nat} (hk : k ≤ 5) (h3 : ¬ k = 3) (hi : i < ln k) (v : Int32) (h1 : k = 1 → ¬ v = -1 → ¬ A 1 i = -1) : RP (wrI S c (o + (off k + i)) v) c o (up A k i v) := by
  refine ⟨fun k' i' hk' h3' hi' => ?_, fun p j hp ho hj => ?_⟩
  · rw [rdI_wrI]
    by_cases e : k' = k ∧ i' = i
    · rw [if_pos ⟨rfl, by rw [e.1, e.2]⟩, e.1, e.2, up_s]
    · rw [if_neg (fun z => e (off_inj hk' hk hi' hi (by omega))), up_n e]; exact h.1 k' i' hk' h3' hi'
  · have ho' : ¬ A 1 p = -1 := by
      by_cases e : (1 = k ∧ p = i)
      · obtain ⟨rfl, rfl⟩ := e
        rw [up_s] at ho
        exact h1 rfl ho
      · rw [up_n e] at ho; exact ho
    rw [rdI_wrI, if_neg (fun z => h3 (off_inj (k := 3) (i := p * 16 + j) (by omega) hk (by show _ < 192; omega) hi (by show 31 + _ = _; omega)).1.symm), up_n (fun z => h3 z.1.symm)]
    exact h.2 p j hp ho' hj
def shA (A : AS) : AS := fun a b => if a = 5 ∧ b < 24 then A 5 (b + 1) else A a b
def lnC (k x y : Nat) (A : AS) : Int32 := nI (((ix (A 0 0) * 5 + k) * 12 + x) * 12 + y)
def wdA (k x y : Nat) (A : AS) : AS := if ix (A 0 6) < 25 then up (up A 5 (ix (A 0 6)) (lnC k x y A)) 0 6 (nI (ix (A 0 6) + 1)) else up (up (shA A) 5 24 (lnC k x y A)) 0 6 (nI 25)
theorem wdA_o (k x y : Nat) (A : AS) {a b : Nat} (h5 : ¬ a = 5) (h6 : ¬ (a = 0 ∧ b = 6)) : wdA k x y A a b = A a b := by
  unfold wdA
  by_cases h : ix (A 0 6) < 25
  · rw [if_pos h, up_n h6, up_n (fun z => h5 z.1)]
  · rw [if_neg h, up_n h6, up_n (fun z => h5 z.1)]
    exact if_neg (fun z => h5 z.1)
theorem wdA_k (k x y : Nat) (A : AS) {a : Nat} (h5 : ¬ a = 5) (h0 : ¬ a = 0) : wdA k x y A a = A a := funext fun _ => wdA_o k x y A h5 (fun z => h0 z.1)
theorem or_add {a b i : Nat} (h : b < 2 ^ i) : a * 2 ^ i ||| b = a * 2 ^ i + b := by
  rw [Nat.mul_comm, Nat.two_pow_add_eq_or_of_lt h]
theorem line_num {dd k x y : Nat} (hd : dd ≤ 9999) (hk : k < 5) (hx : x < 12) (hy : y < 12) : ((shlI (nI dd) 12 ||| shlI (nI k) 8) ||| shlI (nI x) 4) ||| nI y = nI (dd * 4096 + k * 256 + x * 16 + y) := by
  have e1 : shlI (nI dd) 12 = nI (dd * 2 ^ 12) := pk_shlN _ 12 (by decide) (by omega)
  have e2 : shlI (nI k) 8 = nI (k * 2 ^ 8) := pk_shlN _ 8 (by decide) (by omega)
  have e3 : shlI (nI x) 4 = nI (x * 2 ^ 4) := pk_shlN _ 4 (by decide) (by omega)
  rw [e1, e2, e3, nI_or, nI_or, nI_or, or_add (by omega), show dd * 2 ^ 12 + k * 2 ^ 8 = (dd * 16 + k) * 2 ^ 8 by omega, or_add (by omega), show (dd * 16 + k) * 2 ^ 8 + x * 2 ^ 4 = ((dd * 16 + k) * 16 + x) * 2 ^ 4 by omega, or_add (by omega)]
def DOK (A : AS) : Prop := ∃ dd : Nat, dd ≤ 9999 ∧ A 0 0 = nI dd
theorem lnR_c {A : AS} {dd k x y : Nat} (e : A 0 0 = nI dd) (hd : dd ≤ 9999) (hk : k < 5) (hx : x < 12) (hy : y < 12) : LnR (((shlI (A 0 0) 12 ||| shlI (nI k) 8) ||| shlI (nI x) 4) ||| nI y) (lnC k x y A) := by
  refine ⟨dd, k, x, y, hd, hk, hx, hy, ?_, ?_⟩
  · rw [e]; exact line_num hd hk hx hy
  · unfold lnC; rw [e, ix_nI (by omega)]
theorem lt25 {n : Nat} (h : n < 25) : nI n < 25 := nI_lt (b := 25) h (by decide)
theorem nlt25 : ¬ nI 25 < 25 := by decide
theorem i25 {n : Nat} (h : n < 25) : inb (nI n) 25 = true := inb_t h (by decide)
theorem acg25 : acg 1 0 24 25 25 = true := by decide
theorem wd_c {S : Mem} {t : Nat} {A : AS} (h : CP S t A) (hD : DOK A) (d : Nat) {k x y : Nat} (hk : k < 5) (hx : x < 12) (hy : y < 12) : ∃ S', cal (d + 1) 21 [vR 1 t, vI (nI k), vI (nI x), vI (nI y)] S = some (none, S') ∧ CP S' t (wdA k x y A) ∧ FrC t S S' := by
  obtain ⟨dd, hd, ed⟩ := hD
  obtain ⟨n, hn, e6, hb⟩ := h.2
  have r6 : rdI S t 6 = nI n := (h.1 0 6 (by decide) (by decide)).trans e6
  have r0 : rdI S t 0 = A 0 0 := h.1 0 0 (by decide) (by decide)
  have hl := lnR_c ed hd hk hx hy
  rw [← r0] at hl
  have x6 : ix (A 0 6) = n := by rw [e6, ix_nI (by omega)]
  rw [B_X1_writeDown, r6]
  by_cases h25 : n < 25
  · rw [if_pos (lt25 h25), gd_p (i25 h25), ix_nI (by omega), rdI_wrI, if_neg (by omega), r6, nI_1]
    refine ⟨_, rfl, ⟨fun k' i' hk' hi' => ?_, n + 1, by omega, ?_, fun j hj => ?_⟩, FrC_t (FrC_w (by omega) (by omega)) (FrC_w (by omega) (by omega))⟩
    · unfold wdA
      rw [x6, if_pos h25, rdI_wrI]
      by_cases e : k' = 0 ∧ i' = 6
      · rw [if_pos (by omega), e.1, e.2, up_s]
      · rw [if_neg (by omega), rdI_wrI, if_neg (by omega), up_n e, up_n (by omega)]; exact h.1 k' i' hk' hi'
    · unfold wdA; rw [x6, if_pos h25, up_s]
    · unfold wdA
      rw [x6, if_pos h25, rdI_wrI, if_neg (by omega), up_n (by omega), rdI_wrI]
      by_cases e : j = n
      · rw [if_pos ⟨rfl, e⟩, e, up_s]; exact hl
      · rw [if_neg (by omega), up_n (by omega)]; exact hb j (by omega)
  · have hn25 : n = 25 := by omega
    subst hn25
    have w6 : ∀ S : Mem, rdI (wrI S t 6 24) t 6 = 24 := fun S => by rw [rdI_wrI, if_pos ⟨rfl, rfl⟩]
    have w0 : rdI (wrI (cpI S (t + 5) (ix 1) (t + 5) (ix 0) (ix 24)) t 6 24) t 0 = rdI S t 0 := by rw [rdI_wrI, if_neg (by omega), rdI_cpI, if_neg (by omega)]
    have x24 : ix 24 = 24 := ix_nI (p := 24) (by decide)
    have x1 : ix 1 = 1 := ix_nI (p := 1) (by decide)
    have x0 : ix 0 = 0 := ix_nI (p := 0) (by decide)
    rw [if_neg nlt25, gd_p acg25, w6, gd_p (show inb 24 25 = true by decide), w0, rdI_wrI, if_neg (by omega), w6, x24, x1, x0]
    refine ⟨_, rfl, ⟨fun k' i' hk' hi' => ?_, 25, by omega, ?_, fun j hj => ?_⟩, FrC_t (FrC_t (FrC_t ?_ (FrC_w (by omega) (by omega))) (FrC_w (by omega) (by omega))) (FrC_w (by omega) (by omega))⟩
    · unfold wdA
      rw [x6, if_neg h25, rdI_wrI]
      by_cases e : k' = 0 ∧ i' = 6
      · rw [if_pos (by omega), e.1, e.2, up_s]; rfl
      · rw [if_neg (by omega), rdI_wrI, if_neg (by omega), rdI_wrI, if_neg (by omega), rdI_cpI, if_neg (by omega), up_n e, up_n (by omega)]
        show _ = shA A k' i'
        unfold shA
        rw [if_neg (by omega)]
        exact h.1 k' i' hk' hi'
    · unfold wdA; rw [x6, if_neg h25, up_s]
    · unfold wdA
      rw [x6, if_neg h25, rdI_wrI, if_neg (by omega), up_n (by omega), rdI_wrI]
      by_cases e : j = 24
      · rw [if_pos ⟨rfl, e⟩, e, up_s]; exact hl
      · rw [if_neg (by omega), up_n (by omega), rdI_wrI, if_neg (by omega), rdI_cpI, if_pos rfl, pk_cpy_in (by omega) (by omega)]
        unfold shA
        rw [if_pos ⟨rfl, by omega⟩, show 1 + (j - 0) = j + 1 by omega]
        exact hb (j + 1) (by omega)
    · refine ⟨fun c hc => funext fun b => ?_, rfl⟩
      rw [rdI_cpI, if_neg (by omega)]
