/-! pure rows for what the methods answer -/
theorem rdI_wrI (S : Mem) (c i : Nat) (v : Int32) (c' i' : Nat) : rdI (wrI S c i v) c' i' = if c' = c ∧ i' = i then v else rdI S c' i' := rfl
theorem rdI_wrJ (S : Mem) (c i : Nat) (v : Int64) (c' i' : Nat) : rdI (wrJ S c i v) c' i' = rdI S c' i' := rfl
theorem rdJ_wrI (S : Mem) (c i : Nat) (v : Int32) (c' i' : Nat) : rdJ (wrI S c i v) c' i' = rdJ S c' i' := rfl
theorem rdJ_wrJ (S : Mem) (c i : Nat) (v : Int64) (c' i' : Nat) : rdJ (wrJ S c i v) c' i' = if c' = c ∧ i' = i then v else rdJ S c' i' := rfl
theorem rdI_cpI (S : Mem) (c1 s c2 d n c i : Nat) : rdI (cpI S c1 s c2 d n) c i = if c = c2 then va_cpy (S.1 c1) (S.1 c2) s d n i else rdI S c i := rfl
theorem ix_nI {p : Nat} (h : p < 2 ^ 31) : ix (nI p) = p := nI_clamp h
theorem inb_nI {p n : Nat} (h : p < 2 ^ 31) : inb (nI p) n = decide (p < n) := by
  unfold inb
  rw [nI_toInt h]
  by_cases hp : p < n
  · rw [decide_eq_true hp, decide_eq_true (by omega), decide_eq_true (by omega)]; rfl
  · rw [decide_eq_false hp, decide_eq_false (p := (p : Int) < n) (by omega), Bool.and_false]
theorem inb_t {p n : Nat} (h : p < n) (hn : n ≤ 2 ^ 31) : inb (nI p) n = true := by rw [inb_nI (by omega), decide_eq_true h]
theorem inb_ex {a : Int32} {n : Nat} (h : inb a n = true) (hn : n < 2 ^ 31) : ∃ p : Nat, p < n ∧ a = nI p := by
  unfold inb at h
  rw [Bool.and_eq_true] at h
  obtain ⟨h1, h2⟩ := h
  have h1 := of_decide_eq_true h1
  have h2 := of_decide_eq_true h2
  exact vp_in_of (vp_in_iff.mpr ⟨h1, h2⟩) hn
theorem gd_t {α : Type} (o : Option α) : gd true o = o := rfl
theorem gd_f {α : Type} (o : Option α) : gd false o = none := rfl
theorem gd_p {α : Type} {b : Bool} {o : Option α} (h : b = true) : gd b o = o := by rw [h]; rfl
theorem bV_s (S : Mem) (k : Mem → Option Res) : bV (some (none, S)) k = k S := rfl
theorem bI_s (x : Int32) (S : Mem) (k : Int32 → Mem → Option Res) : bI (some (some (vI x), S)) k = k x S := rfl
theorem bL_s (x : Int64) (S : Mem) (k : Int64 → Mem → Option Res) : bL (some (some (vL x), S)) k = k x S := rfl
theorem bR_s (κ t : Nat) (S : Mem) (k : Nat → Mem → Option Res) : bR κ (some (some (vR κ t), S)) k = k t S := by
  show cond (Nat.beq κ κ) _ _ = _
  rw [Nat.beq_refl]; rfl
def b2i (b : Bool) : Int32 := cond b 1 0
theorem b2i_t : b2i true = 1 := rfl
theorem b2i_f : b2i false = 0 := rfl
theorem b2i_0 (b : Bool) : (b2i b = 0) = (b = false) := by cases b <;> simp [b2i]
theorem b2i_1 (b : Bool) : (b2i b = 1) = (b = true) := by cases b <;> simp [b2i]
theorem isZ_b (b : Bool) : isZ (b2i b) = true := by cases b <;> decide
theorem isZ_0 : isZ 0 = true := by decide
theorem isZ_1 : isZ 1 = true := by decide
theorem le_lit (n : Nat) {p : Nat} (hn : n < 2 ^ 31) (hp : p < 2 ^ 31) : (nI n ≤ nI p) = (n ≤ p) := propext (nI_leI hn hp)
def itN {α : Type} (step : Nat → α → α) : Nat → α → α
  | 0, a => a
  | n + 1, a => step n (itN step n a)
theorem loop_it {α β : Type} (F : Nat → α → β) (N : Nat) (step : Nat → α → α) (h : ∀ p a, p < N → F p a = F (p + 1) (step p a)) (a : α) : F 0 a = F N (itN step N a) := by
  have key : ∀ k, k ≤ N → F 0 a = F k (itN step k a) := by
    intro k
    induction k with
    | zero => intro _; rfl
    | succ k ih => intro hk; rw [ih (by omega), h k _ (by omega)]; rfl
  exact key N (Nat.le_refl N)
theorem loop_itI {α β : Type} (F : Nat → α → β) (N : Nat) (step : Nat → α → α) (I : Nat → α → Prop) (h : ∀ p a, p < N → I p a → F p a = F (p + 1) (step p a) ∧ I (p + 1) (step p a)) (a : α) (h0 : I 0 a) : F 0 a = F N (itN step N a) ∧ I N (itN step N a) := by
  have key : ∀ k, k ≤ N → F 0 a = F k (itN step k a) ∧ I k (itN step k a) := by
    intro k
    induction k with
    | zero => intro _; exact ⟨rfl, h0⟩
    | succ k ih =>
      intro hk
      obtain ⟨e, i⟩ := ih (by omega)
      obtain ⟨e2, i2⟩ := h k _ (by omega) i
      exact ⟨e.trans e2, i2⟩
  exact key N (Nat.le_refl N)
theorem itN_congr {α : Type} {f g : Nat → α → α} {N : Nat} (h : ∀ p a, p < N → f p a = g p a) (a : α) : itN f N a = itN g N a := by
  induction N with
  | zero => rfl
  | succ n ih => show f n _ = g n _; rw [ih (fun p a hp => h p a (by omega)), h n _ (by omega)]
/-- the first from k on, of n, that is so -/
def ffind (c : Nat → Bool) : Nat → Nat → Option Nat
  | _, 0 => none
  | k, n + 1 => if c k = true then some k else ffind c (k + 1) n
theorem loop_find {β : Type} (F : Nat → β) (c : Nat → Bool) (r : Nat → β) : ∀ (n k : Nat), (∀ p, k ≤ p → p < k + n → F p = if c p = true then r p else F (p + 1)) → F k = (match ffind c k n with
  | some p => r p
  | none => F (k + n))
  | 0, k, _ => rfl
  | n + 1, k, h => by
    rw [h k (Nat.le_refl k) (by omega)]
    unfold ffind
    by_cases hc : c k = true
    · rw [if_pos hc, if_pos hc]
    · rw [if_neg hc, if_neg hc, loop_find F c r n (k + 1) (fun p h1 h2 => h p (by omega) (by omega)), show k + 1 + n = k + (n + 1) by omega]
theorem ffind_congr {c c' : Nat → Bool} : ∀ (n k : Nat), (∀ p, k ≤ p → p < k + n → c p = c' p) → ffind c k n = ffind c' k n
  | 0, _, _ => rfl
  | n + 1, k, h => by
    unfold ffind
    rw [h k (Nat.le_refl k) (by omega), ffind_congr n (k + 1) (fun p h1 h2 => h p (by omega) (by omega))]
theorem ffind_some {c : Nat → Bool} : ∀ {n k p : Nat}, ffind c k n = some p → k ≤ p ∧ p < k + n ∧ c p = true ∧ ∀ q, k ≤ q → q < p → c q = false
  | 0, _, _, h => by cases h
  | n + 1, k, p, h => by
    unfold ffind at h
    by_cases hc : c k = true
    · rw [if_pos hc] at h
      cases h
      exact ⟨Nat.le_refl _, by omega, hc, fun q h1 h2 => by omega⟩
    · rw [if_neg hc] at h
      obtain ⟨h1, h2, h3, h4⟩ := ffind_some h
      refine ⟨by omega, by omega, h3, fun q h5 h6 => ?_⟩
      rcases Nat.lt_or_ge k q with z | z
      · exact h4 q z h6
      · rw [show q = k by omega]; simpa using hc
theorem ffind_none {c : Nat → Bool} : ∀ {n k : Nat}, ffind c k n = none → ∀ q, k ≤ q → q < k + n → c q = false
  | 0, _, _, q, h1, h2 => by omega
  | n + 1, k, h, q, h1, h2 => by
    unfold ffind at h
    by_cases hc : c k = true
    · rw [if_pos hc] at h; cases h
    · rw [if_neg hc] at h
      rcases Nat.lt_or_ge k q with z | z
      · exact ffind_none h q z (by omega)
      · rw [show q = k by omega]; simpa using hc
theorem loop_findU {β U : Type} (F : Nat → U → β) (c : Nat → Bool) (r : Nat → β) : ∀ (n k : Nat), (∀ p u, k ≤ p → p < k + n → ∃ u', F p u = if c p = true then r p else F (p + 1) u') → ∀ u, ∃ u', F k u = (match ffind c k n with
  | some p => r p
  | none => F (k + n) u')
  | 0, k, _, u => ⟨u, rfl⟩
  | n + 1, k, h, u => by
    obtain ⟨u1, e1⟩ := h k u (Nat.le_refl k) (by omega)
    rw [e1]
    unfold ffind
    by_cases hc : c k = true
    · exact ⟨u, by rw [if_pos hc, if_pos hc]⟩
    · rw [if_neg hc, if_neg hc]
      obtain ⟨u2, e2⟩ := loop_findU F c r n (k + 1) (fun p u h1 h2 => h p u (by omega) (by omega)) u1
      exact ⟨u2, by rw [e2, show k + 1 + n = k + (n + 1) by omega]⟩
theorem loop_itU {α β U : Type} (F : Nat → U → α → β) (N : Nat) (step : Nat → α → α) (h : ∀ p u a, p < N → ∃ u', F p u a = F (p + 1) u' (step p a)) (u : U) (a : α) : ∃ u', F 0 u a = F N u' (itN step N a) := by
  have key : ∀ k, k ≤ N → ∃ u', F 0 u a = F k u' (itN step k a) := by
    intro k
    induction k with
    | zero => intro _; exact ⟨u, rfl⟩
    | succ k ih =>
      intro hk
      obtain ⟨u1, e⟩ := ih (by omega)
      obtain ⟨u2, e2⟩ := h k u1 (itN step k a) (by omega)
      exact ⟨u2, e.trans e2⟩
  exact key N (Nat.le_refl N)
theorem n12 {p : Nat} (h : p < 12) : ¬ (12 : Int32) ≤ nI p := nI_ge (b := 12) h (by decide)
theorem y12 : (12 : Int32) ≤ nI 12 := by decide
theorem n16 {p : Nat} (h : p < 16) : ¬ (16 : Int32) ≤ nI p := nI_ge (b := 16) h (by decide)
theorem y16 : (16 : Int32) ≤ nI 16 := by decide
theorem n192 {p : Nat} (h : p < 192) : ¬ (192 : Int32) ≤ nI p := nI_ge (b := 192) h (by decide)
theorem y192 : (192 : Int32) ≤ nI 192 := by decide
theorem i12 {p : Nat} (h : p < 12) : inb (nI p) 12 = true := inb_t h (by decide)
theorem x12 {p : Nat} (h : p < 12) : ix (nI p) = p := ix_nI (by omega)
/-- a place, or none -/
def oI (o : Option Nat) : Int32 := match o with
  | some p => nI p
  | none => -1
theorem oI_some (p : Nat) : oI (some p) = nI p := rfl
theorem oI_none : oI none = -1 := rfl
theorem nI_m1 {p : Nat} (h : p < 2 ^ 31) : ¬ nI p = -1 := fun e => nI_pos h (by rw [e]; decide)
theorem oI_m1 {c : Nat → Bool} {k n : Nat} (h : k + n < 2 ^ 31) : (oI (ffind c k n) = -1) = (ffind c k n = none) := by
  cases hf : ffind c k n with
  | none => simp [oI]
  | some p =>
    obtain ⟨-, h2, -⟩ := ffind_some hf
    simp only [oI, reduceCtorEq]
    exact eq_false (nI_m1 (by omega))
theorem ite_b0 {α : Type} (b : Bool) (x y : α) : (if b2i b = 0 then x else y) = if b = false then x else y := by
  cases b <;> rfl
theorem ite_b1 {α : Type} (b : Bool) (x y : α) : (if b2i b = 1 then x else y) = if b = true then x else y := by
  cases b <;> rfl
