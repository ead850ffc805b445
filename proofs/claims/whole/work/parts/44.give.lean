/-! what is given out -/
theorem Iv_c {A B : AS} (h : ∀ a b, ¬ a = 5 → ¬ (a = 0 ∧ b = 6) → B a b = A a b) (hn : LnOK B) (I : Inv A) : Inv B := by
  have h1 : B 1 = A 1 := funext fun b => h 1 b (by decide) (by omega)
  have h2 : B 2 = A 2 := funext fun b => h 2 b (by decide) (by omega)
  have h3 : B 3 = A 3 := funext fun b => h 3 b (by decide) (by omega)
  have h4 : B 4 = A 4 := funext fun b => h 4 b (by decide) (by omega)
  obtain ⟨i1, i2, i3, i4, i5, i6, i7, i8, i9, -⟩ := I
  refine ⟨by rw [h1]; exact i1, by rw [h2]; exact i2, by rw [h1, h2]; exact i3, by rw [h1, h2]; exact i4, ?_, ?_, ?_, ?_, ?_, hn⟩
  · unfold GSOK; rw [h1, h2, h 0 3 (by decide) (by decide), h 0 4 (by decide) (by decide), h 0 5 (by decide) (by decide)]; exact i5
  · unfold XOK; rw [h 0 1 (by decide) (by decide)]; exact i6
  · unfold DOK; rw [h 0 0 (by decide) (by decide)]; exact i7
  · unfold VcOK; rw [h1, h3]; exact i8
  · unfold VlOK; rw [h4]; exact i9
theorem wd_LnOK (k x y : Nat) {A : AS} (h : LnOK A) : LnOK (wdA k x y A) := by
  unfold wdA
  by_cases h25 : ix (A 0 6) < 25
  · rw [if_pos h25]; exact ⟨ix (A 0 6) + 1, by omega, up_s _ _ _ _⟩
  · rw [if_neg h25]; exact ⟨25, by omega, up_s _ _ _ _⟩
theorem wd_Inv (k x y : Nat) {A : AS} (I : Inv A) : Inv (wdA k x y A) := Iv_c (fun _ _ h5 h6 => wdA_o k x y A h5 h6) (wd_LnOK k x y (iN I)) I
/-- all that holds, but that a page may be open without a live slot -/
def IvP (p : Nat) (A : AS) : Prop := FrOK (A 1) ∧ LvOK (A 2) ∧ LvFr (A 1) (A 2) ∧ (∀ q, q < 12 → ¬ q = p → ¬ A 1 q = -1 → ¬ A 2 q = 0) ∧ GSOK A ∧ XOK A ∧ DOK A ∧ VcOK A ∧ VlOK A ∧ LnOK A
theorem IvP_of {A : AS} (I : Inv A) (p : Nat) : IvP p A := by
  obtain ⟨i1, i2, i3, i4, i5, i6, i7, i8, i9, i10⟩ := I
  exact ⟨i1, i2, i3, fun q hq _ => i4 q hq, i5, i6, i7, i8, i9, i10⟩
theorem mLiveIn_g {fr fr' lv lv' : Nat → Int32} {g : Int32} (h : ∀ q, q < 12 → (fr' q = g ↔ fr q = g) ∧ (fr q = g → lv' q = lv q)) : mLiveIn fr' lv' g = mLiveIn fr lv g := by
  unfold mLiveIn
  refine itN_congr (fun p a hp => ?_) 0
  obtain ⟨h1, h2⟩ := h p hp
  by_cases e : fr p = g
  · rw [if_pos (h1.mpr e), if_pos e, h2 e]
  · rw [if_neg (fun z => e (h1.mp z)), if_neg e]
theorem mUsed_g {fr fr' : Nat → Int32} {g : Int32} (h : ∀ q, q < 12 → fr q = g → fr' q = g) (hu : mUsed fr g = true) : mUsed fr' g = true := by
  cases hm : mUsed fr' g
  · have h1 := (mUsed_iff fr' g).mp hm
    have h2 : mUsed fr g = false := (mUsed_iff fr g).mpr (fun p hp e => h1 p hp (h p hp e))
    rw [hu] at h2; cases h2
  · rfl
/-- a slot put to use -/
def putG (p s : Nat) (v : Int32) (A : AS) : AS := up (up A 2 p (A 2 p ||| nI (2 ^ s))) 4 (ix (A 1 p) * 16 + s) v
theorem pw {s : Nat} (h : s < 16) : 2 ^ s < 65536 := by
  have e : 2 ^ s < 2 ^ 16 := Nat.pow_lt_pow_right (by decide) h
  exact e
theorem putG_1 (p s : Nat) (v : Int32) (A : AS) : putG p s v A 1 = A 1 := by unfold putG; rw [up_k (by decide), up_k (by decide)]
theorem putG_0 (p s : Nat) (v : Int32) (A : AS) : putG p s v A 0 = A 0 := by unfold putG; rw [up_k (by decide), up_k (by decide)]
theorem putG_3 (p s : Nat) (v : Int32) (A : AS) : putG p s v A 3 = A 3 := by unfold putG; rw [up_k (by decide), up_k (by decide)]
theorem putG_2 (p s : Nat) (v : Int32) (A : AS) (q : Nat) : putG p s v A 2 q = if q = p then A 2 p ||| nI (2 ^ s) else A 2 q := by
  unfold putG
  rw [up_n (by omega)]
  unfold up
  by_cases e : q = p
  · rw [if_pos ⟨rfl, e⟩, if_pos e]
  · rw [if_neg (fun z => e z.2), if_neg e]
theorem putG_Inv {A : AS} {p s : Nat} (I : IvP p A) (hp : p < 12) (ho : ¬ A 1 p = -1) (hg : ¬ A 1 p = A 0 3) (hs : s < 16) {v : Int32} (hv : ∃ w : Nat, w < 1000 ∧ v = nI w) : Inv (putG p s v A) := by
  obtain ⟨i1, i2, i3, i4, i5, i6, i7, i8, i9, i10⟩ := I
  have e0 := putG_0 p s v A
  have e1 := putG_1 p s v A
  have e3 := putG_3 p s v A
  have e2 := putG_2 p s v A
  refine ⟨by rw [e1]; exact i1, fun q hq => ?_, fun q hq hc => ?_, fun q hq hc => ?_, ?_, by unfold XOK; rw [e0]; exact i6, by unfold DOK; rw [e0]; exact i7, by unfold VcOK; rw [e1, e3]; exact i8, fun i hi => ?_, by unfold LnOK; rw [e0]; exact i10⟩
  · rw [e2]
    by_cases e : q = p
    · rw [if_pos e]; exact or_ok (e := 16) (i2 p hp) ⟨2 ^ s, pw hs, rfl⟩
    · rw [if_neg e]; exact i2 q hq
  · rw [e1] at hc
    rw [e2]
    by_cases e : q = p
    · rw [e] at hc; exact absurd hc ho
    · rw [if_neg e]; exact i3 q hq hc
  · rw [e1] at hc
    rw [e2]
    by_cases e : q = p
    · rw [if_pos e]
      obtain ⟨k, hk, ek⟩ := i2 p hp
      have hs2 := pw hs
      rw [ek, nI_or]
      have hlt : k ||| 2 ^ s < 65536 := Nat.or_lt_two_pow (n := 16) hk hs2
      exact nI_ne0 (Nat.pos_of_ne_zero (or_ne0 (Nat.ne_of_gt (Nat.two_pow_pos s)))) (by omega)
    · rw [if_neg e]; exact i4 q hq e hc
  · rcases i5 with z | ⟨g, st, m, k, h1, h2, h3, h4, h5, h6, h7, h8, h9, h10, h11⟩
    · exact Or.inl (by rw [e0]; exact z)
    · refine Or.inr ⟨g, st, m, k, h1, h2, h3, h4, h5, by rw [e0]; exact h6, by rw [e0]; exact h7, by rw [e0]; exact h8, by rw [e1]; exact h9, ?_, h11⟩
      rw [e1]
      refine (mLiveIn_g (fun q hq => ⟨Iff.rfl, fun z => ?_⟩)).trans h10
      rw [e2, if_neg (fun y => hg (by rw [← y, z, h6]))]
  · unfold putG up
    by_cases e : (4 = 4 ∧ i = ix (A 1 p) * 16 + s)
    · rw [if_pos e]; exact hv
    · rw [if_neg e, if_neg (by omega)]
      exact i9 i hi
/-- the slot that a page would give out -/
theorem slot_cs {A : AS} (hV : VcOK A) {p : Nat} (hp : p < 12) : aSlot A (nI p) = -1 ∨ ∃ s, s < 16 ∧ aSlot A (nI p) = nI s ∧ ¬ A 1 p = -1 ∧ ¬ A 1 p = A 0 3 ∧ shrI (fTaken (A 1) (A 2) (A 0 3) (A 0 4) p) (nI s) &&& 1 = 0 := by
  unfold aSlot fSlot
  by_cases h : fOpen (A 1) (nI p) = true ∧ fFenced (A 1) (A 0 3) (nI p) = false
  · rw [if_pos h, x12 hp]
    obtain ⟨ho, hg⟩ := h
    rw [fOpen_nI hp] at ho
    have ho := of_decide_eq_true ho
    have hg2 : ¬ A 1 p = A 0 3 := by
      intro z
      unfold fFenced at hg
      rw [fOpen_nI hp, x12 hp, decide_eq_true ho, decide_eq_true z] at hg
      cases hg
    cases hf : ffind (fun i => decide (shrI (fTaken (A 1) (A 2) (A 0 3) (A 0 4) p) (A 3 (p * 16 + i)) &&& 1 = 0)) 0 16 with
    | none => exact Or.inl rfl
    | some i =>
      obtain ⟨-, hi, hc, -⟩ := ffind_some hf
      obtain ⟨v, hv, e⟩ := (hV p hp ho).1 i (by omega)
      refine Or.inr ⟨v, hv, e, ho, hg2, ?_⟩
      rw [← e]; exact of_decide_eq_true hc
  · rw [if_neg h]; exact Or.inl rfl
theorem slot_ex {A : AS} (hV : VcOK A) {p k : Nat} (hp : p < 12) (ho : ¬ A 1 p = -1) (hg : ¬ A 1 p = A 0 3) (hk : fTaken (A 1) (A 2) (A 0 3) (A 0 4) p = nI k) (hk6 : k < 65536) (hk5 : ¬ k = 65535) : ∃ s, s < 16 ∧ aSlot A (nI p) = nI s := by
  rcases slot_cs hV hp with h | ⟨s, hs, e, -⟩
  · exfalso
    unfold aSlot fSlot at h
    have ho' : fOpen (A 1) (nI p) = true := by rw [fOpen_nI hp]; exact decide_eq_true ho
    have hg' : fFenced (A 1) (A 0 3) (nI p) = false := by
      unfold fFenced
      rw [x12 hp, decide_eq_false hg, Bool.and_false]
    rw [if_pos ⟨ho', hg'⟩, x12 hp, hk] at h
    cases hf : ffind (fun i => decide (shrI (nI k) (A 3 (p * 16 + i)) &&& 1 = 0)) 0 16 with
    | some i =>
      rw [hf] at h
      obtain ⟨-, hi, -⟩ := ffind_some hf
      obtain ⟨v, hv, e⟩ := (hV p hp ho).1 i (by omega)
      dsimp only at h
      rw [e] at h
      exact nI_m1 (by omega) h
    | none =>
      have hall := ffind_none hf
      refine hk5 (Nat.eq_of_testBit_eq (fun j => ?_))
      rcases Nat.lt_or_ge j 16 with hj | hj
      · obtain ⟨i, hi, e⟩ := (hV p hp ho).2 j hj
        have hc := hall i (Nat.zero_le _) (by omega)
        try dsimp only at hc
        rw [e, bit_0 (by omega) hj] at hc
        have : k.testBit j = true := by simpa using hc
        rw [this]
        exact ((by decide +kernel : ∀ j : Fin 16, Nat.testBit 65535 j.1 = true) ⟨j, hj⟩).symm
      · have h16 : 2 ^ 16 ≤ 2 ^ j := Nat.pow_le_pow_right (by decide) hj
        have z1 : k < 2 ^ j := Nat.lt_of_lt_of_le hk6 h16
        have z2 : 65535 < 2 ^ j := Nat.lt_of_lt_of_le (by decide) h16
        rw [Nat.testBit_lt_two_pow z1, Nat.testBit_lt_two_pow z2]
  · exact ⟨s, hs, e⟩
/-! a new page's vector holds each slot once -/
def PmP (p : Nat) (A : AS) : Prop := (∀ i, i < 16 → ∃ v : Nat, v < 16 ∧ A 3 (p * 16 + i) = nI v) ∧ (∀ v, v < 16 → ∃ i, i < 16 ∧ A 3 (p * 16 + i) = nI v)
theorem shS_3 (p k i : Nat) (hk : k < 16) (A : AS) : shS p k A 3 (p * 16 + i) = if i = xA A % (k + 1) then A 3 (p * 16 + k) else if i = k then A 3 (p * 16 + xA A % (k + 1)) else A 3 (p * 16 + i) := by
  unfold shS up
  by_cases h1 : i = xA A % (k + 1)
  · rw [if_pos ⟨rfl, by omega⟩, if_pos h1]
  · rw [if_neg (by omega), if_neg h1]
    by_cases h2 : i = k
    · rw [if_pos ⟨rfl, by omega⟩, if_pos h2]
    · rw [if_neg (by omega), if_neg h2]
      exact congrFun (aDr_k A (a := 3) (by decide)) _
theorem shS_P {p k : Nat} (hk : k < 16) {A : AS} (h : PmP p A) : PmP p (shS p k A) := by
  have hm := mod_lt' (xA A) k
  refine ⟨fun i hi => ?_, fun v hv => ?_⟩
  · rw [shS_3 p k i hk]
    by_cases h1 : i = xA A % (k + 1)
    · rw [if_pos h1]; exact h.1 k hk
    · rw [if_neg h1]
      by_cases h2 : i = k
      · rw [if_pos h2]; exact h.1 _ (by omega)
      · rw [if_neg h2]; exact h.1 i hi
  · obtain ⟨j, hj, e⟩ := h.2 v hv
    by_cases h1 : j = xA A % (k + 1)
    · refine ⟨k, hk, ?_⟩
      rw [shS_3 p k k hk]
      by_cases h3 : k = xA A % (k + 1)
      · rw [if_pos h3]; rw [← e]; congr 2; omega
      · rw [if_neg h3, if_pos rfl, ← h1]; exact e
    · by_cases h2 : j = k
      · refine ⟨xA A % (k + 1), by omega, ?_⟩
        rw [shS_3 p k _ hk, if_pos rfl, ← h2]; exact e
      · refine ⟨j, hj, ?_⟩
        rw [shS_3 p k j hk, if_neg h1, if_neg h2]; exact e
theorem shN_P {p : Nat} : ∀ (k : Nat) {A : AS}, k < 16 → PmP p A → PmP p (shN p k A)
  | 0, _, _, h => h
  | k + 1, _, hk, h => shN_P k (by omega) (shS_P hk h)
theorem shS_q {p q k i : Nat} (hq : ¬ q = p) (hi : i < 16) (hk : k < 16) (A : AS) : shS p k A 3 (q * 16 + i) = A 3 (q * 16 + i) := by
  have hm := mod_lt' (xA A) k
  unfold shS
  rw [up_n (by omega), up_n (by omega)]
  exact congrFun (aDr_k A (a := 3) (by decide)) _
theorem shN_q {p q i : Nat} (hq : ¬ q = p) (hi : i < 16) : ∀ (k : Nat) (A : AS), k < 16 → shN p k A 3 (q * 16 + i) = A 3 (q * 16 + i)
  | 0, _, _ => rfl
  | k + 1, A, hk => (shN_q hq hi k _ (by omega)).trans (shS_q hq hi hk A)
theorem layN_3 (p i : Nat) (A : AS) : ∀ n, i < n → n ≤ 16 → layN p n A 3 (p * 16 + i) = nI i
  | 0, h, _ => absurd h (Nat.not_lt_zero _)
  | n + 1, h, hn => by
    unfold layN up
    by_cases e : i = n
    · rw [if_pos ⟨rfl, by omega⟩, e]
    · rw [if_neg (by omega)]; exact layN_3 p i A n (by omega) (by omega)
theorem layN_q {p q i : Nat} (hq : ¬ q = p) (hi : i < 16) (A : AS) : ∀ n, n ≤ 16 → layN p n A 3 (q * 16 + i) = A 3 (q * 16 + i)
  | 0, _ => rfl
  | n + 1, hn => by
    unfold layN
    rw [up_n (by omega)]
    exact layN_q hq hi A n (by omega)
theorem op_PmP (p f : Nat) (A : AS) : PmP p (opA p f A) := by
  have h : PmP p (shN p 15 (layN p 16 (up A 1 p (nI f)))) := shN_P 15 (by decide) ⟨fun i hi => ⟨i, hi, layN_3 p i _ 16 hi (Nat.le_refl _)⟩, fun v hv => ⟨v, hv, layN_3 p v _ 16 hv (Nat.le_refl _)⟩⟩
  unfold PmP opA
  rw [wdA_k 0 p f _ (by decide) (by decide)]
  exact h
theorem op_o {A : AS} (p f : Nat) {a b : Nat} (h3 : ¬ a = 3) (h5 : ¬ a = 5) (h1 : ¬ (a = 1 ∧ b = p)) (h : ¬ (a = 0 ∧ b = 1)) (h6 : ¬ (a = 0 ∧ b = 6)) : opA p f A a b = A a b := by
  unfold opA
  rw [wdA_o _ _ _ _ h5 h6]
  exact op_pre p f h3 h1 h
theorem op_1 (A : AS) (p f : Nat) : opA p f A 1 p = nI f := by
  unfold opA
  rw [wdA_k _ _ _ _ (by decide) (by decide), shN_o p (by decide) (by omega), layN_o p (by decide), up_s]
theorem op_3 {A : AS} {p q f i : Nat} (hq : ¬ q = p) (hi : i < 16) : opA p f A 3 (q * 16 + i) = A 3 (q * 16 + i) := by
  unfold opA
  rw [wdA_k _ _ _ _ (by decide) (by decide), shN_q hq hi 15 _ (by decide), layN_q hq hi _ 16 (Nat.le_refl _)]
  exact congrFun (up_k (by decide)) _
theorem op_IvP {A : AS} (I : Inv A) {p f : Nat} (hp : p < 12) (hpn : A 1 p = -1) (hf : f < 12) (hfn : mUsed (A 1) (nI f) = false) : IvP p (opA p f A) := by
  have hu := (mUsed_iff (A 1) (nI f)).mp hfn
  obtain ⟨i1, i2, i3, i4, i5, i6, i7, i8, i9, i10⟩ := I
  have e1 : ∀ q, ¬ q = p → opA p f A 1 q = A 1 q := fun q hq => op_o p f (by decide) (by decide) (by omega) (by omega) (by omega)
  have e2 : opA p f A 2 = A 2 := funext fun b => op_o p f (by decide) (by decide) (by omega) (by omega) (by omega)
  have e4 : opA p f A 4 = A 4 := funext fun b => op_o p f (by decide) (by decide) (by omega) (by omega) (by omega)
  have e0 : ∀ j, ¬ j = 1 → ¬ j = 6 → opA p f A 0 j = A 0 j := fun j h1 h6 => op_o p f (by decide) (by decide) (by omega) (by omega) (by omega)
  refine ⟨fun q hq => ?_, by rw [e2]; exact i2, fun q hq hc => ?_, fun q hq hqp hc => ?_, ?_, ?_, ?_, fun q hq hc => ?_, by unfold VlOK; rw [e4]; exact i9, ?_⟩
  · by_cases e : q = p
    · rw [e, op_1]; exact Or.inr ⟨f, hf, rfl⟩
    · rw [e1 q e]; exact i1 q hq
  · by_cases e : q = p
    · rw [e, op_1] at hc; exact absurd hc (nI_m1 (by omega))
    · rw [e1 q e] at hc; rw [e2]; exact i3 q hq hc
  · rw [e1 q hqp] at hc; rw [e2]; exact i4 q hq hc
  · rcases i5 with z | ⟨g, st, m, k, h1, h2, h3, h4, h5, h6, h7, h8, h9, h10, h11⟩
    · exact Or.inl (by rw [e0 3 (by decide) (by decide), e0 4 (by decide) (by decide), e0 5 (by decide) (by decide)]; exact z)
    · have hgf : ¬ g = f := fun z => by rw [z, hfn] at h9; cases h9
      refine Or.inr ⟨g, st, m, k, h1, h2, h3, h4, h5, by rw [e0 3 (by decide) (by decide)]; exact h6, by rw [e0 4 (by decide) (by decide)]; exact h7, by rw [e0 5 (by decide) (by decide)]; exact h8, ?_, ?_, h11⟩
      · refine mUsed_g (fun q hq e => ?_) h9
        by_cases z : q = p
        · rw [z, hpn] at e; exact absurd e.symm (nI_m1 (by omega))
        · rw [e1 q z]; exact e
      · refine (mLiveIn_g (fun q hq => ?_)).trans h10
        rw [e2]
        refine ⟨?_, fun _ => rfl⟩
        by_cases z : q = p
        · rw [z, op_1, hpn]
          exact ⟨fun y => absurd ((nI_eq (by omega) (by omega)).mp y).symm hgf, fun y => absurd y.symm (nI_m1 (by omega))⟩
        · rw [e1 q z]
  · have : ∃ k : Nat, k < 31123 ∧ shN p 15 (layN p 16 (up A 1 p (nI f))) 0 1 = nI k := by
      refine shN_X p 15 ?_
      obtain ⟨k, hk, e⟩ := i6
      exact ⟨k, hk, by rw [layN_o p (by decide), up_n (by omega)]; exact e⟩
    obtain ⟨k, hk, e⟩ := this
    exact ⟨k, hk, (wdA_o _ _ _ _ (by decide) (by decide)).trans e⟩
  · exact DOK_c (e0 0 (by decide) (by decide)) i7
  · by_cases e : q = p
    · rw [e]; exact op_PmP p f A
    · rw [e1 q e] at hc
      obtain ⟨j1, j2⟩ := i8 q hq hc
      refine ⟨fun i hi => ?_, fun v hv => ?_⟩
      · rw [op_3 e hi]; exact j1 i hi
      · obtain ⟨i, hi, e'⟩ := j2 v hv
        exact ⟨i, hi, by rw [op_3 e hi]; exact e'⟩
  · exact wd_LnOK _ _ _ (LnOK_c (op_pre p f (by decide) (by omega) (by omega)) i10)
