/-! compaction: sparse frames in a row, shuffled; pairs asked and meshed -/
def rowN (c : Nat → Bool) : Nat → (Nat → Nat) × Nat
  | 0 => (fun _ => 0, 0)
  | n + 1 => if c n = true then (fun i => if i = (rowN c n).2 then n else (rowN c n).1 i, (rowN c n).2 + 1) else rowN c n
def swR (R : Nat → Nat) (k o : Nat) : Nat → Nat := fun i => if i = o then R k else if i = k then R o else R i
def shR : Nat → AS × (Nat → Nat) → AS × (Nat → Nat)
  | 0, s => s
  | k + 1, s => shR k (aDr s.1, swR s.2 (k + 1) (xA s.1 % (k + 2)))
abbrev CSt : Type := AS × ((Nat → Bool) × Nat)
def lowP (A : AS) (f : Nat) : Nat := (fLowIn (A 1) (nI f)).getD 0
def cS (L : Nat → Option (Env → Int)) (f g : Nat) (s : CSt) : CSt := if (s.2.1 f || s.2.1 g) = true then s else if hinA L s.1 (lowP s.1 f) (lowP s.1 g) = 0 then (meshA f g s.1, (fun x => s.2.1 x || decide (x = f) || decide (x = g), s.2.2 + 1)) else s
def cJ (L : Nat → Option (Env → Int)) (R : Nat → Nat) (half i n : Nat) (s : CSt) : CSt := itN (fun j s => cS L (R j) (R (half + (j + i) % half)) s) n s
def cI (L : Nat → Option (Env → Int)) (R : Nat → Nat) (half n : Nat) (s : CSt) : CSt := itN (fun i s => cJ L R half i half s) n s
def spB (A : AS) (f : Nat) : Bool := (ix (aSparse A)).testBit f
def cpR (A : AS) : AS × (Nat → Nat) := shR ((rowN (spB A) 12).2 - 1) (A, (rowN (spB A) 12).1)
def cpC (L : Nat → Option (Env → Int)) (A : AS) : CSt := cI L (cpR A).2 ((rowN (spB A) 12).2 / 2) (prN L A) ((cpR A).1, (fun _ => false, 0))
/-! what the row holds -/
theorem rowN_2 (c : Nat → Bool) : ∀ n, (rowN c n).2 ≤ n
  | 0 => Nat.le_refl _
  | n + 1 => by
    have := rowN_2 c n
    unfold rowN
    by_cases h : c n = true
    · rw [if_pos h]; show (rowN c n).2 + 1 ≤ _; omega
    · rw [if_neg h]; omega
theorem rowN_1 (c : Nat → Bool) : ∀ n i, i < (rowN c n).2 → (rowN c n).1 i < n ∧ c ((rowN c n).1 i) = true
  | 0, i, h => absurd h (Nat.not_lt_zero _)
  | n + 1, i, h => by
    unfold rowN at h ⊢
    by_cases hc : c n = true
    · rw [if_pos hc] at h ⊢
      show (if i = (rowN c n).2 then n else (rowN c n).1 i) < n + 1 ∧ c (if i = (rowN c n).2 then n else (rowN c n).1 i) = true
      by_cases e : i = (rowN c n).2
      · rw [if_pos e]; exact ⟨by omega, hc⟩
      · rw [if_neg e]
        have h : i < (rowN c n).2 + 1 := h
        obtain ⟨h1, h2⟩ := rowN_1 c n i (by omega)
        exact ⟨by omega, h2⟩
    · rw [if_neg hc] at h ⊢
      obtain ⟨h1, h2⟩ := rowN_1 c n i h
      exact ⟨by omega, h2⟩
theorem shR_P {P : Nat → Prop} {N : Nat} : ∀ (k : Nat) (s : AS × (Nat → Nat)), k < N ∨ k = 0 → (∀ i, i < N → P (s.2 i)) → ∀ i, i < N → P ((shR k s).2 i)
  | 0, _, _, h => h
  | k + 1, s, hk, h => by
    refine shR_P k _ (by omega) (fun i hi => ?_)
    have hm : xA s.1 % (k + 2) < k + 2 := Nat.mod_lt _ (by omega)
    show P (if i = xA s.1 % (k + 2) then s.2 (k + 1) else if i = k + 1 then s.2 (xA s.1 % (k + 2)) else s.2 i)
    by_cases e : i = xA s.1 % (k + 2)
    · rw [if_pos e]; exact h _ (by omega)
    · rw [if_neg e]
      by_cases e2 : i = k + 1
      · rw [if_pos e2]; exact h _ (by omega)
      · rw [if_neg e2]; exact h i hi
theorem aDr_Inv {A : AS} (I : Inv A) : Inv (aDr A) := by
  obtain ⟨i1, i2, i3, i4, i5, i6, i7, i8, i9, i10⟩ := I
  have k : ∀ a, ¬ a = 0 → aDr A a = A a := fun a ha => aDr_k A ha
  have k0 : ∀ j, ¬ j = 1 → aDr A 0 j = A 0 j := fun j hj => aDr_o A (fun z => hj z.2)
  exact ⟨by rw [k 1 (by decide)]; exact i1, by rw [k 2 (by decide)]; exact i2, by rw [k 1 (by decide), k 2 (by decide)]; exact i3, by rw [k 1 (by decide), k 2 (by decide)]; exact i4, by unfold GSOK; rw [k0 3 (by decide), k0 4 (by decide), k0 5 (by decide), k 1 (by decide), k 2 (by decide)]; exact i5, aDr_X A, DOK_c (k0 0 (by decide)) i7, by unfold VcOK; rw [k 1 (by decide), k 3 (by decide)]; exact i8, by unfold VlOK; rw [k 4 (by decide)]; exact i9, LnOK_c (k0 6 (by decide)) i10⟩
theorem shR_Inv : ∀ (k : Nat) (s : AS × (Nat → Nat)), Inv s.1 → Inv (shR k s).1
  | 0, _, h => h
  | k + 1, s, h => shR_Inv k _ (aDr_Inv h)
theorem shR_1 : ∀ (k : Nat) (s : AS × (Nat → Nat)) {a b : Nat}, ¬ (a = 0 ∧ b = 1) → (shR k s).1 a b = s.1 a b
  | 0, _, _, _, _ => rfl
  | k + 1, s, a, b, h => (shR_1 k _ h).trans (aDr_o s.1 h)
/-- what holds while pairs are meshed -/
def CIv (R : Nat → Nat) (N : Nat) (s : CSt) : Prop := Inv s.1 ∧ ∀ i, i < N → R i < 12 ∧ (s.2.1 (R i) = false → mUsed (s.1 1) (nI (R i)) = true)
theorem low_ok {A : AS} {f : Nat} (hu : mUsed (A 1) (nI f) = true) : lowP A f < 12 ∧ A 1 (lowP A f) = nI f ∧ fLowIn (A 1) (nI f) = some (lowP A f) := by
  cases h : fLowIn (A 1) (nI f) with
  | none =>
    exfalso
    have h1 := ffind_none h
    have h2 : mUsed (A 1) (nI f) = false := (mUsed_iff _ _).mpr (fun p hp => of_decide_eq_false (h1 p (Nat.zero_le _) (by omega)))
    rw [hu] at h2; cases h2
  | some p =>
    obtain ⟨-, h2, h3, -⟩ := ffind_some h
    have e : lowP A f = p := by unfold lowP; rw [h]; rfl
    rw [e]
    exact ⟨by omega, of_decide_eq_true h3, rfl⟩
theorem mesh_used {A : AS} {f g x : Nat} (hf : f < 12) (hg : g < 12) (hx : x < 12) (h1 : ¬ x = f) (h2 : ¬ x = g) (hu : mUsed (A 1) (nI x) = true) : mUsed (meshA f g A 1) (nI x) = true := by
  obtain ⟨hgo, hst⟩ := goF_lt A hf hg
  refine mUsed_g (fun q hq e => ?_) hu
  unfold meshA
  rw [joinA_1 _ _ _ hq, cpN_k _ _ _ (by decide), e, if_neg]
  intro z
  have z := (nI_eq (by omega) (by omega)).mp z
  rcases goF_cs f g A with ⟨e1, -⟩ | ⟨e1, -⟩
  · rw [e1] at z; exact h1 z
  · rw [e1] at z; exact h2 z
theorem cS_Iv {L : Nat → Option (Env → Int)} {R : Nat → Nat} {N a b : Nat} {s : CSt} (h : CIv R N s) (ha : a < N) (hb : b < N) : CIv R N (cS L (R a) (R b) s) := by
  obtain ⟨I, hR⟩ := h
  obtain ⟨ha12, hau⟩ := hR a ha
  obtain ⟨hb12, hbu⟩ := hR b hb
  unfold cS
  by_cases hd : (s.2.1 (R a) || s.2.1 (R b)) = true
  · rw [if_pos hd]; exact ⟨I, hR⟩
  · rw [if_neg hd]
    have hd := Bool.or_eq_false_iff.mp (Bool.eq_false_iff.mpr hd)
    obtain ⟨p1, p2, -⟩ := low_ok (hau hd.1)
    obtain ⟨q1, q2, -⟩ := low_ok (hbu hd.2)
    by_cases hh : hinA L s.1 (lowP s.1 (R a)) (lowP s.1 (R b)) = 0
    · rw [if_pos hh]
      obtain ⟨-, -, -, b1, b2, -⟩ := hin_0 hh
      rw [p2] at b1
      rw [q2] at b2
      refine ⟨mesh_Inv I ha12 hb12 b1 b2, fun i hi => ⟨(hR i hi).1, fun z => ?_⟩⟩
      have z : (s.2.1 (R i) || decide (R i = R a) || decide (R i = R b)) = false := z
      rw [Bool.or_eq_false_iff, Bool.or_eq_false_iff] at z
      exact mesh_used ha12 hb12 (hR i hi).1 (of_decide_eq_false z.1.2) (of_decide_eq_false z.2) ((hR i hi).2 z.1.1)
    · rw [if_neg hh]; exact ⟨I, hR⟩
theorem cJ_Iv {L : Nat → Option (Env → Int)} {R : Nat → Nat} {N half i : Nat} (h2 : 2 * half ≤ N) : ∀ (n : Nat) {s : CSt}, n ≤ half → CIv R N s → CIv R N (cJ L R half i n s)
  | 0, _, _, h => h
  | n + 1, s, hn, h => by
    have hm : (n + i) % half < half := Nat.mod_lt _ (by omega)
    exact cS_Iv (cJ_Iv h2 n (by omega) h) (by omega) (by omega)
theorem cI_Iv {L : Nat → Option (Env → Int)} {R : Nat → Nat} {N half : Nat} (h2 : 2 * half ≤ N) : ∀ (n : Nat) {s : CSt}, CIv R N s → CIv R N (cI L R half n s)
  | 0, _, h => h
  | n + 1, _, h => cJ_Iv h2 half (Nat.le_refl _) (cI_Iv h2 n h)
theorem spB_used {A : AS} (I : Inv A) {f : Nat} (hf : f < 12) (h : spB A f = true) : mUsed (A 1) (nI f) = true := by
  have key : ∀ N, N ≤ 12 → ∃ k, k < 2 ^ N ∧ itN (fun f b => if mUsed (A 1) (nI f) = true ∧ bitc (mLiveIn (A 1) (A 2) (nI f)) ≤ 8 ∧ mBound (A 0 3) (A 0 4) (nI f) = false then b ||| shlI 1 (nI f) else b) N 0 = nI k ∧ ∀ x, k.testBit x = true → mUsed (A 1) (nI x) = true := by
    intro N
    induction N with
    | zero => intro _; exact ⟨0, by decide, rfl, fun x hx => by rw [Nat.zero_testBit] at hx; cases hx⟩
    | succ n ih =>
      intro hN
      obtain ⟨k, h1, h2, h3⟩ := ih (by omega)
      have hp : 2 ^ n < 2 ^ (n + 1) := Nat.pow_lt_pow_right (by decide) (Nat.lt_succ_self n)
      by_cases z : mUsed (A 1) (nI n) = true ∧ bitc (mLiveIn (A 1) (A 2) (nI n)) ≤ 8 ∧ mBound (A 0 3) (A 0 4) (nI n) = false
      · refine ⟨k ||| 2 ^ n, Nat.or_lt_two_pow (by omega) hp, ?_, fun x hx => ?_⟩
        · show (if _ then itN _ n 0 ||| shlI 1 (nI n) else itN _ n 0) = _
          rw [if_pos z, h2, shl1 (by omega), nI_or]
        · rw [Nat.testBit_or, Nat.testBit_two_pow, Bool.or_eq_true] at hx
          rcases hx with hx | hx
          · exact h3 x hx
          · rw [← of_decide_eq_true hx]; exact z.1
      · refine ⟨k, by omega, ?_, h3⟩
        show (if _ then itN _ n 0 ||| shlI 1 (nI n) else itN _ n 0) = _
        rw [if_neg z, h2]
  obtain ⟨k, h1, h2, h3⟩ := key 12 (Nat.le_refl _)
  have e : aSparse A = nI k := by
    unfold aSparse
    rw [sparse_same (iL I) (iO I) (iGS I)]
    exact h2
  have h12 : 2 ^ 12 = 4096 := by decide
  unfold spB at h
  rw [e, ix_nI (by omega)] at h
  exact h3 f h
theorem cp_Iv (A : AS) (I : Inv A) : CIv (cpR A).2 (rowN (spB A) 12).2 ((cpR A).1, (fun _ => false, 0)) := by
  refine ⟨shR_Inv _ _ I, fun i hi => ?_⟩
  have hk : (rowN (spB A) 12).2 - 1 < (rowN (spB A) 12).2 ∨ (rowN (spB A) 12).2 - 1 = 0 := by omega
  have h := shR_P (P := fun x => x < 12 ∧ mUsed (A 1) (nI x) = true) _ (A, (rowN (spB A) 12).1) hk (fun i hi => by
    obtain ⟨h1, h2⟩ := rowN_1 (spB A) 12 i hi
    exact ⟨h1, spB_used I h1 h2⟩) i hi
  refine ⟨h.1, fun _ => ?_⟩
  have e : (cpR A).1 1 = A 1 := funext fun b => shR_1 _ _ (by omega)
  show mUsed ((cpR A).1 1) _ = true
  rw [e]; exact h.2
theorem comp_Inv (L : Nat → Option (Env → Int)) {A : AS} (I : Inv A) : Inv (cpC L A).1 := (cI_Iv (by omega) _ (cp_Iv A I)).1
