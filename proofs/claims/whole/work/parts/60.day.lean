/-! a day: what is live by number -/
def cntB (c : Nat → Bool) : Nat → Nat
  | 0 => 0
  | n + 1 => cntB c n + (if c n = true then 1 else 0)
theorem cntB_s (c : Nat → Bool) : ∀ n, cntB c (n + 1) = (if c 0 = true then 1 else 0) + cntB (fun i => c (i + 1)) n
  | 0 => by unfold cntB cntB; omega
  | n + 1 => by
    have ih := cntB_s c n
    show cntB c (n + 1) + (if c (n + 1) = true then 1 else 0) = (if c 0 = true then 1 else 0) + (cntB (fun i => c (i + 1)) n + (if c (n + 1) = true then 1 else 0))
    rw [ih]; omega
theorem cntB_c {c c' : Nat → Bool} : ∀ n, (∀ i, i < n → c i = c' i) → cntB c n = cntB c' n
  | 0, _ => rfl
  | n + 1, h => by
    unfold cntB
    rw [cntB_c n (fun i hi => h i (by omega)), h n (by omega)]
theorem cntR_B : ∀ n k, cntR n k = cntB (fun i => k.testBit i) n
  | 0, _ => rfl
  | n + 1, k => by
    rw [cntB_s]
    unfold cntR
    rw [cntR_B n (k / 2), Nat.testBit_zero]
    have e : (fun i => (k / 2).testBit i) = (fun i => k.testBit (i + 1)) := funext fun i => Nat.testBit_div_two k i
    rw [e]
    by_cases h : k % 2 = 1
    · rw [decide_eq_true h, if_pos rfl, h]
    · rw [decide_eq_false h, if_neg (by decide)]; omega
theorem cntB_add (c : Nat → Bool) (m : Nat) : ∀ n, cntB c (m + n) = cntB c m + cntB (fun i => c (m + i)) n
  | 0 => rfl
  | n + 1 => by
    show cntB c (m + n) + (if c (m + n) = true then 1 else 0) = cntB c m + (cntB (fun i => c (m + i)) n + (if c (m + n) = true then 1 else 0))
    rw [cntB_add c m n]; omega
theorem live_bit {A : AS} (I : Inv A) {p s : Nat} (hp : p < 12) (hs : s < 16) : ∃ k, k < 65536 ∧ A 2 p = nI k ∧ fLive (A 2) (nI (p * 16 + s)) = k.testBit s := by
  obtain ⟨k, hk, ek⟩ := iL I p hp
  refine ⟨k, hk, ek, ?_⟩
  unfold fLive
  rw [inb_t (show p * 16 + s < 192 by omega) (by decide), Bool.true_and, div16 (by omega), rem16 (by omega), show (p * 16 + s) / 16 = p by omega, show (p * 16 + s) % 16 = s by omega, x12 hp, ek, bit_1 (by omega) hs]
def totI (A : AS) : Nat → Int32
  | 0 => 0
  | P + 1 => totI A P + bitc (A 2 P)
theorem totI_e (A : AS) : ∀ P, itN (fun p b => b + bitc (A 2 p)) P 0 = totI A P
  | 0 => rfl
  | P + 1 => congrArg (fun b => b + bitc (A 2 P)) (totI_e A P)
theorem total_cnt {A : AS} (I : Inv A) : ∀ P, P ≤ 12 → ∃ t : Nat, t ≤ 16 * P ∧ totI A P = nI t ∧ t = cntB (fun q => fLive (A 2) (nI q)) (P * 16)
  | 0, _ => ⟨0, by decide, rfl, rfl⟩
  | P + 1, hP => by
    obtain ⟨t, h1, h2, h3⟩ := total_cnt I P (by omega)
    obtain ⟨k, hk, ek⟩ := iL I P (by omega)
    have hp := pop_le hk
    have e1 : totI A (P + 1) = nI (t + pop k) := by
      unfold totI
      rw [h2, ek, bitc_pop hk, nI_add]
    have e2 : t + pop k = cntB (fun q => fLive (A 2) (nI q)) ((P + 1) * 16) := by
      have e3 : cntB (fun i => (fun q => fLive (A 2) (nI q)) (P * 16 + i)) 16 = cntB (fun i => k.testBit i) 16 := cntB_c 16 (fun i hi => by
        obtain ⟨k', hk', ek', e⟩ := live_bit I (p := P) (by omega) hi
        rw [ek] at ek'
        have : k' = k := ((nI_eq (by omega) (by omega)).mp ek').symm
        rw [← this]; exact e)
      rw [Nat.add_mul, Nat.one_mul, cntB_add, e3, ← h3, pop_cnt hk, cntR_B]
    exact ⟨t + pop k, by omega, e1, e2⟩
def totN (A : AS) : Nat := ix (fTotal (A 2))
theorem tot_e {A : AS} (I : Inv A) : totN A ≤ 192 ∧ fTotal (A 2) = nI (totN A) ∧ totN A = cntB (fun q => fLive (A 2) (nI q)) 192 := by
  obtain ⟨t, h1, h2, h3⟩ := total_cnt I 12 (Nat.le_refl _)
  have e : fTotal (A 2) = nI t := (totI_e A 12).trans h2
  have et : totN A = t := by unfold totN; rw [e, ix_nI (by omega)]
  rw [et]
  exact ⟨by omega, e, h3⟩
/-- the i-th that is so, from k on -/
def nx (c : Nat → Bool) : Nat → Nat → Nat → Nat
  | 0, k, _ => k
  | n + 1, k, i => if c k = true then (if i = 0 then k else nx c n (k + 1) (i - 1)) else nx c n (k + 1) i
theorem nx_ok (c : Nat → Bool) : ∀ n k i, i < cntB (fun j => c (k + j)) n → k ≤ nx c n k i ∧ nx c n k i < k + n ∧ c (nx c n k i) = true
  | 0, k, i, h => absurd h (Nat.not_lt_zero _)
  | n + 1, k, i, h => by
    rw [cntB_s] at h
    have e : (fun j => c (k + (j + 1))) = (fun j => c (k + 1 + j)) := funext fun j => by rw [show k + (j + 1) = k + 1 + j by omega]
    rw [e] at h
    unfold nx
    by_cases hc : c k = true
    · rw [if_pos hc]
      by_cases hi : i = 0
      · rw [if_pos hi]; exact ⟨Nat.le_refl _, by omega, hc⟩
      · rw [if_neg hi]
        have hc' : c (k + 0) = true := hc
        rw [if_pos hc'] at h
        obtain ⟨h1, h2, h3⟩ := nx_ok c n (k + 1) (i - 1) (by omega)
        exact ⟨by omega, by omega, h3⟩
    · rw [if_neg hc]
      have hc' : ¬ c (k + 0) = true := hc
      rw [if_neg hc'] at h
      obtain ⟨h1, h2, h3⟩ := nx_ok c n (k + 1) i (by omega)
      exact ⟨by omega, by omega, h3⟩
def nthQ (A : AS) (i : Nat) : Nat := nx (fun q => fLive (A 2) (nI q)) 192 0 i
theorem nth_lt {A : AS} (I : Inv A) {i : Nat} (h : i < totN A) : nthQ A i < 192 := by
  have e := (tot_e I).2.2
  have := nx_ok (fun q => fLive (A 2) (nI q)) 192 0 i (by
    have e2 : (fun j => (fun q => fLive (A 2) (nI q)) (0 + j)) = (fun q => fLive (A 2) (nI q)) := funext fun j => by rw [Nat.zero_add]
    rw [e2, ← e]; exact h)
  exact by have h2 := this.2.1; unfold nthQ; omega
theorem n192' {p : Nat} (h : p < 192) : ¬ (192 : Int32) ≤ nI p := n192 h
theorem nth_c {S : Mem} {t : Nat} {A : AS} (h : CP S t A) (d : Nat) : ∀ n k i, k + n = 192 → i < cntB (fun j => fLive (A 2) (nI (k + j))) n → ∀ u1 : AV, ev (d + 1) 43 19 [vR 1 t, u1, vI (nI i), vI (nI k)] [] S = bI (cal d 29 [vR 1 t, vI (nI (nx (fun q => fLive (A 2) (nI q)) n k i))] S) (fun x4 S3 => if x4 = (-1) then gd (isZ 0) (some (some (vI 0), S3)) else gd (isZ 1) (some (some (vI 1), S3)))
  | 0, k, i, _, h2, _ => absurd h2 (Nat.not_lt_zero _)
  | n + 1, k, i, hk, h2, u1 => by
    rw [cntB_s] at h2
    have e : (fun j => fLive (A 2) (nI (k + (j + 1)))) = (fun j => fLive (A 2) (nI (k + 1 + j))) := funext fun j => by rw [show k + (j + 1) = k + 1 + j by omega]
    rw [e] at h2
    rw [B_X1_freeDrawn_19, if_neg (n192' (by omega)), kc_live h, bI_s, ite_b0, nI_1]
    unfold nx
    try dsimp only
    by_cases hc : fLive (A 2) (nI k) = true
    · have hc' : fLive (A 2) (nI (k + 0)) = true := hc
      rw [if_pos hc'] at h2
      rw [hc, if_neg (by decide), if_pos rfl]
      by_cases hi : i = 0
      · rw [hi, if_pos (show nI 0 = 0 from rfl), if_pos rfl]
      · have hlt : i < 2 ^ 31 := by
          have : cntB (fun j => fLive (A 2) (nI (k + 1 + j))) n ≤ n := by
            have key : ∀ (c : Nat → Bool) m, cntB c m ≤ m := fun c m => by
              induction m with
              | zero => exact Nat.le_refl _
              | succ m ih => unfold cntB; split <;> omega
            exact key _ n
          omega
        rw [if_neg (nI_ne0 (by omega) hlt), if_neg hi, m1_add (by omega), nth_c h d n (k + 1) (i - 1) (by omega) (by omega) vU]
    · have hc' : ¬ fLive (A 2) (nI (k + 0)) = true := hc
      rw [if_neg hc'] at h2
      rw [Bool.eq_false_iff.mpr hc, if_pos rfl, if_neg (by decide), nth_c h d n (k + 1) i (by omega) (by omega) vU]
theorem cntB_le (c : Nat → Bool) : ∀ m, cntB c m ≤ m
  | 0 => Nat.le_refl _
  | m + 1 => by
    have := cntB_le c m
    unfold cntB
    split <;> omega
theorem nth_m {S : Mem} {r : Nat} {A : AS} (h : RP S (r + 1) 4 A) (I : Inv A) (d : Nat) : ∀ n k i m, k + n = 192 → i < cntB (fun j => fLive (A 2) (nI (k + j))) n → m + n ≤ 192 → ev (d + 4) 253 4 [vR 8 r, vI (nI (m + i)), vI (nI m), vI (nI k)] [] S = some (some (vI (nI (nx (fun q => fLive (A 2) (nI q)) n k i))), S)
  | 0, k, i, _, _, h2, _ => absurd h2 (Nat.not_lt_zero _)
  | n + 1, k, i, m, hk, h2, hm => by
    have hcl := cntB_le (fun j => fLive (A 2) (nI (k + j))) (n + 1)
    rw [cntB_s] at h2 hcl
    have e : (fun j => fLive (A 2) (nI (k + (j + 1)))) = (fun j => fLive (A 2) (nI (k + 1 + j))) := funext fun j => by rw [show k + (j + 1) = k + 1 + j by omega]
    rw [e] at h2 hcl
    rw [B_X8_liveBy_4, km_live h I d, bI_s, ite_b0]
    unfold nx
    try dsimp only
    by_cases hc : fLive (A 2) (nI k) = true
    · have hc' : fLive (A 2) (nI (k + 0)) = true := hc
      rw [if_pos hc'] at h2 hcl
      rw [hc, if_neg (by decide), if_pos rfl]
      by_cases hi : i = 0
      · rw [hi, if_pos (show nI (m + 0) ≤ nI m from nI_le (by omega) (by omega)), if_pos rfl]
      · rw [if_neg (nI_ge (show m < m + i by omega) (by omega)), if_neg hi, km_live h I d, bI_s, hc, if_neg (by decide), nI_1, nI_1]
        have := nth_m h I d n (k + 1) (i - 1) (m + 1) (by omega) (by omega) (by omega)
        rw [show m + 1 + (i - 1) = m + i by omega] at this
        exact this
    · have hc' : ¬ fLive (A 2) (nI (k + 0)) = true := hc
      rw [if_neg hc'] at h2 hcl
      rw [Bool.eq_false_iff.mpr hc, if_pos rfl, if_neg (by decide), km_live h I d, bI_s, Bool.eq_false_iff.mpr hc, if_pos (show b2i false = 0 from rfl), add0, nI_1]
      exact nth_m h I d n (k + 1) i m (by omega) (by omega) (by omega)
