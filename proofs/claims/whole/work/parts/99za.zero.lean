/-! the state at the start: nothing open, nothing told -/
def S9 (n : Nat) (f : Nat → Int32) : Mem := (S0c, fun _ _ => 0, (n, f))
def A9 : AS := fun k i => match k with
  | 0 => S0c 28 i
  | 1 => -1
  | _ => 0
def W9 : WSt := (A9, ((0, fun _ => A9), ((0, -1), (0, fun _ => (0, (0, 0))))))
def Z9 : Zs := (W9, (W9, (fun _ => (0, ((fun _ => 0), ((fun _ => 0), ((fun _ => 0), fun _ => none)))), (0, ((fun _ => 0), (-1, -1))))))
theorem pg_28 {t i : Nat} (h : isPG t = true) : S0c t i = S0c 28 i := by
  unfold S0c
  rw [if_pos h, if_pos (show isPG 28 = true by decide)]
theorem CP_9 {n : Nat} {f : Nat → Int32} {t : Nat} (h : isPG t = true) : CP (S9 n f) t A9 := by
  refine ⟨fun k i hk hi => ?_, 0, by decide, by decide +kernel, fun i hi => absurd hi (Nat.not_lt_zero i)⟩
  show S0c (t + k) i = A9 k i
  match k, hk with
  | 0, _ => exact pg_28 h
  | 1, _ => rw [S0_p1 h]; rfl
  | 2, _ => rw [S0_pj h (by decide) (by decide)]; rfl
  | 3, _ => rw [S0_pj h (by decide) (by decide)]; rfl
  | 4, _ => rw [S0_pj h (by decide) (by decide)]; rfl
  | k + 5, hk => omega
set_option maxRecDepth 100000 in
theorem rp_9 : ∀ k : Fin 6, ∀ i : Fin 192, ¬ k.1 = 3 → i.1 < ln k.1 → S0c 525 (4 + (off k.1 + i.1)) = A9 k.1 i.1 := by decide +kernel
theorem RP_9 {n : Nat} {f : Nat → Int32} {c : Nat} (hc : S0c c = S0c 525) : RP (S9 n f) c 4 A9 := by
  refine ⟨fun k i hk h3 hi => ?_, fun p i hp h => absurd (show A9 1 p = -1 from rfl) h⟩
  have h192 : i < 192 := by
    rcases k5 hk with rfl | rfl | rfl | rfl | rfl | rfl <;> simp only [ln] at hi <;> omega
  show S0c c (4 + (off k + i)) = A9 k i
  rw [hc]
  exact rp_9 ⟨k, by omega⟩ ⟨i, h192⟩ h3 hi
theorem WC_9 {n : Nat} {f : Nat → Int32} {c : Nat} (h1 : isPG (c + 1) = true) (h2 : S0c (c + 8) 1 = nI 0 ∧ S0c (c + 8) 2 = nI 0 ∧ S0c c 4 = nI 0 ∧ S0c c 5 = -1 ∧ S0c c 3 = nI 0) : WC (S9 n f) c W9 :=
  ⟨CP_9 h1, ⟨0, by decide, h2.1, h2.2.1, Nat.zero_le _, fun i hi => absurd (show i < 0 from hi) (Nat.not_lt_zero i)⟩, h2.2.2.1, h2.2.2.2.1, h2.2.2.2.2, fun i hi => absurd (show i < 0 from hi) (Nat.not_lt_zero i)⟩
theorem WM_9 {n : Nat} {f : Nat → Int32} {c : Nat} (h1 : S0c c = S0c 525) : WM (S9 n f) c W9 := by
  have h2 : S0c c 468 = nI 0 ∧ S0c c 2 = nI 0 ∧ S0c c 0 = nI 0 ∧ S0c c 1 = -1 ∧ S0c c 3 = nI 0 := by
    rw [h1]
    decide +kernel
  exact ⟨RP_9 h1, ⟨0, by decide, h2.1, h2.2.1, Nat.zero_le _, fun i hi => absurd (show i < 0 from hi) (Nat.not_lt_zero i)⟩, h2.2.2.1, h2.2.2.2.1, h2.2.2.2.2, fun i hi => absurd (show i < 0 from hi) (Nat.not_lt_zero i)⟩
theorem ClR_9 {n : Nat} {f : Nat → Int32} : ClR (S9 n f) 0 Z9 :=
  ⟨WC_9 (c := 0 + 27) (by decide +kernel) (by decide +kernel), WC_9 (c := 0 + 248) (by decide +kernel) (by decide +kernel), fun j hj => absurd (show j < 0 from hj) (Nat.not_lt_zero j),
    ⟨⟨0, 0, by decide, by decide, show S0c (0 + 17 + 4) 0 = nI 0 by decide +kernel, show S0c (0 + 17 + 5) 0 = nI 0 by decide +kernel, by decide⟩, ⟨0, 0, by decide, by decide, show S0c (0 + 17 + 4) 1 = nI 0 by decide +kernel, show S0c (0 + 17 + 5) 1 = nI 0 by decide +kernel, by decide⟩⟩,
    ⟨show S0c (0 + 1) 1 = nI 0 by decide +kernel, fun i hi => absurd (show i < 0 from hi) (Nat.not_lt_zero i), show S0c (0 + 1) 2 = -1 by decide +kernel, show S0c (0 + 1) 3 = -1 by decide +kernel⟩⟩
theorem MoR_9 {n : Nat} {f : Nat → Int32} : MoR (S9 n f) 524 Z9 :=
  ⟨WM_9 (c := 524 + 1) rfl, WM_9 (c := 524 + 2) (S0_526.trans S0_525.symm), fun j hj => absurd (show j < 0 from hj) (Nat.not_lt_zero j),
    ⟨show S0c 524 4 = nI 0 by decide +kernel, fun i hi => absurd (show i < 0 from hi) (Nat.not_lt_zero i), show S0c 524 5 = -1 by decide +kernel, show S0c 524 6 = -1 by decide +kernel⟩⟩
theorem Inv_9 : Inv A9 :=
  ⟨fun p _ => Or.inl rfl, fun p _ => ⟨0, by decide, rfl⟩, fun p _ _ => rfl, fun p _ h => absurd (show A9 1 p = -1 from rfl) h, Or.inl ⟨by decide +kernel, by decide +kernel, by decide +kernel⟩, ⟨503, by decide, by decide +kernel⟩, ⟨0, by decide, by decide +kernel⟩, fun p _ h => absurd (show A9 1 p = -1 from rfl) h, fun i _ => ⟨0, by decide, rfl⟩, ⟨0, by decide, by decide +kernel⟩⟩
theorem WI_9 : WI W9 :=
  ⟨Inv_9, fun i hi => absurd (show i < 0 from hi) (Nat.not_lt_zero i), Nat.zero_le _, Nat.zero_le _, Or.inl rfl, Nat.zero_le _, fun i hi => absurd (show i < 0 from hi) (Nat.not_lt_zero i)⟩
theorem ZI_9 : ZI Z9 :=
  ⟨WI_9, WI_9, Nat.le_refl _, fun j hj => absurd (show j < 0 from hj) (Nat.not_lt_zero j), ⟨Nat.zero_le _, fun i hi => absurd (show i < 0 from hi) (Nat.not_lt_zero i)⟩⟩
/-! the world at the start -/
def w9 (D : va_G) (cI cZ cJ cT cP : ClassId) (z b : Nat) (kS vS : Nat → Nat) : WT := (D, ((cI, cZ, cJ, cT, cP), ((z, (List.range 541, K0)), (b, kS, vS))))
set_option maxRecDepth 100000 in
theorem ok_f : ∀ t : Fin 541, ∀ q ∈ fdl (K0 t.1), q.1 = 2 → t.1 + q.2.1 < 541 ∧ K0 (t.1 + q.2.1) = q.2.2 := by decide +kernel
set_option maxRecDepth 100000 in
theorem ok_20 : ∀ t : Fin 541, K0 t.1 = 20 → ∀ i : Fin 4, t.1 + 468 + 10 * i.1 < 541 ∧ K0 (t.1 + 468 + 10 * i.1) = 5 := by decide +kernel
set_option maxRecDepth 100000 in
theorem ok_21 : ∀ t : Fin 541, K0 t.1 = 21 → ∀ i : Fin 30, t.1 + 1 + 7 * i.1 < 541 ∧ K0 (t.1 + 1 + 7 * i.1) = 1 := by decide +kernel
set_option maxRecDepth 100000 in
theorem ok_k : ∀ t : Fin 541, K0 t.1 ≤ 8 ∨ K0 t.1 = 20 ∨ K0 t.1 = 21 ∨ kAI (K0 t.1) = true ∨ kAZ (K0 t.1) = true ∨ kAJ (K0 t.1) = true := by decide +kernel
set_option maxRecDepth 100000 in
theorem ok_3 : ∀ t : Fin 541, K0 t.1 = 3 → ix (S0c t.1 10) < 541 ∧ K0 (ix (S0c t.1 10)) = 5 := by decide +kernel
section W9_
variable {w : WT}
theorem WOK_9 (hL : wL w = List.range 541) (hk : wk w = K0) : WOK w := by
  unfold WOK
  rw [hL, hk]
  refine ⟨List.nodup_range, fun t ht => ?_, fun t ht k o κ h => ?_, fun t ht h i hi => ?_, fun t ht h i hi => ?_, fun t ht => ?_⟩
  · have := List.mem_range.mp ht
    omega
  · have h9 := ok_f ⟨t, List.mem_range.mp ht⟩ (2, o, κ) (List.mem_of_getElem? h) rfl
    exact ⟨List.mem_range.mpr h9.1, h9.2⟩
  · have h9 := ok_20 ⟨t, List.mem_range.mp ht⟩ h ⟨i, hi⟩
    exact ⟨List.mem_range.mpr h9.1, h9.2⟩
  · have h9 := ok_21 ⟨t, List.mem_range.mp ht⟩ h ⟨i, hi⟩
    exact ⟨List.mem_range.mpr h9.1, h9.2⟩
  · exact ok_k ⟨t, List.mem_range.mp ht⟩
theorem SInv_9 {n : Nat} {f : Nat → Int32} (hL : wL w = List.range 541) (hk : wk w = K0) : SInv w (S9 n f) := by
  unfold SInv
  rw [hL, hk]
  intro t ht h
  have h9 := ok_3 ⟨t, List.mem_range.mp ht⟩ h
  exact ⟨List.mem_range.mpr h9.1, h9.2⟩
theorem flds_9 {n b0 t κ : Nat} {f : Nat → Int32} : flds b0 t (S9 n f) κ = flds b0 t S00 κ := rfl
theorem encK_9 {n κ t : Nat} {f : Nat → Int32} : encK w κ t (S9 n f) = encK w κ t S00 := by
  unfold encK
  rw [flds_9]
  try rfl
theorem WL_9 {n : Nat} {f : Nat → Int32} (hL : wL w = List.range 541) (hk : wk w = K0) : WL w (S9 n f) = blk w 0 541 := by
  unfold WL blk
  rw [hL, hk]
  apply List.map_congr_left
  intro t _
  show (wb w + t, encK w (K0 t) t (S9 n f)) = (wb w + (0 + t), encK w (K0 (0 + t)) (0 + t) S00)
  rw [Nat.zero_add, encK_9]
end W9_
