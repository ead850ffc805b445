/-! the reference writes a line -/
def shM (c : Nat) (n : Nat) (S : Mem) : Mem := itN (fun j S => wrI S c (419 + j) (rdI S c (419 + (j + 1)))) n S
theorem rdI_shM (S : Mem) (c : Nat) (c' i : Nat) : ∀ n, rdI (shM c n S) c' i = if c' = c ∧ 419 ≤ i ∧ i < 419 + n then rdI S c (i + 1) else rdI S c' i
  | 0 => by rw [if_neg (by omega)]; rfl
  | n + 1 => by
    show rdI (wrI (shM c n S) c (419 + n) (rdI (shM c n S) c (419 + (n + 1)))) c' i = _
    have e1 : rdI (shM c n S) c (419 + (n + 1)) = rdI S c (419 + (n + 1)) := by rw [rdI_shM S c c (419 + (n + 1)) n, if_neg (by omega)]
    rw [rdI_wrI, e1, rdI_shM S c c' i n]
    by_cases e : c' = c ∧ i = 419 + n
    · rw [if_pos e, if_pos (by omega), e.2]; rfl
    · rw [if_neg e]
      by_cases e2 : c' = c ∧ 419 ≤ i ∧ i < 419 + n
      · rw [if_pos e2, if_pos (by omega)]
      · rw [if_neg e2, if_neg (by omega)]
theorem shM_2 (S : Mem) (c : Nat) : ∀ n, (shM c n S).2 = S.2
  | 0 => rfl
  | n + 1 => shM_2 S c n
theorem i13_10 : inb 10 13669 = true := i13 (k := 10) (by decide)
theorem i13_4 : inb 4 13669 = true := i13 (k := 4) (by decide)
theorem i13_6 : inb 6 13669 = true := i13 (k := 6) (by decide)
theorem i13_9 : inb 9 13669 = true := i13 (k := 9) (by decide)
theorem x13_10 : ix 10 = 10 := ix_nI (p := 10) (by decide)
theorem x13_4 : ix 4 = 4 := ix_nI (p := 4) (by decide)
theorem x13_6 : ix 6 = 6 := ix_nI (p := 6) (by decide)
theorem x13_9 : ix 9 = 9 := ix_nI (p := 9) (by decide)
theorem lnC_e {A : AS} {dd : Nat} (e : A 0 0 = nI dd) (hd : dd ≤ 9999) (k x y : Nat) : (((A 0 0 * 5 + nI k) * 12 + nI x) * 12 + nI y) = lnC k x y A := by
  unfold lnC
  rw [e, ix_nI (by omega)]
  show (((nI dd * nI 5 + nI k) * nI 12 + nI x) * nI 12 + nI y) = _
  rw [pk_mul, nI_add, pk_mul, nI_add, pk_mul, nI_add]
theorem n25 {p : Nat} (h : p < 25) : ¬ (25 : Int32) ≤ nI p := nI_ge (b := 25) h (by decide)
theorem y25 : (25 : Int32) ≤ nI 25 := by decide
theorem wdm_loop (d r : Nat) (a1 a2 a3 : Int32) (S : Mem) : ev d 228 15 [vR 8 r, vI a1, vI a2, vI a3, vI 1] [] S = ev d 228 15 [vR 8 r, vI a1, vI a2, vI a3, vI (nI 25)] [] (shM (r + 1) 24 S) := by
  have key := loop_it (fun j (S : Mem) => ev d 228 15 [vR 8 r, vI a1, vI a2, vI a3, vI (nI (j + 1))] [] S) 24 (fun j S => wrI S (r + 1) (419 + j) (rdI S (r + 1) (419 + (j + 1)))) (fun j S hj => by
    try dsimp only
    rw [B_X8_writeDown_15, if_neg (n25 (by omega)), a419, i13 (by omega), gd_t, show nI (419 + (j + 1)) - 1 = nI (419 + j) from pk_sub (b := 1) (by omega), i13 (by omega), gd_t, nI_1, ix_nI (by omega), ix_nI (by omega)]) S
  exact key
theorem wd_m {S : Mem} {r : Nat} {A : AS} (h : RP S (r + 1) 4 A) (hD : DOK A) (hN : LnOK A) (d k x y : Nat) : ∃ S', cal d 228 [vR 8 r, vI (nI k), vI (nI x), vI (nI y)] S = some (none, S') ∧ RP S' (r + 1) 4 (wdA k x y A) ∧ FrM r S S' := by
  obtain ⟨dd, hd, ed⟩ := hD
  obtain ⟨n, hn, e6⟩ := hN
  have r6 : rdI S (r + 1) 10 = nI n := (m0 h (j := 6) (by decide)).trans e6
  have r0 : rdI S (r + 1) 4 = A 0 0 := m0 h (j := 0) (by decide)
  have hc := lnC_e ed hd k x y
  have x6 : ix (A 0 6) = n := by rw [e6, ix_nI (by omega)]
  rw [B_X8_writeDown, i13_10, gd_t, x13_10, r6]
  by_cases h25 : n < 25
  · have hne : ¬ nI n = 25 := fun z => absurd ((nI_eq (b := 25) (by omega) (by decide)).mp z) (by omega)
    rw [if_neg hne, gd_t, i13_4, gd_t, a419, i13 (by omega), gd_t, gd_t, gd_t, x13_4, ix_nI (by omega), r0, hc, rdI_wrI, if_neg (by omega), r6, nI_1]
    refine ⟨_, rfl, ?_, FrM_t (FrM_w (by omega) (by omega)) (FrM_w (by omega) (by omega))⟩
    unfold wdA
    rw [x6, if_pos h25]
    have w1 := RP_w h (k := 5) (i := n) (by decide) (by decide) (by show n < 25; omega) (lnC k x y A) (fun z => absurd z (by decide))
    have w2 := RP_w w1 (k := 0) (i := 6) (by decide) (by decide) (by decide) (nI (n + 1)) (fun z => absurd z (by decide))
    rw [show 4 + (off 5 + n) = 419 + n by show 4 + (415 + n) = _; omega] at w2
    exact w2
  · have hn25 : n = 25 := by omega
    subst hn25
    rw [if_pos (show nI 25 = 25 from rfl), wdm_loop]
    have q : ∀ i, rdI (shM (r + 1) 24 S) (r + 1) i = if 419 ≤ i ∧ i < 443 then rdI S (r + 1) (i + 1) else rdI S (r + 1) i := fun i => by
      rw [rdI_shM]
      by_cases e : 419 ≤ i ∧ i < 443
      · rw [if_pos e, if_pos (by omega)]
      · rw [if_neg e, if_neg (by omega)]
    have q10 : rdI (shM (r + 1) 24 S) (r + 1) 10 - 1 = nI 24 := by rw [q, if_neg (by omega), r6]; rfl
    rw [B_X8_writeDown_15, if_pos y25, i13_10, gd_t, gd_t, gd_t, i13_4, gd_t, x13_10, q10, rdI_wrI, if_pos ⟨rfl, rfl⟩, a419, i13 (by omega), gd_t, gd_t, gd_t, x13_4, ix_nI (by omega), rdI_wrI, if_neg (by omega), q, if_neg (by omega), r0, hc, rdI_wrI, if_neg (by omega), rdI_wrI, if_pos ⟨rfl, rfl⟩, nI_1]
    refine ⟨_, rfl, ?_, FrM_t (FrM_t (FrM_t ?_ (FrM_w (by omega) (by omega))) (FrM_w (by omega) (by omega))) (FrM_w (by omega) (by omega))⟩
    · unfold wdA
      rw [x6, if_neg h25]
      have w0 : RP (shM (r + 1) 24 S) (r + 1) 4 (shA A) := by
        refine ⟨fun k' i' hk' h3' hi' => ?_, fun p j hp ho hj => ?_⟩
        · rw [q]
          unfold shA
          by_cases e : k' = 5 ∧ i' < 24
          · rw [if_pos (by rw [e.1]; show 419 ≤ 4 + (415 + i') ∧ 4 + (415 + i') < 443; omega), if_pos e, e.1]
            exact h.1 5 (i' + 1) (by decide) (by decide) (by show i' + 1 < 25; omega)
          · rw [if_neg (fun z => e ?_), if_neg e]
            · exact h.1 k' i' hk' h3' hi'
            · obtain ⟨z1, z2⟩ := z
              rcases k5 hk' with rfl | rfl | rfl | rfl | rfl | rfl <;> simp only [off, ln] at z1 z2 hi' <;> omega
        · rw [q, if_neg (by omega)]
          have ho' : ¬ A 1 p = -1 := fun z => ho (by unfold shA; rw [if_neg (by omega)]; exact z)
          unfold shA
          rw [if_neg (by omega)]
          exact h.2 p j hp ho' hj
      have w01 := RP_w w0 (k := 0) (i := 6) (by decide) (by decide) (by decide) (nI 24) (fun z => absurd z (by decide))
      have w1 := RP_w w01 (k := 5) (i := 24) (by decide) (by decide) (by decide) (lnC k x y A) (fun z => absurd z (by decide))
      have w2 := RP_w w1 (k := 0) (i := 6) (by decide) (by decide) (by decide) (nI (24 + 1)) (fun z => absurd z (by decide))
      have ee : up (up (up (shA A) 0 6 (nI 24)) 5 24 (lnC k x y A)) 0 6 (nI (24 + 1)) = up (up (shA A) 5 24 (lnC k x y A)) 0 6 (nI 25) := by
        funext a b
        by_cases e : a = 0 ∧ b = 6
        · rw [e.1, e.2, up_s, up_s]
        · rw [up_n e, up_n e]
          by_cases e2 : a = 5 ∧ b = 24
          · rw [e2.1, e2.2, up_s, up_s]
          · rw [up_n e2, up_n e2, up_n e]
      rw [ee] at w2
      exact w2
    · refine ⟨fun c i _ hc _ => ?_, by rw [shM_2]⟩
      rw [rdI_shM, if_neg (fun z => hc ⟨z.1, by omega, by omega⟩)]
