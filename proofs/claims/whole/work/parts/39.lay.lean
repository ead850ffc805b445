/-- a new page's vector, before it is shuffled -/
def layV (S : Mem) (c p : Nat) : Mem := itN (fun i S => wrI S c (p * 16 + i) (nI i)) 16 S
theorem sp_lay (d t p : Nat) (hp : p < 12) (f : Int32) (u5 u6 : AV) (S : Mem) : ev (d + 1) 27 37 [vR 1 t, vI (nI p), vI f, vI (nI (p * 16)), vI 0, u5, u6] [] S = ev (d + 1) 27 65 [vR 1 t, vI (nI p), vI f, vI (nI (p * 16)), vI 15, vU, vU] [] (layV S (t + 3) p) := by
  obtain ⟨u, key⟩ := loop_itU (fun i (u : AV × AV) (S : Mem) => ev (d + 1) 27 37 [vR 1 t, vI (nI p), vI f, vI (nI (p * 16)), vI (nI i), u.1, u.2] [] S) 16 (fun i S => wrI S (t + 3) (p * 16 + i) (nI i)) (fun i u S hi => by
    refine ⟨(vU, vU), ?_⟩
    try dsimp only
    rw [B_X1_openPage_37, if_neg (n16 hi), nI_add, inb_t (by omega) (by decide), gd_t, ix_nI (by omega), nI_1]) (u5, u6) S
  refine key.trans ?_
  try dsimp only
  rw [B_X1_openPage_37, if_pos y16]; rfl
theorem rdI_lay (S : Mem) (c p c' i : Nat) : rdI (layV S c p) c' i = if c' = c ∧ p * 16 ≤ i ∧ i < p * 16 + 16 then nI (i - p * 16) else rdI S c' i := by
  unfold layV
  have key : ∀ n, n ≤ 16 → rdI (itN (fun i S => wrI S c (p * 16 + i) (nI i)) n S) c' i = if c' = c ∧ p * 16 ≤ i ∧ i < p * 16 + n then nI (i - p * 16) else rdI S c' i := by
    intro n
    induction n with
    | zero => intro _; rw [if_neg (by omega)]; rfl
    | succ n ih =>
      intro hn
      show rdI (wrI (itN _ n S) c (p * 16 + n) (nI n)) c' i = _
      rw [rdI_wrI, ih (by omega)]
      by_cases h : c' = c ∧ i = p * 16 + n
      · rw [if_pos h, if_pos (by omega), show i - p * 16 = n by omega]
      · rw [if_neg h]
        by_cases h2 : c' = c ∧ p * 16 ≤ i ∧ i < p * 16 + n
        · rw [if_pos h2, if_pos (by omega)]
        · rw [if_neg h2, if_neg (by omega)]
  exact key 16 (Nat.le_refl _)
