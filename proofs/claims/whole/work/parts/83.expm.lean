/-! expected: the reference -/
theorem exm_i {S : Mem} {r : Nat} {Z : Zs} (h : MoR S r Z) (I : ZI Z) (w : Int32) (d : Nat) {a s : Nat} (ha : a < 12) (hs : s ≤ 7927920 * a) {v y : Int64} {N M : Nat} (hv : v.toInt = (N : Int)) (hy : y.toInt = (M : Int)) (hq : FrQ s N M) : ∀ n, n ≤ 11 - a → ∃ (v' y' : Int64) (N' M' : Nat), ev (d + 9) 291 21 [vR 8 r, vI w, vL v, vU, vL y, vU, vI (nI a), vI (nI (a + 1)), vU, vU, vU, vU, vU, vU] [] S = ev (d + 9) 291 21 [vR 8 r, vI w, vL v', vU, vL y', vU, vI (nI a), vI (nI (a + 1 + n)), vU, vU, vU, vU, vU, vU] [] S ∧ v'.toInt = (N' : Int) ∧ y'.toInt = (M' : Int) ∧ FrQ (exI Z a s n) N' M' := by
  have hA := mA h
  have lv : ∀ f, f < 12 → cal (d + 8) 166 [vR 8 r, vI (nI f)] S = some (some (vI (nI (lfN Z f))), S) := fun f hf => by
    rw [km_liveIn hA _ (nI_m1 (by omega)), (lfN_e I f).2]
  have bt : ∀ f, cal (d + 8) 161 [vI (nI (lfN Z f))] S = some (some (vI (nI (pop (lfN Z f)))), S) := fun f => by
    rw [km_bits _ ⟨_, (lfN_e I f).1, rfl⟩, bitc_pop (lfN_e I f).1]
  intro n
  induction n with
  | zero => intro _; exact ⟨v, y, N, M, rfl, hv, hy, hq⟩
  | succ n ih =>
    intro hn
    obtain ⟨v', y', N', M', e, hv', hy', hq'⟩ := ih (by omega)
    have hb12 : a + 1 + n < 12 := by omega
    have hle := exI_le I a s n
    have u1 : cal (d + 8) 167 [vR 8 r, vI (nI a)] S = some (some (vI (b2i (usB Z a))), S) := km_isUsed hA (d + 7) _
    have u2 : cal (d + 8) 167 [vR 8 r, vI (nI (a + 1 + n))] S = some (some (vI (b2i (usB Z (a + 1 + n)))), S) := km_isUsed hA (d + 7) _
    have hp := pop_le (lfN_e I a).1
    have hq2 := pop_le (lfN_e I (a + 1 + n)).1
    rw [e, B_X8_expected_21, if_neg (n12 hb12), u1, bI_s, ite_b0, nI_1, exI_s]
    unfold exT
    cases g1 : usB Z a
    · rw [if_pos rfl, if_neg Bool.false_ne_true]
      exact ⟨v', y', N', M', rfl, hv', hy', hq'⟩
    · rw [if_neg (show ¬ true = false by decide), u2, bI_s, ite_b0, if_pos (show true = true from rfl)]
      cases g2 : usB Z (a + 1 + n)
      · rw [if_pos rfl, if_neg Bool.false_ne_true]
        exact ⟨v', y', N', M', rfl, hv', hy', hq'⟩
      · rw [if_neg (show ¬ true = false by decide), if_pos (show true = true from rfl), lv a ha, bI_s, bt, bI_s, lv _ hb12, bI_s, bt, bI_s, s16 (by omega), way_m (by omega) (by omega), bL_s, lv _ hb12, bI_s, bt, bI_s]
        have w16 : cal (d + 8) 289 [vI 16, vI (nI (pop (lfN Z (a + 1 + n))))] S = some (some (vL (wayZ 16 (pop (lfN Z (a + 1 + n))))), S) := way_m (n := 16) (by decide) (by omega) _ S
        obtain ⟨a1, a2, a3, a4, a5⟩ := way_f (n := 16 - pop (lfN Z a)) (k := pop (lfN Z (a + 1 + n))) (by omega) (by omega)
        obtain ⟨b1, -, -, -, -⟩ := way_f (n := 16) (k := pop (lfN Z (a + 1 + n))) (by omega) (by omega)
        have ht := cwN_e (p := pop (lfN Z a)) (q := pop (lfN Z (a + 1 + n))) (by omega)
        rw [w16, bL_s]
        generalize wayZ (16 - pop (lfN Z a)) (pop (lfN Z (a + 1 + n))) = X at a1
        generalize wayZ 16 (pop (lfN Z (a + 1 + n))) = Y at b1
        generalize wayN (16 - pop (lfN Z a)) (pop (lfN Z (a + 1 + n))) = W at a1 a2 ht
        generalize wayN 16 (pop (lfN Z (a + 1 + n))) = D at a2 a3 a4 b1 ht
        obtain ⟨dl, nl⟩ := FrQ_le hq'
        have m1' : N' * D ≤ 95035040 * 12870 := Nat.mul_le_mul (by omega) a3
        have m2' : W * M' ≤ 12870 * 720720 := Nat.mul_le_mul (by omega) dl
        have m3' : M' * D ≤ 720720 * 12870 := Nat.mul_le_mul dl a3
        have j1 := jn_mul hv' b1 (by omega)
        have j2 := jn_mul a1 hy' (by omega)
        have j3 := jn_mul hy' b1 (by omega)
        have j4 := jn_add j1 j2 (by omega)
        obtain ⟨ge, gg⟩ := gc_end 40 100 _ _ _ _ j4 j3 (by omega) (by omega) (by decide) (by decide)
        have gp : 0 < Nat.gcd (M' * D) (N' * D + W * M') := Nat.gcd_pos_of_pos_left _ (Nat.mul_pos hq'.2.2 a4)
        have nz := nzc (fun z => by have := (jn_0 gg).mp z; omega)
        rw [div_m _ 100 _ _ S ge, bL_s, nz, gd_t, gd_t]
        exact ⟨_, _, _, _, rfl, jn_div j4 gg, jn_div j3 gg, FrQ_step hq' a4 ht⟩
