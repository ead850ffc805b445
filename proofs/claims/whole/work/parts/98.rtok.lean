/-! the reference's token, whole -/
theorem byV_61 {b : Nat → Nat} {n q : Nat} (hb : q < n → b q < 256) : byV b n q = 61 ↔ q < n ∧ b q = 61 := by
  unfold byV
  by_cases z : q < n
  · have := hb z
    rw [if_pos z]
    exact ⟨fun h => ⟨z, (nI_eq (b := 61) (by omega) (by decide)).mp h⟩, fun h => (nI_eq (b := 61) (by omega) (by decide)).mpr h.2⟩
  · rw [if_neg z]
    exact ⟨fun h => absurd h (by decide), fun h => absurd h.1 z⟩
theorem isSg_60 {x : Nat} (h : isSg x = false) : ¬ x = 60 ∧ ¬ x = 62 := by
  refine ⟨fun z => ?_, fun z => ?_⟩
  · rw [z] at h; exact absurd h (by decide)
  · rw [z] at h; exact absurd h (by decide)
theorem two_e {b : Nat → Nat} {n q x : Nat} : two b n q x = true ↔ (q + 1 < n ∧ b (q + 1) = 61) ∧ b q = x := by
  unfold two
  rw [Bool.and_eq_true, Bool.and_eq_true, decide_eq_true_iff, decide_eq_true_iff, decide_eq_true_iff]
theorem nx0_m {b : Nat → Nat} {n r : Nat} (d : Nat) : ∀ m q S u, n - q < m → q ≤ n → TapM b n r S → rdI S r 7 = nI q → ∃ S', ev (d + 1) 183 0 [vR 8 r, u] [] S = some (none, S') ∧ RTp b n r (nbl b n q) S' ∧ FrH r S S' := by
  intro m
  induction m with
  | zero => intro q S u h; omega
  | succ m ih =>
    intro q S u hm hqn hT e7
    have hT' := hT
    obtain ⟨h1, h2, h3⟩ := hT
    have fw8 : FrH r S (wrI S r 8 (nI q)) := FrH_w (by omega)
    have hT8 := TapM_k hT' fw8
    have e78 : rdI (wrI S r 8 (nI q)) r 7 = nI q := by rw [rdI_wrI, if_neg (by omega)]; exact e7
    have e88 : rdI (wrI S r 8 (nI q)) r 8 = nI q := by rw [rdI_wrI, if_pos ⟨rfl, rfl⟩]
    rw [B_X8_nextToken_0, e7, byt_m hT' (by omega), bI_s]
    by_cases z : q < n
    · obtain ⟨eb, hb⟩ := h3 q z
      have ey : byV b n q = nI (b q) := if_pos z
      have e32 : nI (b q) = 32 ↔ b q = 32 := nI_eq (b := 32) (by omega) (by decide)
      have e10 : nI (b q) = 10 ↔ b q = 10 := nI_eq (b := 10) (by omega) (by decide)
      have bl : isBl (b q) = true → nbl b n q = nbl b n (q + 1) := fun g => by
        unfold nbl
        exact fstN_f z (by rw [g]; rfl)
      have go : isBl (b q) = true → ∃ S', ev (d + 1) 183 0 [vR 8 r, vU] [] (wrI S r 7 (nI (q + 1))) = some (none, S') ∧ RTp b n r (nbl b n q) S' ∧ FrH r S S' := fun g => by
        have f7 : FrH r S (wrI S r 7 (nI (q + 1))) := FrH_w (by omega)
        obtain ⟨S', e', k1, k2⟩ := ih (q + 1) _ vU (by omega) (by omega) (TapM_k hT' f7) (by rw [rdI_wrI, if_pos ⟨rfl, rfl⟩])
        rw [bl g]
        exact ⟨S', e', k1, FrH_t f7 k2⟩
      rw [ey]
      by_cases y : b q = 32
      · rw [if_pos (e32.mpr y), e7, nI_1]
        exact go ((isBl_e _).mpr (Or.inl y))
      · rw [if_neg (mt e32.mp y), e7, byt_m hT' (by omega), bI_s, ey]
        by_cases w : b q = 10
        · rw [if_pos (e10.mpr w), e7, nI_1]
          exact go ((isBl_e _).mpr (Or.inr w))
        · have g : isBl (b q) = false := bf (fun v => by have := (isBl_e _).mp v; omega)
          have en : nbl b n q = q := by
            unfold nbl
            exact fstN_t z (by rw [g]; rfl)
          rw [if_neg (mt e10.mp w), e7, e78, byt_m hT8 (by omega), bI_s, ey, if_pos (nI_pos' (by omega)), dg_m hb, bI_s, ite_b0, en]
          cases g2 : isDg (b q)
          · rw [if_pos rfl, ltr_m hb, bI_s, ite_b0]
            cases g1 : isLe (b q)
            · have sig : ∀ (S' : Mem) (c e : Nat), FrH r S S' → rdI S' r 8 = nI q → rdI S' r 9 = nI c → rdI S' r 7 = nI e → c = (if two b n q 60 = true then 4 else if two b n q 62 = true then 5 else if isSg (b q) = true then b q else 3) → e = (if two b n q 60 = true then q + 2 else if two b n q 62 = true then q + 2 else q + 1) → RTp b n r q S' := by
                intro S' c e _ a1 a2 a3 a4 a5
                refine ⟨a1, ?_, ?_, fun _ _ x => (by rw [g2] at x; cases x), fun _ x => (by rw [g1] at x; cases x)⟩
                · unfold t9p
                  rw [if_pos z, g1, g2, if_neg (by decide), if_neg (by decide), ← a4]; exact a2
                · have ee : tEp b n q = e := by
                    unfold tEp tk
                    rw [if_pos z, g1, g2, if_neg (by decide), if_neg (by decide), a5]
                    by_cases x1 : two b n q 60 = true
                    · rw [if_pos x1, if_pos x1]
                    · rw [if_neg x1, if_neg x1]
                      by_cases x2 : two b n q 62 = true
                      · rw [if_pos x2, if_pos x2]
                      · rw [if_neg x2, if_neg x2]
                  rw [ee]; exact a3
              have e60 : nI (b q) = 60 ↔ b q = 60 := nI_eq (b := 60) (by omega) (by decide)
              have e62 : nI (b q) = 62 ↔ b q = 62 := nI_eq (b := 62) (by omega) (by decide)
              have h61 := byV_61 (q := q + 1) (fun y => (h3 (q + 1) y).2)
              rw [if_pos rfl, isg_m hb, bI_s, ite_b0]
              cases g3 : isSg (b q)
              · obtain ⟨s1, s2⟩ := isSg_60 g3
                have n1 : ¬ two b n q 60 = true := fun x => s1 (two_e.mp x).2
                have n2 : ¬ two b n q 62 = true := fun x => s2 (two_e.mp x).2
                have e79 : rdI (wrI (wrI S r 8 (nI q)) r 9 3) r 7 = nI q := by rw [rdI_wrI, if_neg (by omega)]; exact e78
                have ff : FrH r S (wrI (wrI (wrI S r 8 (nI q)) r 9 3) r 7 (nI (q + 1))) := FrH_t fw8 (FrH_t (FrH_w (by omega)) (FrH_w (by omega)))
                rw [if_pos rfl, if_neg (mt e60.mp s1), if_neg (mt e62.mp s2), e79, nI_1]
                refine ⟨_, rfl, sig _ 3 (q + 1) ff ?_ ?_ ?_ ?_ ?_, ff⟩
                · rw [rdI_wrI, if_neg (by omega), rdI_wrI, if_neg (by omega)]; exact e88
                · rw [rdI_wrI, if_neg (by omega), rdI_wrI, if_pos ⟨rfl, rfl⟩]; rfl
                · rw [rdI_wrI, if_pos ⟨rfl, rfl⟩]
                · rw [if_neg n1, if_neg n2, g3, if_neg (by decide)]
                · rw [if_neg n1, if_neg n2]
              · have e79 : rdI (wrI (wrI S r 8 (nI q)) r 9 (nI (b q))) r 7 = nI q := by rw [rdI_wrI, if_neg (by omega)]; exact e78
                have f1 : FrH r S (wrI (wrI (wrI S r 8 (nI q)) r 9 (nI (b q))) r 7 (nI (q + 1))) := FrH_t fw8 (FrH_t (FrH_w (by omega)) (FrH_w (by omega)))
                have hT1 := TapM_k hT' f1
                have p7 : rdI (wrI (wrI (wrI S r 8 (nI q)) r 9 (nI (b q))) r 7 (nI (q + 1))) r 7 = nI (q + 1) := by rw [rdI_wrI, if_pos ⟨rfl, rfl⟩]
                have p8 : rdI (wrI (wrI (wrI S r 8 (nI q)) r 9 (nI (b q))) r 7 (nI (q + 1))) r 8 = nI q := by rw [rdI_wrI, if_neg (by omega), rdI_wrI, if_neg (by omega)]; exact e88
                have p9 : rdI (wrI (wrI (wrI S r 8 (nI q)) r 9 (nI (b q))) r 7 (nI (q + 1))) r 9 = nI (b q) := by rw [rdI_wrI, if_neg (by omega), rdI_wrI, if_pos ⟨rfl, rfl⟩]
                have ff : ∀ c : Int32, FrH r S (wrI (wrI (wrI (wrI (wrI S r 8 (nI q)) r 9 (nI (b q))) r 7 (nI (q + 1))) r 9 c) r 7 (nI (q + 2))) := fun c => FrH_t f1 (FrH_t (FrH_w (by omega)) (FrH_w (by omega)))
                have p79 : ∀ c : Int32, rdI (wrI (wrI (wrI (wrI S r 8 (nI q)) r 9 (nI (b q))) r 7 (nI (q + 1))) r 9 c) r 7 = nI (q + 1) := fun c => by rw [rdI_wrI, if_neg (by omega)]; exact p7
                rw [if_neg (by decide), e79, nI_1, p7, byt_m hT1 (by omega)]
                by_cases x1 : b q = 60
                · have n2 : ¬ two b n q 62 = true := fun x => by have := (two_e.mp x).2; omega
                  rw [if_pos (e60.mpr x1), bI_s]
                  by_cases x2 : q + 1 < n ∧ b (q + 1) = 61
                  · have n1 : two b n q 60 = true := two_e.mpr ⟨x2, x1⟩
                    rw [if_pos (h61.mpr x2), if_pos (e60.mpr x1), p79, nI_1]
                    refine ⟨_, rfl, sig _ 4 (q + 2) (ff 4) ?_ ?_ ?_ ?_ ?_, ff 4⟩
                    · rw [rdI_wrI, if_neg (by omega), rdI_wrI, if_neg (by omega)]; exact p8
                    · rw [rdI_wrI, if_neg (by omega), rdI_wrI, if_pos ⟨rfl, rfl⟩]; rfl
                    · rw [rdI_wrI, if_pos ⟨rfl, rfl⟩]
                    · rw [if_pos n1]
                    · rw [if_pos n1]
                  · have n1 : ¬ two b n q 60 = true := fun x => x2 (two_e.mp x).1
                    rw [if_neg (mt h61.mp x2)]
                    exact ⟨_, rfl, sig _ (b q) (q + 1) f1 p8 p9 p7 (by rw [if_neg n1, if_neg n2, g3, if_pos rfl]) (by rw [if_neg n1, if_neg n2]), f1⟩
                · have n1 : ¬ two b n q 60 = true := fun x => x1 (two_e.mp x).2
                  rw [if_neg (mt e60.mp x1)]
                  by_cases x3 : b q = 62
                  · rw [if_pos (e62.mpr x3), bI_s]
                    by_cases x2 : q + 1 < n ∧ b (q + 1) = 61
                    · have n2 : two b n q 62 = true := two_e.mpr ⟨x2, x3⟩
                      rw [if_pos (h61.mpr x2), if_neg (mt e60.mp x1), p79, nI_1]
                      refine ⟨_, rfl, sig _ 5 (q + 2) (ff 5) ?_ ?_ ?_ ?_ ?_, ff 5⟩
                      · rw [rdI_wrI, if_neg (by omega), rdI_wrI, if_neg (by omega)]; exact p8
                      · rw [rdI_wrI, if_neg (by omega), rdI_wrI, if_pos ⟨rfl, rfl⟩]; rfl
                      · rw [rdI_wrI, if_pos ⟨rfl, rfl⟩]
                      · rw [if_neg n1, if_pos n2]
                      · rw [if_neg n1, if_pos n2]
                    · have n2 : ¬ two b n q 62 = true := fun x => x2 (two_e.mp x).1
                      rw [if_neg (mt h61.mp x2)]
                      exact ⟨_, rfl, sig _ (b q) (q + 1) f1 p8 p9 p7 (by rw [if_neg n1, if_neg n2, g3, if_pos rfl]) (by rw [if_neg n1, if_neg n2]), f1⟩
                  · have n2 : ¬ two b n q 62 = true := fun x => x3 (two_e.mp x).2
                    rw [if_neg (mt e62.mp x3)]
                    exact ⟨_, rfl, sig _ (b q) (q + 1) f1 p8 p9 p7 (by rw [if_neg n1, if_neg n2, g3, if_pos rfl]) (by rw [if_neg n1, if_neg n2]), f1⟩
            · have hl := eW_lt z g1
              have f2 : FrH r S (wrJ (wrI (wrI S r 8 (nI q)) r 9 2) r 11 0) := FrH_t fw8 (FrH_t (FrH_w (by omega)) FrH_j)
              obtain ⟨S', e', k1, k2, k3, k4, k5⟩ := wlp_m z g1 d (n - q + 1) q 0 (wrJ (wrI (wrI S r 8 (nI q)) r 9 2) r 11 0) (vI (nI (b q))) (by omega) rfl (by omega) (Or.inr rfl) (fun i hi => absurd hi (Nat.not_lt_zero _)) (TapM_k hT' f2) (by rw [rdI_wrJ, rdI_wrI, if_neg (by omega)]; exact e78) (by rw [rdJ_wrJ, if_pos ⟨rfl, rfl⟩]; rfl)
              rw [if_neg (by decide)]
              refine ⟨S', e', ⟨?_, ?_, ?_, fun _ x => (by rw [g1] at x; cases x), fun _ _ => k2⟩, FrH_t f2 k3⟩
              · rw [k4, rdI_wrJ, rdI_wrI, if_neg (by omega)]; exact e88
              · rw [k5, rdI_wrJ, rdI_wrI, if_pos ⟨rfl, rfl⟩]
                unfold t9p
                rw [if_pos z, if_pos g1]; rfl
              · rw [k1]
                unfold tEp tk
                rw [if_pos z, if_pos g1]
          · have g1 : isLe (b q) = false := bf (fun v => by have h4 := (isLe_e _).mp v; have h5 := (isDg_e _).mp g2; omega)
            have f2 : FrH r S (wrI (wrI (wrI S r 8 (nI q)) r 9 1) r 10 0) := FrH_t fw8 (FrH_t (FrH_w (by omega)) (FrH_w (by omega)))
            obtain ⟨S', v', e', k1, k2, k3, k4, k5, k6, k7⟩ := dlp_m (p := q) d (n - q + 1) q 0 0 (wrI (wrI (wrI S r 8 (nI q)) r 9 1) r 10 0) (vI (nI (b q))) (by omega) rfl (by omega) (by decide) rfl (TapM_k hT' f2) (by rw [rdI_wrI, if_neg (by omega), rdI_wrI, if_neg (by omega)]; exact e78) (by rw [rdI_wrI, if_pos ⟨rfl, rfl⟩]; rfl)
            rw [if_neg (by decide)]
            refine ⟨S', e', ⟨?_, ?_, ?_, fun _ _ _ => ⟨v', k2, k3, k4⟩, fun _ x => (by rw [g1] at x; cases x)⟩, FrH_t f2 k5⟩
            · rw [k6, rdI_wrI, if_neg (by omega), rdI_wrI, if_neg (by omega)]; exact e88
            · rw [k7, rdI_wrI, if_neg (by omega), rdI_wrI, if_pos ⟨rfl, rfl⟩]
              unfold t9p
              rw [if_pos z, g1, if_neg (by decide), if_pos g2]; rfl
            · rw [k1]
              unfold tEp tk
              rw [if_pos z, g1, if_neg (by decide), if_pos g2]
    · have enq : q = n := by omega
      have ey : byV b n q = -1 := if_neg z
      have en : nbl b n q = q := by rw [enq]; unfold nbl; exact fstN_n
      rw [ey, if_neg (by decide), e7, byt_m hT' (by omega), bI_s, ey, if_neg (by decide), e7, e78, byt_m hT8 (by omega), bI_s, ey, if_neg (by decide), en]
      refine ⟨_, rfl, ⟨?_, ?_, ?_, fun x => absurd x z, fun x => absurd x z⟩, FrH_t fw8 (FrH_w (by omega))⟩
      · rw [rdI_wrI, if_neg (by omega)]; exact e88
      · rw [rdI_wrI, if_pos ⟨rfl, rfl⟩]
        unfold t9p
        rw [if_neg z]; rfl
      · rw [rdI_wrI, if_neg (by omega)]
        unfold tEp
        rw [if_neg z, ← enq]; exact e78
def RT (b : Nat → Nat) (n r k : Nat) (S : Mem) : Prop := TapM b n r S ∧ RTp b n r (tP b n k) S
theorem nx_m {b : Nat → Nat} {n r k : Nat} {S : Mem} (h : RT b n r k S) (d : Nat) : ∃ S', cal (d + 1) 183 [vR 8 r] S = some (none, S') ∧ RT b n r (k + 1) S' ∧ FrH r S S' := by
  obtain ⟨hT, h8, h9, h7, -, -⟩ := h
  have hle := tP_le b n k
  have hq : tEp b n (tP b n k) ≤ n := by
    unfold tEp
    by_cases z : tP b n k < n
    · rw [if_pos z]; exact (tk_end z).2
    · rw [if_neg z]; exact Nat.le_refl _
  have en : nbl b n (tEp b n (tP b n k)) = tP b n (k + 1) := by
    unfold tEp
    rw [tP_s]
    by_cases z : tP b n k < n
    · rw [if_pos z, if_pos z]
    · rw [if_neg z, if_neg z]; unfold nbl; exact fstN_n
  obtain ⟨S', e', k1, k2⟩ := nx0_m d (n - tEp b n (tP b n k) + 1) (tEp b n (tP b n k)) S vU (by omega) hq hT h7
  rw [en] at k1
  have eq_ : cal (d + 1) 183 [vR 8 r] S = ev (d + 1) 183 0 [vR 8 r, vU] [] S := (B_X8_nextToken d r S).trans (B_X8_nextToken_0 d r vU S).symm
  exact ⟨S', by rw [eq_]; exact e', ⟨TapM_k hT k2, k1⟩, k2⟩
theorem nx_0 {b : Nat → Nat} {n r : Nat} {S : Mem} (hT : TapM b n r S) (e7 : rdI S r 7 = 0) (d : Nat) : ∃ S', cal (d + 1) 183 [vR 8 r] S = some (none, S') ∧ RT b n r 0 S' ∧ FrH r S S' := by
  obtain ⟨S', e', k1, k2⟩ := nx0_m d (n + 1) 0 S vU (by omega) (Nat.zero_le _) hT e7
  have eq_ : cal (d + 1) 183 [vR 8 r] S = ev (d + 1) 183 0 [vR 8 r, vU] [] S := (B_X8_nextToken d r S).trans (B_X8_nextToken_0 d r vU S).symm
  exact ⟨S', by rw [eq_]; exact e', ⟨TapM_k hT k2, k1⟩, k2⟩
