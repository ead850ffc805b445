/-! image and back -/
theorem stc_c {S : Mem} {σ σ' n : Nat} {St : Nat → AS} (hS : StC S σ n St) (hd : σ + 212 ≤ σ' ∨ σ' + 212 ≤ σ) (d : Nat) : ∃ S', cal (d + 2) 83 [vR 4 σ', vR 4 σ] S = some (none, S') ∧ StC S' σ' n St ∧ (∀ c, ¬ (σ' ≤ c ∧ c < σ' + 212) → rdI S' c = rdI S c) ∧ S'.2 = S.2 := by
  obtain ⟨f, hf, e1, e2, hn, hC⟩ := hS
  have r2 : rdI (wrI S σ' 1 0) σ 2 = nI n := by rw [rdI_wrI, if_neg (by omega)]; exact e2
  rw [B_X4_copyFrom, r2]
  generalize hS0 : wrI (wrI S σ' 1 0) σ' 2 (nI n) = S0
  have f0 : ∀ c, ¬ c = σ' → rdI S0 c = rdI S c := fun c hc => funext fun i => by rw [← hS0, rdI_wrI, if_neg (fun z => hc z.1), rdI_wrI, if_neg (fun z => hc z.1)]
  have g0 : S0.2 = S.2 := by rw [← hS0]; rfl
  have a1 : rdI S0 σ' 1 = nI 0 := by rw [← hS0, rdI_wrI, if_neg (by omega), rdI_wrI, if_pos ⟨rfl, rfl⟩]; rfl
  have a2 : rdI S0 σ' 2 = nI n := by rw [← hS0, rdI_wrI, if_pos ⟨rfl, rfl⟩]
  have lp_ : ∀ i, i ≤ n → ∃ Si, ev (d + 2) 83 15 [vR 4 σ', vR 4 σ, vI 0] [] S0 = ev (d + 2) 83 15 [vR 4 σ', vR 4 σ, vI (nI i)] [] Si ∧ (∀ c, ¬ (σ' + 1 ≤ c ∧ c < σ' + 212) → rdI Si c = rdI S0 c) ∧ Si.2 = S0.2 ∧ ∀ k, k < i → CP Si (σ' + 2 + 7 * k) (St k) := by
    intro i
    induction i with
    | zero => intro _; exact ⟨S0, rfl, fun _ _ => rfl, rfl, fun k hk => absurd hk (Nat.not_lt_zero k)⟩
    | succ i ih =>
      intro hi
      obtain ⟨Si, e, fr, g, hk⟩ := ih (by omega)
      have hm : (f + i) % 30 < 30 := Nat.mod_lt _ (by decide)
      have s1 : rdI Si σ 1 = nI f := by rw [fr σ (by omega), f0 σ (by omega)]; exact e1
      have s2 : rdI Si σ' 2 = nI n := by rw [fr σ' (by omega)]; exact a2
      have hc : CP Si (σ + 2 + 7 * ((f + i) % 30)) (St i) := CP_e (hC i (by omega)) (fun c c1 c2 => by rw [fr c (by omega), f0 c (by omega)])
      obtain ⟨e3, f3, k3⟩ := copy_c (a := σ' + 2 + 7 * i) (b := σ + 2 + 7 * ((f + i) % 30)) (by omega) d Si
      have e3' : cal (d + 1) 5 [vR 1 (σ' + 1 + 1 + 7 * i), vR 1 (σ + 2 + 7 * ((f + i) % 30))] Si = _ := e3
      rw [e, B_X4_copyFrom_15, s2, if_neg (show ¬ nI n ≤ nI i from fun z => by have := (nI_leI (by omega) (by omega)).mp z; omega), if_neg (n30 (by omega)), inb_t (by omega) (by decide), gd_t, stepAt_c _ σ f i (by omega) (by omega) s1, bR_s, ix_nI (by omega), e3', bV_s, nI_1]
      refine ⟨_, rfl, fun c hc' => by rw [f3.1 c (by omega), fr c hc'], f3.2.trans g, fun k hk' => ?_⟩
      by_cases z : k = i
      · subst z; exact k3 _ hc
      · exact CP_e (hk k (by omega)) (fun c c1 c2 => f3.1 c (by omega))
  obtain ⟨Sn, e, fr, g, hk⟩ := lp_ n (Nat.le_refl n)
  have s2 : rdI Sn σ' 2 = nI n := by rw [fr σ' (by omega)]; exact a2
  rw [e, B_X4_copyFrom_15, s2, if_pos (Int32.le_refl _)]
  refine ⟨Sn, rfl, ⟨0, by decide, by rw [fr σ' (by omega)]; exact a1, s2, hn, fun i hi => ?_⟩, fun c hc => by rw [fr c (by omega), f0 c (by omega)], g.trans g0⟩
  rw [show (0 + i) % 30 = i by omega]
  exact hk i hi
theorem cc_c {S : Mem} {w w' : Nat} {W : WSt} (h : WC S w W) (hk8 : W.2.2.2.1 ≤ 8) (hd : w + 221 ≤ w' ∨ w' + 221 ≤ w) (d : Nat) : ∃ S', cal (d + 3) 98 [vR 6 w', vR 6 w] S = some (none, S') ∧ WC S' w' W ∧ WC S' w W ∧ (∀ c, ¬ (w' ≤ c ∧ c < w' + 221) → rdI S' c = rdI S c) ∧ S'.2 = S.2 := by
  obtain ⟨h1, h2, h3, h4, h5, h6⟩ := h
  obtain ⟨e1, f1, k1⟩ := copy_c (a := w' + 1) (b := w + 1) (by omega) (d + 1) S
  have c1 := k1 _ h1
  generalize cpA (w' + 1) (w + 1) S = S1 at e1 f1 c1
  have h2' : StC S1 (w + 8) W.2.1.1 W.2.1.2 := StC_k h2 (fun c a1 a2 => f1.1 c (by omega))
  obtain ⟨S2, e2, c2, f2, g2⟩ := stc_c (σ' := w' + 8) h2' (by omega) d
  have fr2 : ∀ c, ¬ (w' ≤ c ∧ c < w' + 221) → rdI S2 c = rdI S c := fun c hc => by rw [f2 c (by omega), f1.1 c (by omega)]
  have c1' : CP S2 (w' + 1) W.1 := CP_e c1 (fun c a1 a2 => f2 c (by omega))
  have em : cal (d + 3) 98 [vR 6 w', vR 6 w] S = some (none, sc w' w 5 (sc w' w 4 (sc w' w 3 (cr w' w 220 8 S2)))) := by
    have e1' : cal (d + 2) 5 [vR 1 (w' + 1), vR 1 (w + 1)] S = _ := e1
    rw [B_X6_copyFrom, e1', bV_s, e2, bV_s, gd_p (show acg 0 0 8 8 8 = true by decide)]
    rfl
  have rd : ∀ c i, rdI (sc w' w 5 (sc w' w 4 (sc w' w 3 (cr w' w 220 8 S2)))) c i = if c = w' ∧ i = 5 then rdI S w 5 else if c = w' ∧ i = 4 then rdI S w 4 else if c = w' ∧ i = 3 then rdI S w 3 else if c = w' + 220 ∧ i < 8 then rdI S (w + 220) i else rdI S2 c i := fun c i => by
    have q : ∀ j, rdI (cr w' w 220 8 S2) w j = rdI S w j := fun j => by rw [rdI_cr, if_neg (by omega), fr2 w (by omega)]
    have q4 : rdI (sc w' w 3 (cr w' w 220 8 S2)) w 4 = rdI S w 4 := by rw [rdI_sc, if_neg (by omega), q]
    have q5 : rdI (sc w' w 4 (sc w' w 3 (cr w' w 220 8 S2))) w 5 = rdI S w 5 := by rw [rdI_sc, if_neg (by omega), rdI_sc, if_neg (by omega), q]
    rw [rdI_sc w' w 5, q5, rdI_sc w' w 4, q4, rdI_sc w' w 3, q, rdI_cr, fr2 (w + 220) (by omega)]
  have gq : (sc w' w 5 (sc w' w 4 (sc w' w 3 (cr w' w 220 8 S2)))).2 = S2.2 := rfl
  generalize sc w' w 5 (sc w' w 4 (sc w' w 3 (cr w' w 220 8 S2))) = S' at em rd gq
  have fo : ∀ c, ¬ c = w' → ¬ c = w' + 220 → rdI S' c = rdI S2 c := fun c a1 a2 => funext fun i => by rw [rd, if_neg (fun z => a1 z.1), if_neg (fun z => a1 z.1), if_neg (fun z => a1 z.1), if_neg (fun z => a2 z.1)]
  have fr : ∀ c, ¬ (w' ≤ c ∧ c < w' + 221) → rdI S' c = rdI S c := fun c hc => by rw [fo c (by omega) (by omega), fr2 c hc]
  have g' : S'.2 = S.2 := gq.trans (g2.trans f1.2)
  refine ⟨S', em, ⟨CP_e c1' (fun c a1 a2 => fo c (by omega) (by omega)), StC_k c2 (fun c a1 a2 => fo c (by omega) (by omega)), ?_, ?_, ?_, fun i hi => ?_⟩, WC_k ⟨h1, h2, h3, h4, h5, h6⟩ (fun c a1 a2 => fr c (by omega)), fr, g'⟩
  · rw [rd, if_neg (by omega), if_pos ⟨rfl, rfl⟩]; exact h3
  · rw [rd, if_pos ⟨rfl, rfl⟩]; exact h4
  · rw [rd, if_neg (by omega), if_neg (by omega), if_pos ⟨rfl, rfl⟩]; exact h5
  · rw [rd, if_neg (by omega), if_neg (by omega), if_neg (by omega), if_pos ⟨rfl, by omega⟩]; exact h6 i hi
/-- the reference's copy of all its numbers -/
theorem cp157_2 (d c c' : Nat) (a : Int32) (S : Mem) : ev d 157 2 [vR 113669 c, vR 113669 c', vI a] [] S = if 13669 ≤ a then some (none, S) else gd (inb a 13669) (gd (inb a 13669) (ev d 157 2 [vR 113669 c, vR 113669 c', vI (a + 1)] [] (wrI S c' (ix a) (rdI S c (ix a))))) := B_X8_copy_2 d 13669 (by decide) c 13669 (by decide) c' a S
theorem cp157 (d c c' : Nat) (S : Mem) : cal d 157 [vR 113669 c, vR 113669 c'] S = ev d 157 2 [vR 113669 c, vR 113669 c', vI 0] [] S := B_X8_copy d 13669 (by decide) c 13669 (by decide) c' S
theorem mc_s (c c' n : Nat) (S : Mem) : mc c 0 c' 0 (n + 1) S = wrI (mc c 0 c' 0 n S) c' n (rdI (mc c 0 c' 0 n S) c n) := by
  show wrI (mc c 0 c' 0 n S) c' (0 + n) (rdI (mc c 0 c' 0 n S) c (0 + n)) = _
  rw [Nat.zero_add]
theorem cp_m (d c c' : Nat) (S : Mem) : cal d 157 [vR 113669 c, vR 113669 c'] S = some (none, mc c 0 c' 0 13669 S) := by
  have lp_ : ∀ n, n ≤ 13669 → ev d 157 2 [vR 113669 c, vR 113669 c', vI 0] [] S = ev d 157 2 [vR 113669 c, vR 113669 c', vI (nI n)] [] (mc c 0 c' 0 n S) := by
    intro n
    induction n with
    | zero => intro _; rfl
    | succ n ih =>
      intro hn
      rw [ih (by omega), cp157_2, if_neg (show ¬ (13669 : Int32) ≤ nI n from nI_ge (b := 13669) (by omega) (by decide)), i13 (by omega), gd_t, gd_t, ix_nI (by omega), nI_1, mc_s]
  rw [cp157, lp_ 13669 (Nat.le_refl _), cp157_2, if_pos (show (13669 : Int32) ≤ nI 13669 from Int32.le_refl _)]
theorem RP_cc {c c' o : Nat} {S S' : Mem} {A : AS} (h : RP S c o A) (e : ∀ i, o ≤ i → i < o + 440 → rdI S' c' i = rdI S c i) : RP S' c' o A := by
  refine ⟨fun k i hk h3 hi => ?_, fun p i hp ho hi => ?_⟩
  · have := off_lt hk hi
    rw [e _ (by omega) (by omega)]; exact h.1 k i hk h3 hi
  · rw [e _ (by omega) (by omega)]; exact h.2 p i hp ho hi
theorem WM_cc {c c' : Nat} {S S' : Mem} {W : WSt} (h : WM S c W) (hk8 : W.2.2.2.1 ≤ 8) (e : ∀ i, i < 13669 → rdI S' c' i = rdI S c i) : WM S' c' W := by
  obtain ⟨h1, ⟨f, hf, s1, s2, hn, hC⟩, h3, h4, h5, h6⟩ := h
  refine ⟨RP_cc h1 (fun i i1 i2 => e i (by omega)), ⟨f, hf, by rw [e 468 (by decide)]; exact s1, by rw [e 2 (by decide)]; exact s2, hn, fun i hi => RP_cc (hC i hi) (fun j j1 j2 => e j ?_)⟩, by rw [e 0 (by decide)]; exact h3, by rw [e 1 (by decide)]; exact h4, by rw [e 3 (by decide)]; exact h5, fun i hi => ?_⟩
  · have hm : (f + i) % 30 < 30 := Nat.mod_lt _ (by decide)
    omega
  · rw [e _ (by omega), e _ (by omega), e _ (by omega)]; exact h6 i hi
/-! image, back -/
def imS (Z : Zs) : Zs := (Z.1, (Z.1, Z.2.2))
def baS (Z : Zs) : Zs := (Z.2.1, (Z.2.1, Z.2.2))
theorem im_I {Z : Zs} (I : ZI Z) : ZI (imS Z) := ⟨I.1, I.1, Nat.le_refl _, I.2.2.2.1, I.2.2.2.2⟩
theorem ba_I {Z : Zs} (I : ZI Z) : ZI (baS Z) := ⟨I.2.1, I.2.1, Nat.le_refl _, fun j hj => I.2.2.2.1 j (Nat.lt_of_lt_of_le hj I.2.2.1), I.2.2.2.2⟩
theorem im_c {S : Mem} {x : Nat} {Z : Zs} (h : ClR S x Z) (I : ZI Z) (d : Nat) : OwC x S (cal (d + 9) 145 [vR 7 x] S) (zA Z 0 0) (imS Z) := by
  obtain ⟨S', e, w1, w2, f, g⟩ := cc_c (w := x + 27) (w' := x + 248) h.1 I.1.2.2.2.2.2.1 (by omega) (d + 5)
  have e' : cal (d + 8) 98 [vR 6 (x + 248), vR 6 (x + 27)] S = _ := e
  rw [B_X7_image, e', bV_s, show rdI S' (x + 27 + 1) 0 = zA Z 0 0 from c0 w2.1 (by decide)]
  obtain ⟨h1, h2, h3, h4, h5⟩ := h
  refine ⟨S', rfl, ⟨w2, w1, fun j hj => TxC_k (h3 j hj) (fun c c1 c2 => f c (by omega)), ⟨LC_k h4.1 (fun c c1 c2 => f c (by omega)), LC_k h4.2 (fun c c1 c2 => f c (by omega))⟩, ?_⟩, fun c hc => f c (by omega), g⟩
  show TpC S' x Z.2.2.2
  unfold TpC at h5 ⊢
  rw [f (x + 1) (by omega), f (x + 1 + 1) (by omega)]; exact h5
theorem ba_c {S : Mem} {x : Nat} {Z : Zs} (h : ClR S x Z) (I : ZI Z) (d : Nat) : OwC x S (cal (d + 9) 146 [vR 7 x] S) (zA (baS Z) 0 0) (baS Z) := by
  obtain ⟨S', e, w1, w2, f, g⟩ := cc_c (w := x + 248) (w' := x + 27) h.2.1 I.2.1.2.2.2.2.2.1 (by omega) (d + 5)
  have e' : cal (d + 8) 98 [vR 6 (x + 27), vR 6 (x + 248)] S = _ := e
  rw [B_X7_back, e', bV_s, show rdI S' (x + 27 + 1) 0 = zA (baS Z) 0 0 from c0 w1.1 (by decide)]
  obtain ⟨h1, h2, h3, h4, h5⟩ := h
  refine ⟨S', rfl, ⟨w1, w2, fun j hj => TxC_k (h3 j (Nat.lt_of_lt_of_le hj I.2.2.1)) (fun c c1 c2 => f c (by omega)), ⟨LC_k h4.1 (fun c c1 c2 => f c (by omega)), LC_k h4.2 (fun c c1 c2 => f c (by omega))⟩, ?_⟩, fun c hc => f c (by omega), g⟩
  show TpC S' x Z.2.2.2
  unfold TpC at h5 ⊢
  rw [f (x + 1) (by omega), f (x + 1 + 1) (by omega)]; exact h5
theorem im_m {S : Mem} {r : Nat} {Z : Zs} (h : MoR S r Z) (I : ZI Z) (d : Nat) : OwM r S (cal (d + 9) 315 [vR 8 r] S) (zA Z 0 0) (imS Z) := by
  have e' : cal (d + 8) 157 [vR 113669 (r + 1), vR 113669 (r + 2)] S = _ := cp_m (d + 8) (r + 1) (r + 2) S
  have rd := rdI_mc (c := r + 1) (o := 0) (c' := r + 2) (o' := 0) S 13669 (fun z => by omega)
  have g := mc_2 (r + 1) 0 (r + 2) 0 S 13669
  rw [B_X8_image, e', bV_s]
  generalize mc (r + 1) 0 (r + 2) 0 13669 S = S' at rd g
  have fo : ∀ c, ¬ c = r + 2 → rdI S' c = rdI S c := fun c hc => funext fun i => by rw [rd, if_neg (fun z => hc z.1)]
  have fi : ∀ i, i < 13669 → rdI S' (r + 2) i = rdI S (r + 1) i := fun i hi => by rw [rd, if_pos ⟨rfl, by omega, by omega⟩, Nat.zero_add, Nat.sub_zero]
  obtain ⟨h1, h2, h3, h5⟩ := h
  have w1 : WM S' (r + 1) Z.1 := WM_k h1 (fun i => congrFun (fo (r + 1) (by omega)) i)
  rw [i13_4, gd_t, x13_4, show rdI S' (r + 1) 4 = zA Z 0 0 from m0 w1.1 (j := 0) (by decide)]
  refine ⟨S', rfl, ⟨w1, WM_cc h1 I.1.2.2.2.2.2.1 fi, fun j hj => TxM_k (h3 j hj) (fo _ (by omega)), ?_⟩, fun c i hc => congrFun (fo c (by omega)) i, congrArg Prod.snd g⟩
  show TpM S' r Z.2.2.2
  unfold TpM at h5 ⊢
  rw [fo r (by omega), fo (r + 4) (by omega)]; exact h5
theorem ba_m {S : Mem} {r : Nat} {Z : Zs} (h : MoR S r Z) (I : ZI Z) (d : Nat) : OwM r S (cal (d + 9) 316 [vR 8 r] S) (zA (baS Z) 0 0) (baS Z) := by
  have e' : cal (d + 8) 157 [vR 113669 (r + 2), vR 113669 (r + 1)] S = _ := cp_m (d + 8) (r + 2) (r + 1) S
  have rd := rdI_mc (c := r + 2) (o := 0) (c' := r + 1) (o' := 0) S 13669 (fun z => by omega)
  have g := mc_2 (r + 2) 0 (r + 1) 0 S 13669
  rw [B_X8_back, e', bV_s]
  generalize mc (r + 2) 0 (r + 1) 0 13669 S = S' at rd g
  have fo : ∀ c, ¬ c = r + 1 → rdI S' c = rdI S c := fun c hc => funext fun i => by rw [rd, if_neg (fun z => hc z.1)]
  have fi : ∀ i, i < 13669 → rdI S' (r + 1) i = rdI S (r + 2) i := fun i hi => by rw [rd, if_pos ⟨rfl, by omega, by omega⟩, Nat.zero_add, Nat.sub_zero]
  obtain ⟨h1, h2, h3, h5⟩ := h
  have w1 : WM S' (r + 1) Z.2.1 := WM_cc h2 I.2.1.2.2.2.2.2.1 fi
  rw [i13_4, gd_t, x13_4, show rdI S' (r + 1) 4 = zA (baS Z) 0 0 from m0 w1.1 (j := 0) (by decide)]
  refine ⟨S', rfl, ⟨w1, WM_k h2 (fun i => congrFun (fo (r + 2) (by omega)) i), fun j hj => TxM_k (h3 j (Nat.lt_of_lt_of_le hj I.2.2.1)) (fo _ (by omega)), ?_⟩, fun c i hc => congrFun (fo c (by omega)) i, congrArg Prod.snd g⟩
  show TpM S' r Z.2.2.2
  unfold TpM at h5 ⊢
  rw [fo r (by omega), fo (r + 4) (by omega)]; exact h5
