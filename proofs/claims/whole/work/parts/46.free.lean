/-! freeing and writing -/
theorem nI_tn (y : Int32) : y = nI y.toBitVec.toNat := by
  have h : y.toBitVec.toNat < 2 ^ 32 := y.toBitVec.isLt
  have e : (nI y.toBitVec.toNat).toBitVec.toNat = y.toBitVec.toNat := pk_tn h
  exact Int32.toBitVec_inj.mp (BitVec.eq_of_toNat_eq e.symm)
theorem and_ok {k : Nat} (hk : k < 65536) (y : Int32) : ∃ j : Nat, j < 65536 ∧ nI k &&& y = nI j := by
  rw [nI_tn y, nI_and]
  exact ⟨_, Nat.lt_of_le_of_lt Nat.and_le_left hk, rfl⟩
theorem reach_facts {A : AS} (I : Inv A) {a : Int32} (h : fReach (A 1) (A 2) (A 0 3) a = true) : ∃ q f, q < 192 ∧ a = nI q ∧ f < 12 ∧ A 1 (q / 16) = nI f ∧ ¬ A 1 (q / 16) = A 0 3 := by
  unfold fReach at h
  rw [Bool.and_eq_true] at h
  obtain ⟨h1, h2⟩ := h
  unfold fLive at h1
  rw [Bool.and_eq_true] at h1
  obtain ⟨q, hq, rfl⟩ := inb_ex h1.1 (by decide)
  have hb := of_decide_eq_true h1.2
  rw [div16 (by omega), ix_nI (by omega)] at hb
  have ho : ¬ A 1 (q / 16) = -1 := by
    intro z
    rw [iLF I (q / 16) (by omega) z] at hb
    have e : ∀ k : Int32, shrI 0 k = 0 := fun k => Int32.zero_shiftRight
    rw [e] at hb
    exact absurd hb (by decide)
  obtain ⟨f, hf, ef⟩ := fr_ex (IvP_of I 0) (by omega) ho
  refine ⟨q, f, hq, rfl, hf, ef, fun z => ?_⟩
  rw [div16 (by omega)] at h2
  unfold fFenced at h2
  rw [fOpen_nI (by omega), x12 (by omega), decide_eq_true ho, decide_eq_true z] at h2
  cases h2
def frV (q : Nat) (A : AS) : Int32 := A 4 (ix (A 1 (q / 16)) * 16 + q % 16)
def frB (q : Nat) (A : AS) : AS := up A 2 (q / 16) (A 2 (q / 16) &&& (shlI 1 (nI (q % 16)) ^^^ -1))
def freeA (q : Nat) (A : AS) : AS := if frB q A 2 (q / 16) = 0 then up (wdA 1 (q / 16) (ix (A 1 (q / 16))) (frB q A)) 1 (q / 16) (-1) else frB q A
def wrA (q : Nat) (v : Int32) (A : AS) : AS := up A 4 (ix (A 1 (q / 16)) * 16 + q % 16) v
theorem val_e {A : AS} {q f : Nat} (hq : q < 192) (hf : f < 12) (e : A 1 (q / 16) = nI f) : fValAt (A 1) (A 4) (nI q) = frV q A ∧ fCell (A 1) (nI q) = nI (f * 16 + q % 16) ∧ (inb (nI q) 192 = true ∧ fOpen (A 1) (nI q / 16) = true) := by
  have ho : inb (nI q) 192 = true ∧ fOpen (A 1) (nI q / 16) = true := by
    rw [div16 (by omega), fOpen_nI (by omega), e]
    exact ⟨inb_t hq (by decide), decide_eq_true (nI_m1 (by omega))⟩
  have hc : fCell (A 1) (nI q) = nI (f * 16 + q % 16) := by
    unfold fCell
    rw [if_pos ho, div16 (by omega), rem16 (by omega), ix_nI (by omega), e]
    show nI f * nI 16 + nI (q % 16) = _
    rw [pk_mul, nI_add]
  refine ⟨?_, hc, ho⟩
  unfold fValAt frV
  rw [if_pos ho, hc, ix_nI (by omega), e, ix_nI (by omega)]
theorem frV_ok {A : AS} (I : Inv A) {q f : Nat} (hf : f < 12) (e : A 1 (q / 16) = nI f) : ∃ v, v < 1000 ∧ frV q A = nI v := by
  unfold frV
  rw [e, ix_nI (by omega)]
  exact iW I _ (by omega)
theorem frB_2 (q : Nat) (A : AS) (p : Nat) : frB q A 2 p = if p = q / 16 then A 2 (q / 16) &&& (shlI 1 (nI (q % 16)) ^^^ -1) else A 2 p := by
  unfold frB up
  by_cases e : p = q / 16
  · rw [if_pos ⟨rfl, e⟩, if_pos e]
  · rw [if_neg (fun z => e z.2), if_neg e]
theorem frB_k (q : Nat) (A : AS) {a : Nat} (h : ¬ a = 2) : frB q A a = A a := up_k h
theorem free_Inv {A : AS} (I : Inv A) {q f : Nat} (hq : q < 192) (hf : f < 12) (e : A 1 (q / 16) = nI f) (hg : ¬ A 1 (q / 16) = A 0 3) : Inv (freeA q A) := by
  obtain ⟨i1, i2, i3, i4, i5, i6, i7, i8, i9, i10⟩ := I
  have hp : q / 16 < 12 := by omega
  have ho : ¬ A 1 (q / 16) = -1 := by rw [e]; exact nI_m1 (by omega)
  have b1 : frB q A 1 = A 1 := frB_k q A (by decide)
  have b0 : frB q A 0 = A 0 := frB_k q A (by decide)
  have b3 : frB q A 3 = A 3 := frB_k q A (by decide)
  have b4 : frB q A 4 = A 4 := frB_k q A (by decide)
  have j2 : LvOK (frB q A 2) := fun p hp' => by
    rw [frB_2]
    by_cases z : p = q / 16
    · rw [if_pos z]
      obtain ⟨k, hk, ek⟩ := i2 (q / 16) hp
      rw [ek]; exact and_ok hk _
    · rw [if_neg z]; exact i2 p hp'
  have jg : ∀ g, ¬ A 1 (q / 16) = nI g → mLiveIn (A 1) (frB q A 2) (nI g) = mLiveIn (A 1) (A 2) (nI g) := fun g hgg => mLiveIn_g (fun p hp' => ⟨Iff.rfl, fun z => by rw [frB_2, if_neg (fun y => hgg (by rw [← y]; exact z))]⟩)
  unfold freeA
  by_cases hz : frB q A 2 (q / 16) = 0
  · rw [if_pos hz]
    have k1 : ∀ p, up (wdA 1 (q / 16) (ix (A 1 (q / 16))) (frB q A)) 1 (q / 16) (-1) 1 p = if p = q / 16 then -1 else A 1 p := fun p => by
      unfold up
      by_cases z : p = q / 16
      · rw [if_pos ⟨rfl, z⟩, if_pos z]
      · rw [if_neg (fun y => z y.2), if_neg z, wdA_k _ _ _ _ (by decide) (by decide), b1]
    have k2 : up (wdA 1 (q / 16) (ix (A 1 (q / 16))) (frB q A)) 1 (q / 16) (-1) 2 = frB q A 2 := by rw [up_k (by decide), wdA_k _ _ _ _ (by decide) (by decide)]
    have k3 : up (wdA 1 (q / 16) (ix (A 1 (q / 16))) (frB q A)) 1 (q / 16) (-1) 3 = A 3 := by rw [up_k (by decide), wdA_k _ _ _ _ (by decide) (by decide), b3]
    have k4 : up (wdA 1 (q / 16) (ix (A 1 (q / 16))) (frB q A)) 1 (q / 16) (-1) 4 = A 4 := by rw [up_k (by decide), wdA_k _ _ _ _ (by decide) (by decide), b4]
    have k0 : ∀ j, ¬ j = 6 → up (wdA 1 (q / 16) (ix (A 1 (q / 16))) (frB q A)) 1 (q / 16) (-1) 0 j = A 0 j := fun j hj => by rw [up_k (by decide), wdA_o _ _ _ _ (by decide) (by omega), b0]
    refine ⟨fun p hp' => ?_, by rw [k2]; exact j2, fun p hp' hc => ?_, fun p hp' hc => ?_, ?_, ?_, DOK_c (k0 0 (by decide)) i7, fun p hp' hc => ?_, by unfold VlOK; rw [k4]; exact i9, ?_⟩
    · rw [k1]
      by_cases z : p = q / 16
      · rw [if_pos z]; exact Or.inl rfl
      · rw [if_neg z]; exact i1 p hp'
    · rw [k2]
      by_cases z : p = q / 16
      · rw [z]; exact hz
      · rw [k1, if_neg z] at hc
        rw [frB_2, if_neg z]; exact i3 p hp' hc
    · rw [k1] at hc
      by_cases z : p = q / 16
      · rw [if_pos z] at hc; exact absurd rfl hc
      · rw [if_neg z] at hc
        rw [k2, frB_2, if_neg z]; exact i4 p hp' hc
    · rcases i5 with z | ⟨g, st, m, k, h1, h2, h3, h4, h5, h6, h7, h8, h9, h10, h11⟩
      · exact Or.inl (by rw [k0 3 (by decide), k0 4 (by decide), k0 5 (by decide)]; exact z)
      · have hgg : ¬ A 1 (q / 16) = nI g := fun y => hg (y.trans h6.symm)
        refine Or.inr ⟨g, st, m, k, h1, h2, h3, h4, h5, by rw [k0 3 (by decide)]; exact h6, by rw [k0 4 (by decide)]; exact h7, by rw [k0 5 (by decide)]; exact h8, ?_, ?_, h11⟩
        · refine mUsed_g (fun p hp' z => ?_) h9
          rw [k1, if_neg (fun y => hgg (by rw [← y]; exact z))]; exact z
        · rw [← h10, ← jg g hgg]
          refine mLiveIn_g (fun p hp' => ?_)
          rw [k2, k1]
          refine ⟨?_, fun _ => rfl⟩
          by_cases z : p = q / 16
          · rw [if_pos z, z]
            exact ⟨fun y => absurd y.symm (nI_m1 (by omega)), fun y => absurd y hgg⟩
          · rw [if_neg z]
    · obtain ⟨k, hk, ek⟩ := i6
      exact ⟨k, hk, (k0 1 (by decide)).trans ek⟩
    · rw [k1] at hc
      by_cases z : p = q / 16
      · rw [if_pos z] at hc; exact absurd rfl hc
      · rw [if_neg z] at hc
        rw [k3]; exact i8 p hp' hc
    · obtain ⟨n, hn, en⟩ := wd_LnOK 1 (q / 16) (ix (A 1 (q / 16))) (A := frB q A) (by unfold LnOK; rw [b0]; exact i10)
      exact ⟨n, hn, by rw [up_k (by decide)]; exact en⟩
  · rw [if_neg hz]
    refine ⟨by rw [b1]; exact i1, j2, fun p hp' hc => ?_, fun p hp' hc => ?_, ?_, by unfold XOK; rw [b0]; exact i6, by unfold DOK; rw [b0]; exact i7, by unfold VcOK; rw [b1, b3]; exact i8, by unfold VlOK; rw [b4]; exact i9, by unfold LnOK; rw [b0]; exact i10⟩
    · rw [b1] at hc
      by_cases z : p = q / 16
      · rw [z] at hc; exact absurd hc ho
      · rw [frB_2, if_neg z]; exact i3 p hp' hc
    · rw [b1] at hc
      by_cases z : p = q / 16
      · rw [z]; exact hz
      · rw [frB_2, if_neg z]; exact i4 p hp' hc
    · rcases i5 with z | ⟨g, st, m, k, h1, h2, h3, h4, h5, h6, h7, h8, h9, h10, h11⟩
      · exact Or.inl (by rw [b0]; exact z)
      · refine Or.inr ⟨g, st, m, k, h1, h2, h3, h4, h5, by rw [b0]; exact h6, by rw [b0]; exact h7, by rw [b0]; exact h8, by rw [b1]; exact h9, ?_, h11⟩
        rw [b1, jg g (fun y => hg (y.trans h6.symm))]; exact h10
theorem wr_Inv {A : AS} (I : Inv A) (q : Nat) {v : Int32} (hv : ∃ w : Nat, w < 1000 ∧ v = nI w) : Inv (wrA q v A) := by
  obtain ⟨i1, i2, i3, i4, i5, i6, i7, i8, i9, i10⟩ := I
  have k0 : wrA q v A 0 = A 0 := up_k (by decide)
  have k1 : wrA q v A 1 = A 1 := up_k (by decide)
  have k2 : wrA q v A 2 = A 2 := up_k (by decide)
  have k3 : wrA q v A 3 = A 3 := up_k (by decide)
  refine ⟨by rw [k1]; exact i1, by rw [k2]; exact i2, by rw [k1, k2]; exact i3, by rw [k1, k2]; exact i4, by unfold GSOK; rw [k0, k1, k2]; exact i5, by unfold XOK; rw [k0]; exact i6, by unfold DOK; rw [k0]; exact i7, by unfold VcOK; rw [k1, k3]; exact i8, fun i hi => ?_, by unfold LnOK; rw [k0]; exact i10⟩
  unfold wrA up
  by_cases e : (4 = 4 ∧ i = ix (A 1 (q / 16)) * 16 + q % 16)
  · rw [if_pos e]; exact hv
  · rw [if_neg e]; exact i9 i hi
theorem free_c {S : Mem} {t : Nat} {A : AS} (h : CP S t A) (I : Inv A) {q : Nat} (hr : fReach (A 1) (A 2) (A 0 3) (nI q) = true) (hq : q < 192) (d : Nat) : ∃ S', cal (d + 3) 29 [vR 1 t, vI (nI q)] S = some (some (vI (frV q A)), S') ∧ CP S' t (freeA q A) ∧ FrC t S S' := by
  obtain ⟨q', f, hq', eq, hf, ef, hg⟩ := reach_facts I hr
  have eqq : q' = q := ((nI_eq (by omega) (by omega)).mp eq).symm
  subst eqq
  obtain ⟨ev, -, -⟩ := val_e hq hf ef
  have hp : q' / 16 < 12 := by omega
  have hb1 : b2i true = 1 := rfl
  rw [B_X1_freeAt, kc_reach h, bI_s, hr, ite_b0, if_neg (by decide), kc_valueAt h I, bI_s, gd_p nz16, div16 (by omega), i12 hp, gd_t, gd_p nz16, gd_t, gd_t, x12 hp, rem16 (by omega), c2 h _ hp, ev]
  have h2 := CP_w h (k := 2) (i := q' / 16) (by decide) (by omega) (A 2 (q' / 16) &&& (shlI 1 (nI (q' % 16)) ^^^ -1))
  have f2 : FrC t S (wrI S (t + 2) (q' / 16) (A 2 (q' / 16) &&& (shlI 1 (nI (q' % 16)) ^^^ -1))) := FrC_w (by omega) (by omega)
  have e2 := c2 h2 _ hp
  have e1 : rdI (wrI S (t + 2) (q' / 16) (A 2 (q' / 16) &&& (shlI 1 (nI (q' % 16)) ^^^ -1))) (t + 1) (q' / 16) = nI f := by rw [rdI_wrI, if_neg (by omega), c1 h _ hp, ef]
  rw [e2, e1]
  have eB : up A 2 (q' / 16) (A 2 (q' / 16) &&& (shlI 1 (nI (q' % 16)) ^^^ -1)) = frB q' A := rfl
  rw [eB] at h2 ⊢
  unfold freeA
  by_cases hz : frB q' A 2 (q' / 16) = 0
  · have hD : DOK (frB q' A) := by unfold DOK; rw [frB_k q' A (by decide)]; exact iD I
    obtain ⟨S3, e3, h3, f3⟩ := wd_c h2 hD (d + 1) (k := 1) (x := q' / 16) (y := f) (by decide) hp hf
    have e3' : cal (d + 2) 21 [vR 1 t, vI 1, vI (nI (q' / 16)), vI (nI f)] (wrI S (t + 2) (q' / 16) (A 2 (q' / 16) &&& (shlI 1 (nI (q' % 16)) ^^^ -1))) = some (none, S3) := e3
    rw [if_pos hz, e3', bV_s, if_pos hz, ef, ix_nI (by omega)]
    exact ⟨_, rfl, CP_w h3 (k := 1) (by decide) (by omega) _, FrC_t (FrC_t f2 f3) (FrC_w (by omega) (by omega))⟩
  · rw [if_neg hz, if_neg hz]
    exact ⟨_, rfl, h2, f2⟩
theorem RP_vec {S : Mem} {c o : Nat} {A : AS} (h : RP S c o A) {p i : Nat} (hp : p < 12) (hi : i < 16) (hc : A 1 p = -1) (v : Int32) : RP (wrI S c (o + (31 + (p * 16 + i))) v) c o A := by
  refine ⟨fun k' i' hk' h3' hi' => ?_, fun p' j hp' ho hj => ?_⟩
  · rw [rdI_wrI, if_neg (fun z => h3' (off_inj (k' := 3) (i' := p * 16 + i) hk' (by omega) hi' (by show _ < 192; omega) (by show _ = 31 + _; omega)).1)]
    exact h.1 k' i' hk' h3' hi'
  · have hne : ¬ p' = p := fun z => ho (by rw [z]; exact hc)
    rw [rdI_wrI, if_neg (by omega)]
    exact h.2 p' j hp' ho hj
theorem zvec {S : Mem} {r : Nat} {A : AS} (h : RP S (r + 1) 4 A) {p : Nat} (hp : p < 12) (hc : A 1 p = -1) (d : Nat) (u1 u3 : AV) (v : Int32) : ∃ S', ev (d + 1) 239 78 [vR 8 r, u1, vI (nI p), u3, vI v, vI 0] [] S = some (some (vI v), S') ∧ RP S' (r + 1) 4 A ∧ FrM r S S' := by
  have key : ∀ n, n ≤ 16 → ∀ (u1 u3 : AV) (S : Mem), RP S (r + 1) 4 A → ∃ S', ev (d + 1) 239 78 [vR 8 r, u1, vI (nI p), u3, vI v, vI (nI (16 - n))] [] S = some (some (vI v), S') ∧ RP S' (r + 1) 4 A ∧ FrM r S S' := by
    intro n
    induction n with
    | zero => intro _ u1 u3 S h; exact ⟨S, by rw [B_X8_freeNow_78, if_pos (show (16 : Int32) ≤ nI (16 - 0) by decide)], h, FrM_r⟩
    | succ n ih =>
      intro hn u1 u3 S h
      have ea : ((35 : Int32) + 16 * nI p) + nI (16 - (n + 1)) = nI (35 + (p * 16 + (16 - (n + 1)))) := by
        show (nI 35 + nI 16 * nI p) + nI (16 - (n + 1)) = _
        rw [pk_mul, nI_add, nI_add]; congr 1; omega
      have h2 := RP_vec h hp (i := 16 - (n + 1)) (by omega) hc 0
      rw [show 4 + (31 + (p * 16 + (16 - (n + 1)))) = 35 + (p * 16 + (16 - (n + 1))) by omega] at h2
      obtain ⟨S', e', h', f'⟩ := ih (by omega) vU vU _ h2
      rw [show 16 - n = 16 - (n + 1) + 1 by omega] at e'
      exact ⟨S', by rw [B_X8_freeNow_78, if_neg (n16 (by omega)), ea, i13 (by omega), gd_t, ix_nI (by omega), nI_1]; exact e', h', FrM_t (FrM_w (by omega) (by omega)) f'⟩
  exact key 16 (Nat.le_refl _) u1 u3 S h
theorem free_m {S : Mem} {r : Nat} {A : AS} (h : RP S (r + 1) 4 A) (I : Inv A) {q : Nat} (hr : fReach (A 1) (A 2) (A 0 3) (nI q) = true) (hq : q < 192) (d : Nat) : ∃ S', cal (d + 1) 239 [vR 8 r, vI (nI q)] S = some (some (vI (frV q A)), S') ∧ RP S' (r + 1) 4 (freeA q A) ∧ FrM r S S' := by
  obtain ⟨q', f, hq', eq, hf, ef, hg⟩ := reach_facts I hr
  have eqq : q' = q := ((nI_eq (by omega) (by omega)).mp eq).symm
  subst eqq
  have hp : q' / 16 < 12 := by omega
  have e11 : rdI S (r + 1) (11 + q' / 16) = nI f := (m1 h _ hp).trans ef
  have e23 : rdI S (r + 1) (23 + q' / 16) = A 2 (q' / 16) := m2 h _ hp
  have ev : A 4 (f * 16 + q' % 16) = frV q' A := by unfold frV; rw [ef, ix_nI (by omega)]
  rw [B_X8_freeNow, gd_p nz16, div16 (by omega), a11, i13 (by omega), gd_t, gd_p nz16, rem16 (by omega), ix_nI (by omega), e11, km_valueAt h d hf (by omega), bI_s, a23, i13 (by omega), gd_t, gd_p nz16, gd_t, gd_t, ix_nI (by omega), e23, ev]
  have h2 := RP_w h (k := 2) (i := q' / 16) (by decide) (by decide) (by show _ < 12; omega) (A 2 (q' / 16) &&& (shlI 1 (nI (q' % 16)) ^^^ -1)) (fun z => absurd z (by decide))
  rw [show 4 + (off 2 + q' / 16) = 23 + q' / 16 by show 4 + (19 + q' / 16) = _; omega] at h2
  have f2 : FrM r S (wrI S (r + 1) (23 + q' / 16) (A 2 (q' / 16) &&& (shlI 1 (nI (q' % 16)) ^^^ -1))) := FrM_w (by omega) (by omega)
  have e2 : rdI (wrI S (r + 1) (23 + q' / 16) (A 2 (q' / 16) &&& (shlI 1 (nI (q' % 16)) ^^^ -1))) (r + 1) (23 + q' / 16) = frB q' A 2 (q' / 16) := m2 h2 _ hp
  have eB : up A 2 (q' / 16) (A 2 (q' / 16) &&& (shlI 1 (nI (q' % 16)) ^^^ -1)) = frB q' A := rfl
  rw [eB] at h2
  rw [e2]
  unfold freeA
  by_cases hz : frB q' A 2 (q' / 16) = 0
  · have hD : DOK (frB q' A) := by unfold DOK; rw [frB_k q' A (by decide)]; exact iD I
    have hN : LnOK (frB q' A) := by unfold LnOK; rw [frB_k q' A (by decide)]; exact iN I
    obtain ⟨S3, e3, h3, f3⟩ := wd_m h2 hD hN d 1 (q' / 16) f
    have e3' : cal d 228 [vR 8 r, vI 1, vI (nI (q' / 16)), vI (nI f)] (wrI S (r + 1) (23 + q' / 16) (A 2 (q' / 16) &&& (shlI 1 (nI (q' % 16)) ^^^ -1))) = some (none, S3) := e3
    rw [if_pos hz, e3', bV_s, if_pos hz, ef, ix_nI (by omega)]
    have h4 := RP_w h3 (k := 1) (i := q' / 16) (by decide) (by decide) (by show _ < 12; omega) (-1) (fun _ z => absurd rfl z)
    rw [show 4 + (off 1 + q' / 16) = 11 + q' / 16 by show 4 + (7 + q' / 16) = _; omega] at h4
    obtain ⟨S5, e5, h5, f5⟩ := zvec h4 hp (up_s _ _ _ _) d (vI (nI q')) (vI (nI f)) (frV q' A)
    exact ⟨S5, e5, h5, FrM_t (FrM_t (FrM_t f2 f3) (FrM_w (by omega) (by omega))) f5⟩
  · rw [if_neg hz, if_neg hz]
    exact ⟨_, rfl, h2, f2⟩
theorem put_w {S : Mem} {t : Nat} {A : AS} (h : CP S t A) (I : Inv A) {q : Nat} (hr : fReach (A 1) (A 2) (A 0 3) (nI q) = true) (hq : q < 192) (v : Int32) (d : Nat) : ∃ S', cal (d + 2) 12 [vR 1 t, vI (nI q), vI v] S = some (none, S') ∧ CP S' t (wrA q v A) ∧ FrC t S S' := by
  obtain ⟨q', f, hq', eq, hf, ef, hg⟩ := reach_facts I hr
  have eqq : q' = q := ((nI_eq (by omega) (by omega)).mp eq).symm
  subst eqq
  obtain ⟨-, hc, ho⟩ := val_e hq hf ef
  rw [sp_putAt d t _ v S (FrOK_c (c1 h) (iF I)), fOpen_c (c1 h), if_pos ho, fCell_c (c1 h), hc, ix_nI (by omega)]
  refine ⟨_, rfl, ?_, FrC_w (by omega) (by omega)⟩
  unfold wrA
  rw [ef, ix_nI (by omega)]
  exact CP_w h (k := 4) (by decide) (by omega) v
