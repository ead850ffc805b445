/-! bytes fed to the tape -/
theorem by_bv (x : BitVec 32) (s : Nat) (hs : s ≤ 24) : x.ushiftRight s &&& 255#32 = x.sshiftRight s &&& 255#32 := by
  apply BitVec.eq_of_getLsbD_eq
  intro i hi
  rw [BitVec.getLsbD_and, BitVec.getLsbD_and]
  by_cases h : i < 8
  · congr 1
    rw [BitVec.getLsbD_sshiftRight, show x.ushiftRight s = x >>> s from rfl, BitVec.getLsbD_ushiftRight, decide_eq_false (show ¬ 32 ≤ i by omega), if_pos (show s + i < 32 by omega)]
    rfl
  · have : (255#32).getLsbD i = false := by
      show (BitVec.ofNat 32 255).getLsbD i = false
      rw [BitVec.getLsbD_ofNat, show (255 : Nat) = 2 ^ 8 - 1 by decide, Nat.testBit_two_pow_sub_one, decide_eq_false h, Bool.and_false]
    rw [this, Bool.and_false, Bool.and_false]
theorem by_e (a : Int32) {s : Int32} {k : Nat} (hk : k ≤ 24) (h1 : ((s &&& 31).toBitVec.smod 32).toNat = k) (h2 : ((s.toUInt32 &&& Int32.toUInt32 31).toBitVec % 32#32).toNat = k) : ushI a s &&& 255 = shrI a s &&& 255 := by
  apply Int32.toBitVec_inj.mp
  have e1 : (shrI a s).toBitVec = a.toBitVec.sshiftRight k := by
    unfold shrI
    rw [Int32.toBitVec_shiftRight, BitVec.sshiftRight_eq', h1]
  have e2 : (ushI a s).toBitVec = a.toBitVec.ushiftRight k := by
    unfold ushI
    show (a.toUInt32 >>> (s.toUInt32 &&& Int32.toUInt32 31)).toBitVec = _
    rw [UInt32.toBitVec_shiftRight]
    show a.toBitVec >>> ((s.toUInt32 &&& Int32.toUInt32 31).toBitVec % 32#32) = _
    rw [BitVec.ushiftRight_eq', h2]; rfl
  rw [Int32.toBitVec_and, Int32.toBitVec_and, e1, e2]
  exact by_bv _ _ hk
def tpu (p : Tp) (b : Int32) : Tp := (p.1 + 1, (fun i => if i = p.1 then b else p.2.1 i, p.2.2))
theorem tpu_I {p : Tp} (h : TpI p) (hp : p.1 < 300) (y : Int32) : TpI (tpu p (y &&& 255)) := by
  refine ⟨show p.1 + 1 ≤ 300 by omega, fun i hi => ?_⟩
  have hi' : i < p.1 + 1 := hi
  show ∃ k : Nat, k < 256 ∧ (if i = p.1 then y &&& 255 else p.2.1 i) = nI k
  by_cases z : i = p.1
  · rw [if_pos z]
    refine ⟨y.toBitVec.toNat &&& 255, Nat.lt_of_le_of_lt Nat.and_le_right (by decide), ?_⟩
    rw [← nI_and, ← nI_tn y]; rfl
  · rw [if_neg z]; exact h.2 i (by omega)
theorem fs_c {S : Mem} {x : Nat} {p : Tp} (h : TpC S x p) (hp : p.1 < 300) (a : Int32) {s : Int32} (hs : ¬ s < 0) (d : Nat) : ∃ S', ev d 53 3 [vR 3 (x + 1), vI a, vI s] [] S = ev d 53 3 [vR 3 (x + 1), vI a, vI (s + (-8))] [] S' ∧ TpC S' x (tpu p (ushI a s &&& 255)) ∧ (∀ c, ¬ (c = x + 1 ∨ c = x + 1 + 1) → rdI S' c = rdI S c) ∧ S'.2 = S.2 := by
  obtain ⟨t1, t2, t3, t4⟩ := h
  rw [B_X3_takeFour_3, if_neg hs, t1, if_neg (show ¬ (300 : Int32) ≤ nI p.1 from nI_ge (b := 300) hp (by decide)), inb_t hp (by decide), gd_t, ix_nI (by omega), rdI_wrI, if_neg (by omega), t1, nI_1]
  refine ⟨_, rfl, ⟨?_, fun i hi => ?_, ?_, ?_⟩, fun c hc => funext fun i => ?_, rfl⟩
  · rw [rdI_wrI, if_pos ⟨rfl, rfl⟩]; rfl
  · have hi' : i < p.1 + 1 := hi
    rw [rdI_wrI, if_neg (by omega), rdI_wrI]
    show _ = if i = p.1 then ushI a s &&& 255 else p.2.1 i
    by_cases z : i = p.1
    · rw [if_pos ⟨rfl, z⟩, if_pos z]
    · rw [if_neg (fun y => z y.2), if_neg z]; exact t2 i (by omega)
  · rw [rdI_wrI, if_neg (fun z => absurd z.2 (by decide)), rdI_wrI, if_neg (by omega)]; exact t3
  · rw [rdI_wrI, if_neg (fun z => absurd z.2 (by decide)), rdI_wrI, if_neg (by omega)]; exact t4
  · rw [rdI_wrI, if_neg (fun z => hc (Or.inl z.1)), rdI_wrI, if_neg (fun z => hc (Or.inr z.1))]
theorem fs_m {S : Mem} {r : Nat} {p : Tp} (h : TpM S r p) (hp : p.1 < 300) (a : Int32) {s : Int32} (hs : ¬ s < 0) (d : Nat) : ∃ S', ev d 176 3 [vR 8 r, vI a, vI s] [] S = ev d 176 3 [vR 8 r, vI a, vI (s + (-8))] [] S' ∧ TpM S' r (tpu p (shrI a s &&& 255)) ∧ (∀ c, ¬ (c = r ∨ c = r + 4) → rdI S' c = rdI S c) ∧ S'.2 = S.2 := by
  obtain ⟨t1, t2, t3, t4⟩ := h
  rw [B_X8_four_3, if_neg hs, t1, inb_t hp (by decide), gd_t, ix_nI (by omega), rdI_wrI, if_neg (by omega), t1, nI_1]
  refine ⟨_, rfl, ⟨?_, fun i hi => ?_, ?_, ?_⟩, fun c hc => funext fun i => ?_, rfl⟩
  · rw [rdI_wrI, if_pos ⟨rfl, rfl⟩]; rfl
  · have hi' : i < p.1 + 1 := hi
    rw [rdI_wrI, if_neg (by omega), rdI_wrI]
    show _ = if i = p.1 then shrI a s &&& 255 else p.2.1 i
    by_cases z : i = p.1
    · rw [if_pos ⟨rfl, z⟩, if_pos z]
    · rw [if_neg (fun y => z y.2), if_neg z]; exact t2 i (by omega)
  · rw [rdI_wrI, if_neg (fun z => absurd z.2 (by decide)), rdI_wrI, if_neg (by omega)]; exact t3
  · rw [rdI_wrI, if_neg (fun z => absurd z.2 (by decide)), rdI_wrI, if_neg (by omega)]; exact t4
  · rw [rdI_wrI, if_neg (fun z => hc (Or.inl z.1)), rdI_wrI, if_neg (fun z => hc (Or.inr z.1))]
def tfo (p : Tp) (a : Int32) : Tp := tpu (tpu (tpu (tpu p (ushI a 24 &&& 255)) (ushI a 16 &&& 255)) (ushI a 8 &&& 255)) (ushI a 0 &&& 255)
theorem tfo_1 (p : Tp) (a : Int32) : (tfo p a).1 = p.1 + 4 := rfl
theorem tfo_I {p : Tp} (h : TpI p) (hp : p.1 + 4 ≤ 300) (a : Int32) : TpI (tfo p a) := by
  have h1 := tpu_I h (by omega) (ushI a 24)
  have h2 := tpu_I h1 (show p.1 + 1 < 300 by omega) (ushI a 16)
  have h3 := tpu_I h2 (show p.1 + 1 + 1 < 300 by omega) (ushI a 8)
  exact tpu_I h3 (show p.1 + 1 + 1 + 1 < 300 by omega) (ushI a 0)
theorem tfo_r (p : Tp) (a : Int32) : tfo p a = tpu (tpu (tpu (tpu p (shrI a 24 &&& 255)) (shrI a 16 &&& 255)) (shrI a 8 &&& 255)) (shrI a 0 &&& 255) := by
  unfold tfo
  rw [by_e a (s := 24) (k := 24) (by decide) (by decide) (by decide), by_e a (s := 16) (k := 16) (by decide) (by decide) (by decide), by_e a (s := 8) (k := 8) (by decide) (by decide) (by decide), by_e a (s := 0) (k := 0) (by decide) (by decide) (by decide)]
theorem four_c {S : Mem} {x : Nat} {p : Tp} (h : TpC S x p) (hp : p.1 + 4 ≤ 300) (a : Int32) (d : Nat) : ∃ S', cal d 53 [vR 3 (x + 1), vI a] S = some (none, S') ∧ TpC S' x (tfo p a) ∧ (∀ c, ¬ (c = x + 1 ∨ c = x + 1 + 1) → rdI S' c = rdI S c) ∧ S'.2 = S.2 := by
  obtain ⟨S1, e1, h1, f1, g1⟩ := fs_c h (by omega) a (s := 24) (by decide) d
  obtain ⟨S2, e2, h2, f2, g2⟩ := fs_c h1 (show p.1 + 1 < 300 by omega) a (s := 16) (by decide) d
  obtain ⟨S3, e3, h3, f3, g3⟩ := fs_c h2 (show p.1 + 1 + 1 < 300 by omega) a (s := 8) (by decide) d
  obtain ⟨S4, e4, h4, f4, g4⟩ := fs_c h3 (show p.1 + 1 + 1 + 1 < 300 by omega) a (s := 0) (by decide) d
  refine ⟨S4, ?_, h4, fun c hc => by rw [f4 c hc, f3 c hc, f2 c hc, f1 c hc], by rw [g4, g3, g2, g1]⟩
  rw [B_X3_takeFour, e1, show (24 : Int32) + (-8) = 16 by decide, e2, show (16 : Int32) + (-8) = 8 by decide, e3, show (8 : Int32) + (-8) = 0 by decide, e4, B_X3_takeFour_3, if_pos (by decide)]
theorem four_m {S : Mem} {r : Nat} {p : Tp} (h : TpM S r p) (hp : p.1 + 4 ≤ 300) (a : Int32) (d : Nat) : ∃ S', cal d 176 [vR 8 r, vI a] S = some (none, S') ∧ TpM S' r (tfo p a) ∧ (∀ c, ¬ (c = r ∨ c = r + 4) → rdI S' c = rdI S c) ∧ S'.2 = S.2 := by
  obtain ⟨S1, e1, h1, f1, g1⟩ := fs_m h (by omega) a (s := 24) (by decide) d
  obtain ⟨S2, e2, h2, f2, g2⟩ := fs_m h1 (show p.1 + 1 < 300 by omega) a (s := 16) (by decide) d
  obtain ⟨S3, e3, h3, f3, g3⟩ := fs_m h2 (show p.1 + 1 + 1 < 300 by omega) a (s := 8) (by decide) d
  obtain ⟨S4, e4, h4, f4, g4⟩ := fs_m h3 (show p.1 + 1 + 1 + 1 < 300 by omega) a (s := 0) (by decide) d
  refine ⟨S4, ?_, by rw [tfo_r]; exact h4, fun c hc => by rw [f4 c hc, f3 c hc, f2 c hc, f1 c hc], by rw [g4, g3, g2, g1]⟩
  rw [B_X8_four, e1, show (24 : Int32) + (-8) = 16 by decide, e2, show (16 : Int32) + (-8) = 8 by decide, e3, show (8 : Int32) + (-8) = 0 by decide, e4, B_X8_four_3, if_pos (by decide)]
def feP (Z : Zs) (a b c e f : Int32) : Tp := tfo (tfo (tfo (tfo (tfo Z.2.2.2 a) b) c) e) f
def feS (Z : Zs) (a b c e f : Int32) : Zs := if Z.2.2.2.1 + 20 ≤ 300 then zTp Z (feP Z a b c e f) else Z
def feV (Z : Zs) : Int32 := if Z.2.2.2.1 + 20 ≤ 300 then nI (Z.2.2.2.1 + 20) else -1
theorem fe_I {Z : Zs} (I : ZI Z) (a b c e f : Int32) : ZI (feS Z a b c e f) := by
  unfold feS
  by_cases z : Z.2.2.2.1 + 20 ≤ 300
  · rw [if_pos z]
    have h1 := tfo_I I.2.2.2.2 (by omega) a
    have h2 := tfo_I h1 (show Z.2.2.2.1 + 4 + 4 ≤ 300 by omega) b
    have h3 := tfo_I h2 (show Z.2.2.2.1 + 4 + 4 + 4 ≤ 300 by omega) c
    have h4 := tfo_I h3 (show Z.2.2.2.1 + 4 + 4 + 4 + 4 ≤ 300 by omega) e
    exact ZI_tp I (tfo_I h4 (show Z.2.2.2.1 + 4 + 4 + 4 + 4 + 4 ≤ 300 by omega) f)
  · rw [if_neg z]; exact I
theorem le20 {n : Nat} (h : n ≤ 300) : nI n + 20 ≤ (300 : Int32) ↔ n + 20 ≤ 300 := by
  show nI n + nI 20 ≤ nI 300 ↔ _
  rw [nI_add]; exact nI_leI (by omega) (by omega)
theorem fe_c {S : Mem} {x : Nat} {Z : Zs} (h : ClR S x Z) (I : ZI Z) (a b c e f : Int32) (d : Nat) : OwC x S (cal (d + 1) 99 [vR 7 x, vI a, vI b, vI c, vI e, vI f] S) (feV Z) (feS Z a b c e f) := by
  have t := h.2.2.2.2
  have tl : Z.2.2.2.1 ≤ 300 := I.2.2.2.2.1
  rw [B_X7_feed, t.1]
  unfold feS feV
  by_cases z : Z.2.2.2.1 + 20 ≤ 300
  · obtain ⟨S1, e1, h1, f1, g1⟩ := four_c t (by omega) a d
    obtain ⟨S2, e2, h2, f2, g2⟩ := four_c h1 (show Z.2.2.2.1 + 4 + 4 ≤ 300 by omega) b d
    obtain ⟨S3, e3, h3, f3, g3⟩ := four_c h2 (show Z.2.2.2.1 + 4 + 4 + 4 ≤ 300 by omega) c d
    obtain ⟨S4, e4, h4, f4, g4⟩ := four_c h3 (show Z.2.2.2.1 + 4 + 4 + 4 + 4 ≤ 300 by omega) e d
    obtain ⟨S5, e5, h5, f5, g5⟩ := four_c h4 (show Z.2.2.2.1 + 4 + 4 + 4 + 4 + 4 ≤ 300 by omega) f d
    have fr : ∀ c, ¬ (c = x + 1 ∨ c = x + 1 + 1) → rdI S5 c = rdI S c := fun c hc => by rw [f5 c hc, f4 c hc, f3 c hc, f2 c hc, f1 c hc]
    rw [if_pos ((le20 tl).mpr z), if_pos z, if_pos z, e1, bV_s, e2, bV_s, e3, bV_s, e4, bV_s, e5, bV_s, h5.1]
    exact ⟨S5, rfl, ClR_tp h fr h5, fun c hc => fr c (by omega), by rw [g5, g4, g3, g2, g1]⟩
  · rw [if_neg (fun y => z ((le20 tl).mp y)), if_neg z, if_neg z]; exact OwC_k (OkC_0 h)
theorem fe_m {S : Mem} {r : Nat} {Z : Zs} (h : MoR S r Z) (I : ZI Z) (a b c e f : Int32) (d : Nat) : OwM r S (cal (d + 1) 177 [vR 8 r, vI a, vI b, vI c, vI e, vI f] S) (feV Z) (feS Z a b c e f) := by
  have t := h.2.2.2
  have tl : Z.2.2.2.1 ≤ 300 := I.2.2.2.2.1
  rw [B_X8_feed, t.1]
  unfold feS feV
  by_cases z : Z.2.2.2.1 + 20 ≤ 300
  · obtain ⟨S1, e1, h1, f1, g1⟩ := four_m t (by omega) a d
    obtain ⟨S2, e2, h2, f2, g2⟩ := four_m h1 (show Z.2.2.2.1 + 4 + 4 ≤ 300 by omega) b d
    obtain ⟨S3, e3, h3, f3, g3⟩ := four_m h2 (show Z.2.2.2.1 + 4 + 4 + 4 ≤ 300 by omega) c d
    obtain ⟨S4, e4, h4, f4, g4⟩ := four_m h3 (show Z.2.2.2.1 + 4 + 4 + 4 + 4 ≤ 300 by omega) e d
    obtain ⟨S5, e5, h5, f5, g5⟩ := four_m h4 (show Z.2.2.2.1 + 4 + 4 + 4 + 4 + 4 ≤ 300 by omega) f d
    have fr : ∀ c, ¬ (c = r ∨ c = r + 4) → rdI S5 c = rdI S c := fun c hc => by rw [f5 c hc, f4 c hc, f3 c hc, f2 c hc, f1 c hc]
    rw [if_pos ((le20 tl).mpr z), if_pos z, if_pos z, e1, bV_s, e2, bV_s, e3, bV_s, e4, bV_s, e5, bV_s, h5.1]
    exact ⟨S5, rfl, MoR_tp h fr h5, fun c i hc => congrFun (fr c (by omega)) i, congrArg Prod.snd (by rw [g5, g4, g3, g2, g1])⟩
  · rw [if_neg (fun y => z ((le20 tl).mp y)), if_neg z, if_neg z]; exact OwM_k (OkM_0 h)
