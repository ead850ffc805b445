/-! the reference reads a token -/
def TapM (b : Nat → Nat) (n r : Nat) (S : Mem) : Prop := n ≤ 300 ∧ rdI S r 4 = nI n ∧ ∀ i, i < n → rdI S (r + 4) i = nI (b i) ∧ b i < 256
def byV (b : Nat → Nat) (n q : Nat) : Int32 := if q < n then nI (b q) else -1
theorem byt_m {b : Nat → Nat} {n r : Nat} {S : Mem} (h : TapM b n r S) {q : Nat} (hq : q < 2 ^ 31) (d : Nat) : cal d 179 [vR 8 r, vI (nI q)] S = some (some (vI (byV b n q)), S) := by
  obtain ⟨h1, h2, h3⟩ := h
  rw [B_X8_byteAt, h2]
  unfold byV
  by_cases z : q < n
  · rw [if_neg (nI_ge z (by omega)), i300 (by omega), gd_t, ix_nI hq, (h3 q z).1, if_pos z]
  · rw [if_pos (nI_le (by omega) hq), if_neg z]
theorem ltr_1 (d : Nat) (S : Mem) : cal d 180 [vI (-1)] S = some (some (vI (b2i false)), S) := by
  rw [B_X8_isLetterByte, if_pos (by decide), if_pos (by decide), q0_t]
theorem dg_1 (d : Nat) (S : Mem) : cal d 181 [vI (-1)] S = some (some (vI (b2i false)), S) := by
  rw [B_X8_isFigure, if_pos (by decide), q0_t]
def isSg (x : Nat) : Bool := decide (x = 35) || (decide (x = 40) || (decide (x = 41) || (decide (x = 42) || (decide (x = 43) || (decide (x = 45) || (decide (x = 47) || (decide (x = 58) || (decide (x = 59) || (decide (x = 60) || (decide (x = 61) || decide (x = 62)))))))))))
theorem isg_m {x : Nat} (hx : x < 256) (d : Nat) (S : Mem) : cal d 182 [vI (nI x)] S = some (some (vI (b2i (isSg x))), S) := by
  have e : ∀ y : Nat, y < 256 → (nI x = nI y ↔ x = y) := fun y hy => nI_eq (by omega) (by omega)
  rw [B_X8_isSign, q0_t, q1_t]
  unfold isSg
  by_cases h35 : x = 35
  · rw [if_pos (show nI x = 35 from (e 35 (by decide)).mpr h35), h35]; rfl
  rw [if_neg (show ¬ nI x = 35 from mt (e 35 (by decide)).mp h35), decide_eq_false h35]
  by_cases h40 : x = 40
  · rw [if_pos (show nI x = 40 from (e 40 (by decide)).mpr h40), h40]; rfl
  rw [if_neg (show ¬ nI x = 40 from mt (e 40 (by decide)).mp h40), decide_eq_false h40]
  by_cases h41 : x = 41
  · rw [if_pos (show nI x = 41 from (e 41 (by decide)).mpr h41), h41]; rfl
  rw [if_neg (show ¬ nI x = 41 from mt (e 41 (by decide)).mp h41), decide_eq_false h41]
  by_cases h42 : x = 42
  · rw [if_pos (show nI x = 42 from (e 42 (by decide)).mpr h42), h42]; rfl
  rw [if_neg (show ¬ nI x = 42 from mt (e 42 (by decide)).mp h42), decide_eq_false h42]
  by_cases h43 : x = 43
  · rw [if_pos (show nI x = 43 from (e 43 (by decide)).mpr h43), h43]; rfl
  rw [if_neg (show ¬ nI x = 43 from mt (e 43 (by decide)).mp h43), decide_eq_false h43]
  by_cases h45 : x = 45
  · rw [if_pos (show nI x = 45 from (e 45 (by decide)).mpr h45), h45]; rfl
  rw [if_neg (show ¬ nI x = 45 from mt (e 45 (by decide)).mp h45), decide_eq_false h45]
  by_cases h47 : x = 47
  · rw [if_pos (show nI x = 47 from (e 47 (by decide)).mpr h47), h47]; rfl
  rw [if_neg (show ¬ nI x = 47 from mt (e 47 (by decide)).mp h47), decide_eq_false h47]
  by_cases h58 : x = 58
  · rw [if_pos (show nI x = 58 from (e 58 (by decide)).mpr h58), h58]; rfl
  rw [if_neg (show ¬ nI x = 58 from mt (e 58 (by decide)).mp h58), decide_eq_false h58]
  by_cases h59 : x = 59
  · rw [if_pos (show nI x = 59 from (e 59 (by decide)).mpr h59), h59]; rfl
  rw [if_neg (show ¬ nI x = 59 from mt (e 59 (by decide)).mp h59), decide_eq_false h59]
  by_cases h60 : x = 60
  · rw [if_pos (show nI x = 60 from (e 60 (by decide)).mpr h60), h60]; rfl
  rw [if_neg (show ¬ nI x = 60 from mt (e 60 (by decide)).mp h60), decide_eq_false h60]
  by_cases h61 : x = 61
  · rw [if_pos (show nI x = 61 from (e 61 (by decide)).mpr h61), h61]; rfl
  rw [if_neg (show ¬ nI x = 61 from mt (e 61 (by decide)).mp h61), decide_eq_false h61]
  by_cases h62 : x = 62
  · rw [if_pos (show nI x = 62 from (e 62 (by decide)).mpr h62), h62]; rfl
  rw [if_neg (show ¬ nI x = 62 from mt (e 62 (by decide)).mp h62), decide_eq_false h62]
  rfl
/-! letters as one long number -/
def cvF (f : Nat → Nat) : Nat → Nat
  | 0 => 0
  | l + 1 => cvF f l * 256 + f l
theorem cvF_s (f : Nat → Nat) (l : Nat) : cvF f (l + 1) = cvF f l * 256 + f l := rfl
theorem cvF_lt {f : Nat → Nat} : ∀ l, (∀ i, i < l → f i < 256) → cvF f l < 256 ^ l
  | 0, _ => Nat.zero_lt_one
  | l + 1, h => by
    have h1 := cvF_lt l (fun i hi => h i (by omega))
    have h2 := h l (by omega)
    rw [cvF_s, Nat.pow_succ]; omega
theorem cvF_ge {f : Nat → Nat} (h0 : 1 ≤ f 0) : ∀ l, 256 ^ l ≤ cvF f (l + 1)
  | 0 => by
    rw [cvF_s]
    show 1 ≤ 0 * 256 + f 0
    omega
  | l + 1 => by
    have h1 := cvF_ge h0 l
    rw [cvF_s, Nat.pow_succ]; omega
theorem cvF_inj {f g : Nat → Nat} : ∀ l m, (∀ i, i < l → 1 ≤ f i ∧ f i < 256) → (∀ i, i < m → 1 ≤ g i ∧ g i < 256) → cvF f l = cvF g m → l = m ∧ ∀ i, i < l → f i = g i
  | 0, 0, _, _, _ => ⟨rfl, fun i hi => absurd hi (Nat.not_lt_zero _)⟩
  | 0, m + 1, _, hg, e => by
    have := hg m (by omega)
    rw [cvF_s] at e
    have e0 : cvF f 0 = 0 := rfl
    omega
  | l + 1, 0, hf, _, e => by
    have := hf l (by omega)
    rw [cvF_s] at e
    have e0 : cvF g 0 = 0 := rfl
    omega
  | l + 1, m + 1, hf, hg, e => by
    have h1 := hf l (by omega)
    have h2 := hg m (by omega)
    rw [cvF_s, cvF_s] at e
    obtain ⟨i1, i2⟩ := cvF_inj l m (fun i hi => hf i (by omega)) (fun i hi => hg i (by omega)) (by omega)
    refine ⟨by omega, fun i hi => ?_⟩
    by_cases z : i = l
    · rw [z, show f l = g m by omega, i1]
    · exact i2 i (by omega)
def wvN (b : Nat → Nat) (p l : Nat) : Nat := if l ≤ 7 then cvF (fun i => b (p + i)) l else 1152921504606846976
theorem lJ_or (a b : Nat) : lN a ||| lN b = lN (a ||| b) := by
  apply Int64.toBitVec_inj.mp
  rw [Int64.toBitVec_or]
  show BitVec.ofNat 64 a ||| BitVec.ofNat 64 b = BitVec.ofNat 64 (a ||| b)
  exact BitVec.ofNat_or.symm
theorem lJ_shl {v : Nat} (h : v < 2 ^ 55) : shlL (lN v) 8 = lN (v * 256) := by
  apply Int64.toBitVec_inj.mp
  apply BitVec.eq_of_toNat_eq
  unfold shlL
  show ((lN v).toBitVec <<< ((Int32.toInt64 8 &&& 63).toBitVec.smod 64).toNat).toNat = _
  have e : ((Int32.toInt64 8 &&& 63).toBitVec.smod 64).toNat = 8 := by decide
  rw [e, BitVec.toNat_shiftLeft, Nat.shiftLeft_eq]
  show (BitVec.ofNat 64 v).toNat * 2 ^ 8 % 2 ^ 64 = (BitVec.ofNat 64 (v * 256)).toNat
  rw [BitVec.toNat_ofNat, BitVec.toNat_ofNat, Nat.mod_eq_of_lt (show v < 2 ^ 64 by omega)]
theorem lJ_shr {v : Nat} (h : v < 2 ^ 62) : lg_cmp (shrL (lN v) 48) 0 = 0 ↔ v < 281474976710656 := by
  have e1 : (shrL (lN v) 48).toInt = ((v / 281474976710656 : Nat) : Int) := by
    unfold shrL
    show ((lN v).toBitVec.sshiftRight ((Int32.toInt64 48 &&& 63).toBitVec.smod 64).toNat).toInt = _
    have e : ((Int32.toInt64 48 &&& 63).toBitVec.smod 64).toNat = 48 := by decide
    rw [e, BitVec.toInt_sshiftRight]
    show (lN v).toInt >>> 48 = _
    have e3 : (lN v).toInt = (v : Int) := lg_ofNat_toInt (by omega)
    rw [e3, Int.shiftRight_eq_div_pow]
    rfl
  rw [lg_cmp_eq]
  constructor
  · intro z
    rw [z] at e1
    have : (0 : Int64).toInt = 0 := rfl
    omega
  · intro z
    refine Int64.toInt_inj.mp ?_
    rw [e1, Nat.div_eq_of_lt z]; rfl
theorem lJ_sh {v y : Nat} (h : v < 2 ^ 48) (hy : y < 256) : shlL (lN v) 8 ||| Int32.toInt64 (nI y) = lN (v * 256 + y) := by
  rw [lJ_shl (by omega), nI_l (by omega), lJ_or]
  congr 1
  exact or_add (a := v) (b := y) (i := 8) hy
def FrH (r : Nat) (S S' : Mem) : Prop := (∀ c, ¬ c = r → rdI S' c = rdI S c) ∧ (∀ i, ¬ (i = 7 ∨ i = 8 ∨ i = 9 ∨ i = 10) → rdI S' r i = rdI S r i) ∧ S'.2.2 = S.2.2
theorem FrH_r {r : Nat} {S : Mem} : FrH r S S := ⟨fun _ _ => rfl, fun _ _ => rfl, rfl⟩
theorem FrH_t {r : Nat} {S S1 S2 : Mem} (h : FrH r S S1) (h2 : FrH r S1 S2) : FrH r S S2 := ⟨fun c a => (h2.1 c a).trans (h.1 c a), fun i hi => (h2.2.1 i hi).trans (h.2.1 i hi), h2.2.2.trans h.2.2⟩
theorem FrH_w {r i : Nat} {v : Int32} {S : Mem} (hi : i = 7 ∨ i = 8 ∨ i = 9 ∨ i = 10) : FrH r S (wrI S r i v) := ⟨fun c hc => funext fun b => by rw [rdI_wrI, if_neg (fun z => hc z.1)], fun j hj => by rw [rdI_wrI, if_neg (by omega)], rfl⟩
theorem FrH_j {r i : Nat} {v : Int64} {S : Mem} : FrH r S (wrJ S r i v) := ⟨fun c _ => rfl, fun j _ => rfl, rfl⟩
theorem TapM_k {b : Nat → Nat} {n r : Nat} {S S' : Mem} (h : TapM b n r S) (f : FrH r S S') : TapM b n r S' := ⟨h.1, by rw [f.2.1 4 (by decide)]; exact h.2.1, fun i hi => by rw [f.1 (r + 4) (by omega)]; exact h.2.2 i hi⟩
def t9p (b : Nat → Nat) (n p : Nat) : Nat := if p < n then (if isLe (b p) = true then 2 else if isDg (b p) = true then 1 else if two b n p 60 = true then 4 else if two b n p 62 = true then 5 else if isSg (b p) = true then b p else 3) else 0
def tEp (b : Nat → Nat) (n p : Nat) : Nat := if p < n then (tk b n p).2.2 else n
def RTp (b : Nat → Nat) (n r p : Nat) (S : Mem) : Prop := rdI S r 8 = nI p ∧ rdI S r 9 = nI (t9p b n p) ∧ rdI S r 7 = nI (tEp b n p) ∧ (p < n → isLe (b p) = false → isDg (b p) = true → ∃ v : Nat, v < 2000000 ∧ rdI S r 10 = nI v ∧ min 10000 v = nuV b p (eN b n p - p)) ∧ (p < n → isLe (b p) = true → rdJ S r 11 = lN (wvN b p (eW b n p - p)))
theorem wlp_m {b : Nat → Nat} {n r p : Nat} (hp : p < n) (hl0 : isLe (b p) = true) (d : Nat) : ∀ m q l S u, n - q < m → q = p + l → q ≤ n → 0 < l ∨ q = p → (∀ i, i < l → isLe (b (p + i)) = true) → TapM b n r S → rdI S r 7 = nI q → rdJ S r 11 = lN (wvN b p l) → ∃ S', ev (d + 1) 183 168 [vR 8 r, u] [] S = some (none, S') ∧ rdI S' r 7 = nI (eW b n q) ∧ rdJ S' r 11 = lN (wvN b p (eW b n q - p)) ∧ FrH r S S' ∧ rdI S' r 8 = rdI S r 8 ∧ rdI S' r 9 = rdI S r 9 := by
  intro m
  induction m with
  | zero => intro q l S u h; omega
  | succ m ih =>
    intro q l S u hm hq hqn hl hL hT e7 eJ
    have hT' := hT
    obtain ⟨h1, h2, h3⟩ := hT
    rw [B_X8_nextToken_168, e7, byt_m hT' (by omega), bI_s]
    by_cases z : q < n
    · obtain ⟨eb, hb⟩ := h3 q z
      have ey : byV b n q = nI (b q) := if_pos z
      rw [ey, ltr_m hb, bI_s, ite_b0]
      cases g : isLe (b q)
      · have ew : eW b n q = q := by unfold eW; exact fstN_t z (by rw [g]; rfl)
        rw [if_pos rfl, ew]
        exact ⟨S, rfl, e7, by rw [eJ, show q - p = l by omega], FrH_r, rfl, rfl⟩
      · have ew : eW b n q = eW b n (q + 1) := by unfold eW; exact fstN_f z (by rw [g]; rfl)
        have hLb : ∀ i, i < l + 1 → isLe (b (p + i)) = true := fun i hi => by
          by_cases y : i = l
          · rw [y, ← hq]; exact g
          · exact hL i (by omega)
        have lb : ∀ i, i < l + 1 → 1 ≤ b (p + i) ∧ b (p + i) < 256 := fun i hi => by
          have := (isLe_e _).mp (hLb i hi); omega
        have hv : wvN b p l < 2 ^ 62 := by
          unfold wvN
          by_cases y : l ≤ 7
          · have c1 := cvF_lt (f := fun i => b (p + i)) l (fun i hi => (lb i (by omega)).2)
            have c2 : 256 ^ l ≤ 256 ^ 7 := Nat.pow_le_pow_right (by decide) y
            have c3 : 256 ^ 7 = 72057594037927936 := by decide
            rw [if_pos y]; omega
          · rw [if_neg y]; decide
        have fin : ∀ S2 : Mem, FrH r S S2 → rdI S2 r 7 = nI (q + 1) → rdJ S2 r 11 = lN (wvN b p (l + 1)) → rdI S2 r 8 = rdI S r 8 → rdI S2 r 9 = rdI S r 9 → ∃ S', ev (d + 1) 183 168 [vR 8 r, vU] [] S2 = some (none, S') ∧ rdI S' r 7 = nI (eW b n q) ∧ rdJ S' r 11 = lN (wvN b p (eW b n q - p)) ∧ FrH r S S' ∧ rdI S' r 8 = rdI S r 8 ∧ rdI S' r 9 = rdI S r 9 := by
          intro S2 f2 a1 a2 a3 a4
          obtain ⟨S', e', k1, k2, k3, k4, k5⟩ := ih (q + 1) (l + 1) S2 vU (by omega) (by omega) (by omega) (Or.inl (by omega)) hLb (TapM_k hT' f2) a1 a2
          rw [ew]
          exact ⟨S', e', k1, k2, FrH_t f2 k3, k4.trans a3, k5.trans a4⟩
        rw [if_neg (by decide), eJ]
        by_cases y : l ≤ 6
        · have hw : wvN b p l < 2 ^ 48 := by
            have c1 := cvF_lt (f := fun i => b (p + i)) l (fun i hi => (lb i (by omega)).2)
            have c2 : 256 ^ l ≤ 256 ^ 6 := Nat.pow_le_pow_right (by decide) y
            have c3 : 256 ^ 6 = 281474976710656 := by decide
            unfold wvN
            rw [if_pos (by omega)]; omega
          have es : wvN b p l * 256 + b q = wvN b p (l + 1) := by
            unfold wvN
            rw [if_pos (by omega), if_pos (by omega), cvF_s, hq]
          rw [if_pos ((lJ_shr hv).mpr (by omega)), e7, byt_m hT' (by omega), bI_s, ey, lJ_sh hw hb, es]
          refine fin _ (FrH_t FrH_j (FrH_w (Or.inl rfl))) ?_ ?_ ?_ ?_
          · rw [rdI_wrI, if_pos ⟨rfl, rfl⟩, rdI_wrJ, e7, nI_1]
          · rw [rdJ_wrI, rdJ_wrJ, if_pos ⟨rfl, rfl⟩]
          · rw [rdI_wrI, if_neg (by omega), rdI_wrJ]
          · rw [rdI_wrI, if_neg (by omega), rdI_wrJ]
        · have hw : ¬ wvN b p l < 281474976710656 := by
            unfold wvN
            by_cases x : l ≤ 7
            · have : l = 6 + 1 := by omega
              have c1 := cvF_ge (f := fun i => b (p + i)) (lb 0 (by omega)).1 6
              have c3 : 256 ^ 6 = 281474976710656 := by decide
              rw [if_pos x, this]; omega
            · rw [if_neg x]; decide
          have es : wvN b p (l + 1) = 1152921504606846976 := by unfold wvN; rw [if_neg (by omega)]
          rw [if_neg (mt (lJ_shr hv).mp hw)]
          refine fin _ (FrH_t FrH_j (FrH_w (Or.inl rfl))) ?_ ?_ ?_ ?_
          · rw [rdI_wrI, if_pos ⟨rfl, rfl⟩, rdI_wrJ, e7, nI_1]
          · rw [rdJ_wrI, rdJ_wrJ, if_pos ⟨rfl, rfl⟩, es]; rfl
          · rw [rdI_wrI, if_neg (by omega), rdI_wrJ]
          · rw [rdI_wrI, if_neg (by omega), rdI_wrJ]
    · have en : q = n := by omega
      have ew : eW b n q = q := by rw [en]; unfold eW; exact fstN_n
      have ey : byV b n q = -1 := if_neg z
      rw [ey, ltr_1, bI_s, ite_b0, if_pos rfl, ew]
      exact ⟨S, rfl, e7, by rw [eJ, show q - p = l by omega], FrH_r, rfl, rfl⟩
theorem dlp_m {b : Nat → Nat} {n r p : Nat} (d : Nat) : ∀ m q l v S u, n - q < m → q = p + l → q ≤ n → v < 2000000 → min 10000 v = nuV b p l → TapM b n r S → rdI S r 7 = nI q → rdI S r 10 = nI v → ∃ S' v', ev (d + 1) 183 85 [vR 8 r, u] [] S = some (none, S') ∧ rdI S' r 7 = nI (eN b n q) ∧ v' < 2000000 ∧ rdI S' r 10 = nI v' ∧ min 10000 v' = nuV b p (eN b n q - p) ∧ FrH r S S' ∧ rdI S' r 8 = rdI S r 8 ∧ rdI S' r 9 = rdI S r 9 := by
  intro m
  induction m with
  | zero => intro q l v S u h; omega
  | succ m ih =>
    intro q l v S u hm hq hqn hv hmin hT e7 e10
    have hT' := hT
    obtain ⟨h1, h2, h3⟩ := hT
    rw [B_X8_nextToken_85, e7, byt_m hT' (by omega), bI_s]
    by_cases z : q < n
    · obtain ⟨eb, hb⟩ := h3 q z
      have ey : byV b n q = nI (b q) := if_pos z
      rw [ey, dg_m hb, bI_s, ite_b0]
      cases g : isDg (b q)
      · have ew : eN b n q = q := by unfold eN; exact fstN_t z (by rw [g]; rfl)
        rw [if_pos rfl, ew]
        exact ⟨S, v, rfl, e7, hv, e10, by rw [hmin, show q - p = l by omega], FrH_r, rfl, rfl⟩
      · have ew : eN b n q = eN b n (q + 1) := by unfold eN; exact fstN_f z (by rw [g]; rfl)
        have hd := (isDg_e _).mp g
        have fin : ∀ (S2 : Mem) (v2 : Nat), FrH r S S2 → rdI S2 r 7 = nI (q + 1) → v2 < 2000000 → rdI S2 r 10 = nI v2 → min 10000 v2 = nuV b p (l + 1) → rdI S2 r 8 = rdI S r 8 → rdI S2 r 9 = rdI S r 9 → ∃ S' v', ev (d + 1) 183 85 [vR 8 r, vU] [] S2 = some (none, S') ∧ rdI S' r 7 = nI (eN b n q) ∧ v' < 2000000 ∧ rdI S' r 10 = nI v' ∧ min 10000 v' = nuV b p (eN b n q - p) ∧ FrH r S S' ∧ rdI S' r 8 = rdI S r 8 ∧ rdI S' r 9 = rdI S r 9 := by
          intro S2 v2 f2 a1 a2 a3 a4 a5 a6
          obtain ⟨S', v', e', k1, k2, k3, k4, k5, k6, k7⟩ := ih (q + 1) (l + 1) v2 S2 vU (by omega) (by omega) (by omega) a2 a4 (TapM_k hT' f2) a1 a3
          rw [ew]
          exact ⟨S', v', e', k1, k2, k3, k4, FrH_t f2 k5, k6.trans a5, k7.trans a6⟩
        have hq' : b (p + l) = b q := by rw [hq]
        rw [if_neg (by decide), e10]
        by_cases y : v ≤ 99999
        · have e3 : (10 : Int32) * nI v = nI (10 * v) := pk_mul 10 v
          have e4 : nI (10 * v + b q) - 48 = nI (10 * v + b q - 48) := pk_sub (b := 48) (by omega)
          rw [if_pos (show nI v ≤ 99999 from nI_le (b := 99999) y (by decide)), e7, byt_m hT' (by omega), bI_s, ey, e3, nI_add, e4]
          refine fin _ (10 * v + b q - 48) (FrH_t (FrH_w (by omega)) (FrH_w (by omega))) ?_ (by omega) ?_ ?_ ?_ ?_
          · rw [rdI_wrI, if_pos ⟨rfl, rfl⟩, rdI_wrI, if_neg (by omega), e7, nI_1]
          · rw [rdI_wrI, if_neg (by omega), rdI_wrI, if_pos ⟨rfl, rfl⟩]
          · rw [nuV_s, ← hmin, hq']; omega
          · rw [rdI_wrI, if_neg (by omega), rdI_wrI, if_neg (by omega)]
          · rw [rdI_wrI, if_neg (by omega), rdI_wrI, if_neg (by omega)]
        · rw [if_neg (show ¬ nI v ≤ 99999 from nI_ge (a := 99999) (by omega) (by omega))]
          refine fin _ v (FrH_t (FrH_w (by omega)) (FrH_w (by omega))) ?_ hv ?_ ?_ ?_ ?_
          · rw [rdI_wrI, if_pos ⟨rfl, rfl⟩, rdI_wrI, if_neg (by omega), e7, nI_1]
          · rw [rdI_wrI, if_neg (by omega), rdI_wrI, if_pos ⟨rfl, rfl⟩]
          · rw [nuV_s, ← hmin, hq']; omega
          · rw [rdI_wrI, if_neg (by omega), rdI_wrI, if_neg (by omega)]
          · rw [rdI_wrI, if_neg (by omega), rdI_wrI, if_neg (by omega)]
    · have en : q = n := by omega
      have ew : eN b n q = q := by rw [en]; unfold eN; exact fstN_n
      have ey : byV b n q = -1 := if_neg z
      rw [ey, dg_1, bI_s, ite_b0, if_pos rfl, ew]
      exact ⟨S, v, rfl, e7, hv, e10, by rw [hmin, show q - p = l by omega], FrH_r, rfl, rfl⟩
