/-! whether two pages can be meshed -/
def bcN (x : Int32) : Nat := ix (bitc x)
theorem bcN_e {x : Int32} (h : ∃ k, k < 65536 ∧ x = nI k) : bitc x = nI (bcN x) ∧ bcN x ≤ 16 := by
  obtain ⟨p, hp, e, -⟩ := bitc_ok h
  unfold bcN
  rw [e, ix_nI (by omega)]
  exact ⟨rfl, hp⟩
def lvP (A : AS) (p : Nat) : Int32 := fLiveIn (A 1) (A 2) (A 1 p)
theorem lvP_ok {A : AS} (I : Inv A) (p : Nat) : ∃ k, k < 65536 ∧ lvP A p = nI k := fLiveIn_ok (iL I) _
def letA (L : Nat → Option (Env → Int)) (A : AS) (p q : Nat) : Bool := decide (0 < wrV L 0 A (bcN (lvP A p)) (bcN (lvP A q)) 0)
def hinA (L : Nat → Option (Env → Int)) (A : AS) (p q : Nat) : Nat := if A 1 p = -1 ∨ A 1 q = -1 then 1 else if A 1 p = A 1 q then 2 else if mBound (A 0 3) (A 0 4) (A 1 p) = true ∨ mBound (A 0 3) (A 0 4) (A 1 q) = true then 3 else if lvP A p &&& lvP A q = 0 then (if letA L A p q = true then 0 else 5) else 4
theorem isPage_t (d : Nat) (a : Int32) (S : Mem) : cal d 152 [vI a] S = some (some (vI (b2i (inb a 12))), S) := by
  rw [B_X7_isPage]
  show (if a < 0 then _ else if nI 12 ≤ a then _ else _) = _
  rw [ifr 12 (by decide)]
  cases h : inb a 12
  · rw [if_neg (by decide), gd_p isZ_0]; rfl
  · rw [if_pos rfl, gd_p isZ_1]; rfl
theorem inFence_c {S : Mem} {t : Nat} {A : AS} (h : CP S t A) (d : Nat) (a : Int32) : cal d 30 [vR 1 t, vI a] S = some (some (vI (b2i (mBound (A 0 3) (A 0 4) a))), S) := by
  rw [B_X1_isInFence, c0 h (by decide), c0 h (by decide)]
  unfold mBound
  by_cases z : A 0 3 = -1
  · rw [if_pos z, gd_p isZ_0, decide_eq_true z]; rfl
  · rw [if_neg z, decide_eq_false z]
    by_cases z2 : a = A 0 3
    · rw [if_pos z2, gd_p isZ_1, decide_eq_true z2]; rfl
    · rw [if_neg z2, decide_eq_false z2]
      by_cases z3 : a = A 0 4
      · rw [if_pos z3, gd_p isZ_1, decide_eq_true z3]; rfl
      · rw [if_neg z3, gd_p isZ_0, decide_eq_false z3]; rfl
theorem hin_c {S : Mem} {t τ : Nat} {A : AS} {L : Nat → Option (Env → Int)} (h : CP S t A) (I : Inv A) (hL : LC S τ 0 (L 0)) (hd : τ + 9 < t ∨ t + 7 ≤ τ) {p q : Nat} (hp : p < 12) (hq : q < 12) (d : Nat) : ∃ S', cal (d + 4) 31 [vR 1 t, vI (nI p), vI (nI q), vR 5 τ] S = some (some (vI (nI (hinA L A p q))), S') ∧ FrT τ S S' := by
  rw [B_X1_hindrance, isPage_t, bI_s, i12 hp, ite_b0, if_neg (by decide), isPage_t, bI_s, i12 hq, ite_b0, if_neg (by decide), kc_open h, bI_s, fOpen_nI hp, ite_b0]
  unfold hinA
  by_cases z1 : A 1 p = -1
  · rw [decide_eq_false (not_not_intro z1), if_pos rfl, if_pos (Or.inl z1)]
    exact ⟨S, rfl, FrT_r⟩
  · rw [decide_eq_true z1, if_neg (by decide), kc_open h, bI_s, fOpen_nI hq, ite_b0]
    by_cases z2 : A 1 q = -1
    · rw [decide_eq_false (not_not_intro z2), if_pos rfl, if_pos (Or.inr z2)]
      exact ⟨S, rfl, FrT_r⟩
    · rw [decide_eq_true z2, if_neg (by decide), gd_t, gd_t, x12 hp, x12 hq, c1 h p hp, c1 h q hq, if_neg (show ¬ (A 1 p = -1 ∨ A 1 q = -1) from fun z => z.elim z1 z2)]
      by_cases z3 : A 1 p = A 1 q
      · rw [if_pos z3, if_pos z3]
        exact ⟨S, rfl, FrT_r⟩
      · rw [if_neg z3, if_neg z3, gd_t, inFence_c h, bI_s, ite_b0]
        by_cases z4 : mBound (A 0 3) (A 0 4) (A 1 p) = true
        · rw [z4, if_neg (by decide), if_pos (Or.inl rfl)]
          exact ⟨S, rfl, FrT_r⟩
        · rw [if_pos (by simpa using z4), gd_t, c1 h q hq, inFence_c h, bI_s, ite_b0]
          by_cases z5 : mBound (A 0 3) (A 0 4) (A 1 q) = true
          · rw [z5, if_neg (by decide), if_pos (Or.inr rfl)]
            exact ⟨S, rfl, FrT_r⟩
          · rw [if_pos (by simpa using z5), gd_t, c1 h p hp, kc_liveIn h, bI_s, gd_t, c1 h q hq, kc_liveIn h, bI_s, if_neg (show ¬ (mBound (A 0 3) (A 0 4) (A 1 p) = true ∨ mBound (A 0 3) (A 0 4) (A 1 q) = true) from fun z => z.elim z4 z5)]
            show ∃ S', (if lvP A p &&& lvP A q = 0 then _ else _) = _ ∧ _
            by_cases z6 : lvP A p &&& lvP A q = 0
            · obtain ⟨e1, l1⟩ := bcN_e (lvP_ok I p)
              obtain ⟨e2, l2⟩ := bcN_e (lvP_ok I q)
              obtain ⟨S', b, e, hb, f⟩ := worth_c (L := L) h I (l := 0) (by decide) hL hd l1 l2 d
              have e' : cal (d + 3) 93 [vR 5 τ, vI 0, vR 1 t, vI (nI (bcN (lvP A p))), vI (nI (bcN (lvP A q)))] S = some (some (vI b), S') := e
              rw [if_neg (show ¬ 0 = 1 by decide)] at hb
              have h0 : (0 : Int32).toInt = 0 := rfl
              rw [if_pos z6, sp_bitCount, bI_s, sp_bitCount, bI_s]
              show ∃ S', bI (cal (d + 3) 93 [vR 5 τ, vI 0, vR 1 t, vI (bitc (lvP A p)), vI (bitc (lvP A q))] S) _ = _ ∧ _
              rw [e1, e2, e', bI_s, if_pos z6]
              unfold letA
              rw [← hb]
              by_cases y : b ≤ 0
              · have y' : ¬ 0 < b.toInt := by
                  have := Int32.le_iff_toInt_le.mp y
                  rw [h0] at this; omega
                rw [if_pos y, if_pos rfl, decide_eq_false y', if_neg (by decide)]
                exact ⟨S', rfl, f⟩
              · have y' : 0 < b.toInt := by
                  rcases Int.lt_trichotomy b.toInt 0 with w | w | w
                  · exact absurd (Int32.le_iff_toInt_le.mpr (by rw [h0]; omega)) y
                  · exact absurd (Int32.le_iff_toInt_le.mpr (by rw [h0]; omega)) y
                  · exact w
                rw [if_neg y, if_neg (by decide), decide_eq_true y', if_pos rfl]
                exact ⟨S', rfl, f⟩
            · rw [if_neg z6, if_neg z6]
              exact ⟨S, rfl, FrT_r⟩
theorem hin_c0 {S : Mem} (d t τ : Nat) {a b : Int32} (h : inb a 12 = false ∨ inb b 12 = false) : cal (d + 1) 31 [vR 1 t, vI a, vI b, vR 5 τ] S = some (some (vI (-1)), S) := by
  rw [B_X1_hindrance, isPage_t, bI_s, ite_b0]
  cases h1 : inb a 12
  · rw [if_pos rfl]
  · have h2 : inb b 12 = false := h.elim (fun z => by rw [h1] at z; cases z) id
    rw [if_neg (by decide), isPage_t, bI_s, ite_b0, h2, if_pos rfl]
theorem letNow_m {S : Mem} {r : Nat} {A : AS} {L : Nat → Option (Env → Int)} (h : RP S (r + 1) 4 A) (I : Inv A) (hL : RM S r (rdI S (r + 1) 1) 0 (L 0)) {p q : Nat} (hp : ¬ A 1 p = -1) (hq : ¬ A 1 q = -1) (d : Nat) : ∃ S', cal (d + 4) 226 [vR 8 r, vI (A 1 p), vI (A 1 q)] S = some (some (vI (b2i (letA L A p q))), S') ∧ FrL r S S' := by
  obtain ⟨e1, l1⟩ := bcN_e (lvP_ok I p)
  obtain ⟨e2, l2⟩ := bcN_e (lvP_ok I q)
  obtain ⟨S', e, f⟩ := let_m (x := rdI S (r + 1) 1) h I hL l1 l2 d
  have x1 : ix 1 = 1 := rfl
  have g1 : cal (d + 3) 166 [vR 8 r, vI (A 1 p)] S = some (some (vI (lvP A p)), S) := km_liveIn h (d + 3) hp
  have g2 : cal (d + 3) 166 [vR 8 r, vI (A 1 q)] S = some (some (vI (lvP A q)), S) := km_liveIn h (d + 3) hq
  rw [B_X8_isLetNow, gd_p (show inb 1 13669 = true by decide), x1, g1, bI_s, km_bits (d + 3) (lvP_ok I p), bI_s, g2, bI_s, km_bits (d + 3) (lvP_ok I q), bI_s, e1, e2, e, bI_s, gd_p (isZ_b _)]
  exact ⟨S', rfl, f⟩
theorem can_m {S : Mem} {r : Nat} {A : AS} {L : Nat → Option (Env → Int)} (h : RP S (r + 1) 4 A) (I : Inv A) (hL : RM S r (rdI S (r + 1) 1) 0 (L 0)) {p q : Nat} (hp : p < 12) (hq : q < 12) (d : Nat) : ∃ S', cal (d + 5) 240 [vR 8 r, vI (nI p), vI (nI q)] S = some (some (vI (nI (hinA L A p q))), S') ∧ FrL r S S' := by
  have r1 : rdI S (r + 1) (11 + p) = A 1 p := m1 h p hp
  have r2 : rdI S (r + 1) (11 + q) = A 1 q := m1 h q hq
  rw [B_X8_canMesh, km_areOpen h, bI_s, fOpen_nI hp, fOpen_nI hq, ite_b0]
  unfold hinA
  by_cases z1 : A 1 p = -1
  · rw [decide_eq_false (not_not_intro z1), Bool.false_and, if_pos rfl, if_pos (Or.inl z1)]
    exact ⟨S, rfl, FrL_r⟩
  · by_cases z2 : A 1 q = -1
    · rw [decide_eq_false (show ¬ ¬ A 1 q = -1 from not_not_intro z2), Bool.and_false, if_pos rfl, if_pos (Or.inr z2)]
      exact ⟨S, rfl, FrL_r⟩
    · rw [decide_eq_true z1, decide_eq_true z2, if_neg (by decide), a11, a11, i13 (by omega), gd_t, i13 (by omega), gd_t, ix_nI (by omega), ix_nI (by omega), r1, r2, if_neg (show ¬ (A 1 p = -1 ∨ A 1 q = -1) from fun z => z.elim z1 z2)]
      by_cases z3 : A 1 p = A 1 q
      · rw [if_pos z3, if_pos z3]
        exact ⟨S, rfl, FrL_r⟩
      · rw [if_neg z3, if_neg z3, km_bound h, bI_s, ite_b0]
        by_cases z4 : mBound (A 0 3) (A 0 4) (A 1 p) = true
        · rw [z4, if_neg (by decide), if_pos (Or.inl rfl)]
          exact ⟨S, rfl, FrL_r⟩
        · rw [if_pos (by simpa using z4), km_bound h, bI_s, ite_b0]
          by_cases z5 : mBound (A 0 3) (A 0 4) (A 1 q) = true
          · rw [z5, if_neg (by decide), if_pos (Or.inr rfl)]
            exact ⟨S, rfl, FrL_r⟩
          · have g1 : cal (d + 4) 166 [vR 8 r, vI (A 1 p)] S = some (some (vI (lvP A p)), S) := km_liveIn h (d + 4) z1
            have g2 : cal (d + 4) 166 [vR 8 r, vI (A 1 q)] S = some (some (vI (lvP A q)), S) := km_liveIn h (d + 4) z2
            rw [if_pos (by simpa using z5), g1, bI_s, g2, bI_s, if_neg (show ¬ (mBound (A 0 3) (A 0 4) (A 1 p) = true ∨ mBound (A 0 3) (A 0 4) (A 1 q) = true) from fun z => z.elim z4 z5)]
            by_cases z6 : lvP A p &&& lvP A q = 0
            · obtain ⟨S', e, f⟩ := letNow_m h I hL z1 z2 d
              rw [if_pos z6, if_pos z6, e, bI_s, ite_b0]
              cases letA L A p q
              · rw [if_pos rfl, if_neg (by decide)]
                exact ⟨S', rfl, f⟩
              · rw [if_neg (by decide), if_pos rfl]
                exact ⟨S', rfl, f⟩
            · rw [if_neg z6, if_neg z6]
              exact ⟨S, rfl, FrL_r⟩
/-- what it means that two can be meshed -/
theorem hin_0 {L : Nat → Option (Env → Int)} {A : AS} {p q : Nat} (h : hinA L A p q = 0) : ¬ A 1 p = -1 ∧ ¬ A 1 q = -1 ∧ ¬ A 1 p = A 1 q ∧ mBound (A 0 3) (A 0 4) (A 1 p) = false ∧ mBound (A 0 3) (A 0 4) (A 1 q) = false ∧ lvP A p &&& lvP A q = 0 := by
  unfold hinA at h
  by_cases z1 : A 1 p = -1 ∨ A 1 q = -1
  · rw [if_pos z1] at h; cases h
  · rw [if_neg z1] at h
    by_cases z3 : A 1 p = A 1 q
    · rw [if_pos z3] at h; cases h
    · rw [if_neg z3] at h
      by_cases z4 : mBound (A 0 3) (A 0 4) (A 1 p) = true ∨ mBound (A 0 3) (A 0 4) (A 1 q) = true
      · rw [if_pos z4] at h; cases h
      · rw [if_neg z4] at h
        by_cases z6 : lvP A p &&& lvP A q = 0
        · exact ⟨fun z => z1 (Or.inl z), fun z => z1 (Or.inr z), z3, by
            cases y : mBound (A 0 3) (A 0 4) (A 1 p)
            · rfl
            · exact absurd (Or.inl y) z4, by
            cases y : mBound (A 0 3) (A 0 4) (A 1 q)
            · rfl
            · exact absurd (Or.inr y) z4, z6⟩
        · rw [if_neg z6] at h; cases h
