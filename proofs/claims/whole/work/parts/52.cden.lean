/-! what a stretch of a text's code in the class says -/
abbrev Env : Type := (Nat → Int) × ((Nat → Int) × (Nat → Int))
def EOK (E : Env) : Prop := (∀ n, bd6 (E.1 n)) ∧ (∀ p, bd6 (E.2.1 p)) ∧ (∀ p, bd6 (E.2.2 p))
def EnvC (S : Mem) (τ t : Nat) (al : Nat → Bool) (E : Env) : Prop := (∀ n, n < 6 → al n = true → (rdI S (τ + 8) n).toInt = E.1 n) ∧ (∀ p, p < 12 → (bitc (rdI S (t + 2) p)).toInt = E.2.1 p) ∧ (∀ p, p < 12 → (rdI S (t + 1) p + 1).toInt = E.2.2 p)
def AtC (S : Mem) (τ : Nat) (cd nb : Nat → Int32) (i j : Nat) : Prop := ∀ x, i ≤ x → x < j → rdI S (τ + 6) x = cd x ∧ rdI S (τ + 7) x = nb x
/-- what the walk of a law is about -/
def WkC (S : Mem) (τ t : Nat) (al : Nat → Bool) (E : Env) (law en : Nat) : Prop := EOK E ∧ EnvC S τ t al E ∧ law < 2 ∧ rdI S (τ + 5) law = nI en ∧ en ≤ 300 ∧ (τ + 9 < t ∨ t + 7 ≤ τ)
noncomputable def lp (d τ t law top i st : Nat) (u3 u4 u8 u9 : AV) (S : Mem) : Option Res := ev (d + 2) 93 106 [vR 5 τ, vI (nI law), vR 1 t, u3, u4, vI (nI top), vI (nI i), vI (nI st), u8, u9] [] S
def KpC (τ top : Nat) (S S' : Mem) : Prop := (∀ x, x < top → rdI S' (τ + 9) x = rdI S (τ + 9) x) ∧ (∀ c, ¬ c = τ + 9 → rdI S' c = rdI S c) ∧ S'.2 = S.2
theorem KpC_t {τ top : Nat} {S S1 S2 : Mem} (h : KpC τ top S S1) (h2 : KpC τ top S1 S2) : KpC τ top S S2 := ⟨fun x hx => (h2.1 x hx).trans (h.1 x hx), fun c hc => (h2.2.1 c hc).trans (h.2.1 c hc), h2.2.2.trans h.2.2⟩
theorem KpC_w (τ : Nat) {top k : Nat} (S : Mem) (v : Int32) (h : top ≤ k) : KpC τ top S (wrI S (τ + 9) k v) := ⟨fun x hx => by rw [rdI_wrI, if_neg (by omega)], fun c hc => funext fun b => by rw [rdI_wrI, if_neg (fun z => hc z.1)], rfl⟩
theorem KpC_m {τ top top' : Nat} {S S' : Mem} (h : KpC τ top S S') (hl : top' ≤ top) : KpC τ top' S S' := ⟨fun x hx => h.1 x (by omega), h.2⟩
theorem WkC_k {S S' : Mem} {τ t : Nat} {al : Nat → Bool} {E : Env} {law en top : Nat} (h : WkC S τ t al E law en) (k : KpC τ top S S') : WkC S' τ t al E law en := by
  obtain ⟨h1, ⟨h2, h3, h4⟩, h5, h6, h7, h8⟩ := h
  refine ⟨h1, ⟨fun n hn ha => ?_, fun p hp => ?_, fun p hp => ?_⟩, h5, ?_, h7, h8⟩
  · rw [k.2.1 _ (by omega)]; exact h2 n hn ha
  · rw [k.2.1 _ (by omega)]; exact h3 p hp
  · rw [k.2.1 _ (by omega)]; exact h4 p hp
  · rw [k.2.1 _ (by omega)]; exact h6
theorem AtC_k {S S' : Mem} {τ top : Nat} {cd nb : Nat → Int32} {i j : Nat} (h : AtC S τ cd nb i j) (k : KpC τ top S S') : AtC S' τ cd nb i j := fun x h1 h2 => by
  rw [k.2.1 _ (by omega), k.2.1 _ (by omega)]; exact h x h1 h2
theorem AtC_s {S : Mem} {τ : Nat} {cd nb : Nat → Int32} {i j i' j' : Nat} (h : AtC S τ cd nb i j) (h1 : i ≤ i') (h2 : j' ≤ j) : AtC S τ cd nb i' j' := fun x h3 h4 => h x (by omega) (by omega)
def CD (al : Nat → Bool) (cd nb : Nat → Int32) (i j h : Nat) (v : Env → Int) : Prop := i < j ∧ (∀ E, EOK E → bd6 (v E)) ∧ ∀ (d τ t : Nat) (S : Mem) (E : Env) (law en top st : Nat) (u3 u4 u8 u9 : AV), WkC S τ t al E law en → AtC S τ cd nb i j → j ≤ en → top ≤ h → st ≤ i → ∃ S' st' v3 v4 v8 v9, lp d τ t law top i st u3 u4 u8 u9 S = lp d τ t law (top + 1) j st' v3 v4 v8 v9 S' ∧ st' ≤ j ∧ (rdI S' (τ + 9) top).toInt = v E ∧ KpC τ top S S'
theorem CD_cong {al : Nat → Bool} {cd nb cd' nb' : Nat → Int32} {i j h : Nat} {v : Env → Int} (H : CD al cd nb i j h v) (e : ∀ x, i ≤ x → x < j → cd' x = cd x ∧ nb' x = nb x) : CD al cd' nb' i j h v := by
  refine ⟨H.1, H.2.1, fun d τ t S E law en top st u3 u4 u8 u9 hw ha hj ht hs => H.2.2 d τ t S E law en top st u3 u4 u8 u9 hw (fun x h1 h2 => ?_) hj ht hs⟩
  obtain ⟨e1, e2⟩ := e x h1 h2
  obtain ⟨a1, a2⟩ := ha x h1 h2
  exact ⟨a1.trans e1, a2.trans e2⟩
theorem CD_le {al : Nat → Bool} {cd nb : Nat → Int32} {i j h h' : Nat} {v : Env → Int} (H : CD al cd nb i j h v) (hl : h' ≤ h) : CD al cd nb i j h' v := ⟨H.1, H.2.1, fun d τ t S E law en top st u3 u4 u8 u9 hw ha hj ht hs => H.2.2 d τ t S E law en top st u3 u4 u8 u9 hw ha hj (by omega) hs⟩
theorem n300 {p : Nat} (h : p < 300) : ¬ (300 : Int32) ≤ nI p := nI_ge (b := 300) h (by decide)
theorem i64 {p : Nat} (h : p < 64) : inb (nI p) 64 = true := inb_t h (by decide)
theorem i300 {p : Nat} (h : p < 300) : inb (nI p) 300 = true := inb_t h (by decide)
theorem i2 {p : Nat} (h : p < 2) : inb (nI p) 2 = true := inb_t h (by decide)
theorem en_gt {en i : Nat} (h : i < en) (h2 : en ≤ 300) : ¬ nI en ≤ nI i := nI_ge h (by omega)
theorem m1_add {k : Nat} (h : 0 < k) : nI k + (-1) = nI (k - 1) := by
  have e := pk_m1 (k - 1)
  rwa [show k - 1 + 1 = k by omega] at e
theorem s1_sub {k : Nat} (h : 0 < k) : nI k - 1 = nI (k - 1) := pk_sub (b := 1) h
theorem CD_num (al : Nat → Bool) {cd nb : Nat → Int32} {i n : Nat} (hc : cd i = 38) (hn : nb i = nI n) (hb : n ≤ 9999) : CD al cd nb i (i + 1) 63 (fun _ => (n : Int)) := by
  refine ⟨by omega, fun E _ => ⟨show -1000000 ≤ (n : Int) by omega, show (n : Int) ≤ 1000000 by omega⟩, fun d τ t S E law en top st u3 u4 u8 u9 hw ha hj ht hs => ?_⟩
  obtain ⟨h1, h2, h5, h6, h7, h8⟩ := hw
  obtain ⟨a1, a2⟩ := ha i (Nat.le_refl _) (by omega)
  refine ⟨wrI S (τ + 9) top (nI n), st + 1, vU, vU, vU, vU, ?_, by omega, ?_, KpC_w τ S _ (Nat.le_refl _)⟩
  · unfold lp
    rw [B_X5_worth_106, if_neg (n300 (by omega)), if_neg (nI_pos (by omega)), i2 h5, gd_t, ix_nI (by omega), h6, if_neg (en_gt (by omega) h7), if_neg (n300 (by omega)), i300 (by omega), gd_t, gd_t, ix_nI (by omega), a1, hc, if_neg (by decide), if_neg (by decide), if_neg (by decide), if_neg (by decide), if_neg (by decide), if_neg (by decide), B_X5_isPushed, if_pos rfl, gd_p isZ_1, bI_s, if_neg (by decide), if_neg (show ¬ (64 : Int32) ≤ nI top from nI_ge (b := 64) (by omega) (by decide)), if_pos rfl, i64 (by omega), gd_t, ix_nI (by omega), a2, hn, nI_1, nI_1, nI_1]
  · rw [rdI_wrI, if_pos ⟨rfl, rfl⟩, nI_toInt (by omega)]
theorem CD_name (al : Nat → Bool) {cd nb : Nat → Int32} {i n : Nat} (hc : cd i = nI (19 + n)) (hn : n < 6) (hal : al n = true) : CD al cd nb i (i + 1) 63 (fun E => E.1 n) := by
  refine ⟨by omega, fun E hE => hE.1 n, fun d τ t S E law en top st u3 u4 u8 u9 hw ha hj ht hs => ?_⟩
  obtain ⟨h1, h2, h5, h6, h7, h8⟩ := hw
  obtain ⟨a1, -⟩ := ha i (Nat.le_refl _) (by omega)
  have hne : ∀ k : Nat, k < 2 ^ 31 → (k < 19 ∨ 24 < k) → ¬ nI (19 + n) = nI k := fun k hk hk2 z => by
    have := (nI_eq (by omega) hk).mp z
    omega
  have hpu : cal (d + 1) 94 [vI (nI (19 + n))] S = some (some (vI 1), S) := by
    rw [B_X5_isPushed, if_neg (show ¬ nI (19 + n) = 38 from hne 38 (by decide) (by decide)), if_neg (show ¬ nI (19 + n) < 19 from nI_nlt (b := 19) (by omega) (by omega)), if_neg (show ¬ (24 : Int32) < nI (19 + n) from nI_nlt (a := 24) (by omega) (by decide)), gd_p isZ_1]
  have e19 : nI (19 + n) - 19 = nI n := by
    have := pk_sub (a := 19 + n) (b := 19) (by omega)
    rw [show 19 + n - 19 = n by omega] at this
    exact this
  refine ⟨wrI S (τ + 9) top (rdI S (τ + 8) n), st + 1, vU, vU, vU, vU, ?_, by omega, ?_, KpC_w τ S _ (Nat.le_refl _)⟩
  · unfold lp
    rw [B_X5_worth_106, if_neg (n300 (by omega)), if_neg (nI_pos (by omega)), i2 h5, gd_t, ix_nI (by omega), h6, if_neg (en_gt (by omega) h7), if_neg (n300 (by omega)), i300 (by omega), gd_t, gd_t, ix_nI (by omega), a1, hc, if_neg (show ¬ nI (19 + n) = 10 from hne 10 (by decide) (by decide)), if_neg (show ¬ nI (19 + n) = 11 from hne 11 (by decide) (by decide)), if_neg (show ¬ nI (19 + n) = 18 from hne 18 (by decide) (by decide)), if_neg (show ¬ nI (19 + n) = 41 from hne 41 (by decide) (by decide)), if_neg (show ¬ nI (19 + n) = 42 from hne 42 (by decide) (by decide)), if_neg (show ¬ nI (19 + n) = 43 from hne 43 (by decide) (by decide)), hpu, bI_s, if_neg (by decide), if_neg (show ¬ (64 : Int32) ≤ nI top from nI_ge (b := 64) (by omega) (by decide)), if_neg (show ¬ nI (19 + n) = 38 from hne 38 (by decide) (by decide)), e19, inb_t hn (by decide), gd_t, i64 (by omega), gd_t, ix_nI (by omega), ix_nI (by omega), nI_1, nI_1, nI_1]
  · rw [rdI_wrI, if_pos ⟨rfl, rfl⟩]
    exact h2.1 n hn hal
/-- signs ahead of one -/
def uop (o : Nat) (E : Env) (x : Int) : Int := if o = 41 then -x else if 0 ≤ x ∧ x < 12 then (if o = 10 then E.2.1 x.toNat else E.2.2 x.toNat) else 0
theorem uop_bd {o : Nat} {E : Env} (hE : EOK E) {x : Int} (hx : bd6 x) : bd6 (uop o E x) := by
  unfold uop
  by_cases h : o = 41
  · rw [if_pos h]; unfold bd6 at hx ⊢; omega
  · rw [if_neg h]
    by_cases h2 : 0 ≤ x ∧ x < 12
    · rw [if_pos h2]
      by_cases h3 : o = 10
      · rw [if_pos h3]; exact hE.2.1 _
      · rw [if_neg h3]; exact hE.2.2 _
    · rw [if_neg h2]; exact ⟨by decide, by decide⟩
theorem int_nI {a : Int32} {x : Int} (h : a.toInt = x) (h0 : 0 ≤ x) : a = nI x.toNat ∧ x.toNat < 2 ^ 31 := by
  have hlt : a.toInt < 2 ^ 31 := Int32.toInt_lt a
  have hb : x.toNat < 2 ^ 31 := by omega
  refine ⟨Int32.toInt_inj.mp ?_, hb⟩
  rw [nI_toInt hb, h]; omega
theorem neg_t {a : Int32} {x : Int} (h : a.toInt = x) (hx : bd6 x) : (-a).toInt = -x := by
  unfold bd6 at hx
  rw [Int32.toInt_neg, h, bm32 (by omega) (by omega)]
theorem turned_t {S : Mem} {τ t : Nat} {al : Nat → Bool} {E : Env} (hE : EnvC S τ t al E) (d : Nat) {o : Nat} (ho : o = 10 ∨ o = 11 ∨ o = 41) {a : Int32} {x : Int} (ha : a.toInt = x) (hx : bd6 x) : ∃ b : Int32, cal (d + 1) 95 [vI (nI o), vI a, vR 1 t] S = some (some (vI b), S) ∧ b.toInt = uop o E x := by
  have hx' := hx
  unfold bd6 at hx'
  by_cases h0 : a < 0
  · have h0' : x < 0 := by rw [← ha]; exact Int32.lt_iff_toInt_lt.mp h0
    rcases ho with rfl | rfl | rfl
    · exact ⟨0, by rw [B_X5_turned, if_pos h0]; rfl, by unfold uop; rw [if_neg (by decide), if_neg (by omega)]; rfl⟩
    · exact ⟨0, by rw [B_X5_turned, if_pos h0]; rfl, by unfold uop; rw [if_neg (by decide), if_neg (by omega)]; rfl⟩
    · exact ⟨-a, by rw [B_X5_turned, if_pos h0]; rfl, by unfold uop; rw [if_pos rfl]; exact neg_t ha hx⟩
  · have h0' : ¬ x < 0 := fun z => h0 (Int32.lt_iff_toInt_lt.mpr (by rw [ha]; exact z))
    obtain ⟨ea, hlt⟩ := int_nI ha (by omega)
    by_cases h12 : (12 : Int32) ≤ a
    · have h12' : 12 ≤ x := by rw [← ha]; exact Int32.le_iff_toInt_le.mp h12
      rcases ho with rfl | rfl | rfl
      · exact ⟨0, by rw [B_X5_turned, if_neg h0, if_pos h12]; rfl, by unfold uop; rw [if_neg (by decide), if_neg (by omega)]; rfl⟩
      · exact ⟨0, by rw [B_X5_turned, if_neg h0, if_pos h12]; rfl, by unfold uop; rw [if_neg (by decide), if_neg (by omega)]; rfl⟩
      · exact ⟨-a, by rw [B_X5_turned, if_neg h0, if_pos h12]; rfl, by unfold uop; rw [if_pos rfl]; exact neg_t ha hx⟩
    · have h12' : x < 12 := by
        by_cases z : x < 12
        · exact z
        · exact absurd (Int32.le_iff_toInt_le.mpr (by rw [ha]; show (12 : Int) ≤ x; omega)) h12
      have hp : x.toNat < 12 := by omega
      rcases ho with rfl | rfl | rfl
      · refine ⟨bitc (rdI S (t + 2) x.toNat), ?_, ?_⟩
        · rw [B_X5_turned, if_neg h0, if_neg h12, if_pos (show nI 10 = 10 from rfl), if_neg (by decide), ea, i12 hp, gd_t, sp_bitCount, bI_s, x12 hp]
        · unfold uop; rw [if_neg (by decide), if_pos (by omega), if_pos rfl]; exact hE.2.1 _ hp
      · refine ⟨rdI S (t + 1) x.toNat + 1, ?_, ?_⟩
        · rw [B_X5_turned, if_neg h0, if_neg h12, if_neg (show ¬ nI 11 = 10 by decide), if_pos (show nI 11 = 11 from rfl), if_neg (by decide), ea, i12 hp, gd_t, x12 hp]
        · unfold uop; rw [if_neg (by decide), if_pos (by omega), if_neg (by decide)]; exact hE.2.2 _ hp
      · exact ⟨-a, by rw [B_X5_turned, if_neg h0, if_neg h12]; rfl, by unfold uop; rw [if_pos rfl]; exact neg_t ha hx⟩
theorem CD_un {al : Nat → Bool} {cd nb : Nat → Int32} {i j h o : Nat} {v : Env → Int} (H : CD al cd nb i j h v) (ho : o = 10 ∨ o = 11 ∨ o = 41) (hc : cd j = nI o) (hh : h < 64) : CD al cd nb i (j + 1) h (fun E => uop o E (v E)) := by
  obtain ⟨hij, hbd, H⟩ := H
  refine ⟨by omega, fun E hE => uop_bd hE (hbd E hE), fun d τ t S E law en top st u3 u4 u8 u9 hw ha hj ht hs => ?_⟩
  obtain ⟨S1, st1, v3, v4, v8, v9, e1, hst, ev1, k1⟩ := H d τ t S E law en top st u3 u4 u8 u9 hw (AtC_s ha (Nat.le_refl _) (by omega)) (by omega) ht hs
  have hw1 := WkC_k hw k1
  obtain ⟨a1, -⟩ := AtC_k ha k1 j (by omega) (by omega)
  obtain ⟨h1, h2, h5, h6, h7, h8⟩ := hw1
  obtain ⟨b, eb, hb⟩ := turned_t h2 d ho ev1 (hbd E h1)
  refine ⟨wrI S1 (τ + 9) top b, st1 + 1, vU, vU, vU, vU, ?_, by omega, ?_, KpC_t k1 (KpC_w τ S1 _ (Nat.le_refl _))⟩
  · rw [e1]
    unfold lp
    have htop : ¬ nI (top + 1) < 1 := nlt1 (by omega) (by omega)
    have hts : nI (top + 1) - 1 = nI top := s1_sub (by omega)
    rw [B_X5_worth_106, if_neg (n300 (by omega)), if_neg (nI_pos (by omega)), i2 h5, gd_t, ix_nI (by omega), h6, if_neg (en_gt (by omega) h7), if_neg (n300 (by omega)), i300 (by omega), gd_t, gd_t, ix_nI (by omega), a1, hc]
    rcases ho with rfl | rfl | rfl
    · rw [if_pos (show nI 10 = 10 from rfl), if_neg htop, hts, i64 (by omega), gd_t, ix_nI (by omega), eb, bI_s, gd_t, nI_1, nI_1]
    · rw [if_neg (show ¬ nI 11 = 10 by decide), if_pos (show nI 11 = 11 from rfl), if_neg htop, hts, i64 (by omega), gd_t, ix_nI (by omega), eb, bI_s, gd_t, nI_1, nI_1]
    · rw [if_neg (show ¬ nI 41 = 10 by decide), if_neg (show ¬ nI 41 = 11 by decide), if_neg (show ¬ nI 41 = 18 by decide), if_pos (show nI 41 = 41 from rfl), if_neg htop, hts, i64 (by omega), gd_t, ix_nI (by omega), eb, bI_s, gd_t, nI_1, nI_1]
  · rw [rdI_wrI, if_pos ⟨rfl, rfl⟩]; exact hb
theorem CD_not {al : Nat → Bool} {cd nb : Nat → Int32} {i j h : Nat} {v : Env → Bool} (H : CD al cd nb i j h (fun E => b01 (v E))) (hc : cd j = 18) (hh : h < 64) : CD al cd nb i (j + 1) h (fun E => b01 (!(v E))) := by
  obtain ⟨hij, hbd, H⟩ := H
  refine ⟨by omega, fun E hE => b01_bd _, fun d τ t S E law en top st u3 u4 u8 u9 hw ha hj ht hs => ?_⟩
  obtain ⟨S1, st1, v3, v4, v8, v9, e1, hst, ev1, k1⟩ := H d τ t S E law en top st u3 u4 u8 u9 hw (AtC_s ha (Nat.le_refl _) (by omega)) (by omega) ht hs
  have hw1 := WkC_k hw k1
  obtain ⟨a1, -⟩ := AtC_k ha k1 j (by omega) (by omega)
  obtain ⟨h1, h2, h5, h6, h7, h8⟩ := hw1
  have eb : cal (d + 1) 95 [vI 18, vI (rdI S1 (τ + 9) top), vR 1 t] S1 = some (some (vI (b2i (!(v E)))), S1) := by
    rw [b01_t ev1]
    cases v E
    · rw [B_X5_turned]; rfl
    · rw [B_X5_turned]; rfl
  refine ⟨wrI S1 (τ + 9) top (b2i (!(v E))), st1 + 1, vU, vU, vU, vU, ?_, by omega, ?_, KpC_t k1 (KpC_w τ S1 _ (Nat.le_refl _))⟩
  · rw [e1]
    unfold lp
    have htop : ¬ nI (top + 1) < 1 := nlt1 (by omega) (by omega)
    have hts : nI (top + 1) - 1 = nI top := s1_sub (by omega)
    rw [B_X5_worth_106, if_neg (n300 (by omega)), if_neg (nI_pos (by omega)), i2 h5, gd_t, ix_nI (by omega), h6, if_neg (en_gt (by omega) h7), if_neg (n300 (by omega)), i300 (by omega), gd_t, gd_t, ix_nI (by omega), a1, hc, if_neg (by decide), if_neg (by decide), if_pos rfl, if_neg htop, hts, i64 (by omega), gd_t, ix_nI (by omega), eb, bI_s, gd_t, nI_1, nI_1]
  · rw [rdI_wrI, if_pos ⟨rfl, rfl⟩]
    show (b2i (!(v E))).toInt = b01 (!(v E))
    cases v E <;> decide
/-- two stretches and a sign -/
theorem CD_two {al : Nat → Bool} {cd nb : Nat → Int32} {i j k h o : Nat} {v w : Env → Int} {f : Int → Int → Int} (H1 : CD al cd nb i j h v) (H2 : CD al cd nb j k (h + 1) w) (hh : h + 1 < 64) (hc : cd k = nI o) (ho : o = 16 ∨ o = 17 ∨ o = 25 ∨ o = 26 ∨ o = 27 ∨ o = 28 ∨ o = 29 ∨ o = 30 ∨ o = 31 ∨ o = 32 ∨ o = 33 ∨ o = 34) (hbf : ∀ E, EOK E → bd6 (f (v E) (w E))) (hj : ∀ (d : Nat) (E : Env) (a b : Int32) (S : Mem), EOK E → a.toInt = v E → b.toInt = w E → ∃ z : Int64, cal d 96 [vI (nI o), vI a, vI b] S = some (some (vL z), S) ∧ cl6 z.toInt = f (v E) (w E)) : CD al cd nb i (k + 1) h (fun E => f (v E) (w E)) := by
  obtain ⟨hij, hbd, H1⟩ := H1
  obtain ⟨hjk, hbd2, H2⟩ := H2
  refine ⟨by omega, hbf, fun d τ t S E law en top st u3 u4 u8 u9 hw ha hjn ht hs => ?_⟩
  obtain ⟨S1, st1, v3, v4, v8, v9, e1, hst, ev1, k1⟩ := H1 d τ t S E law en top st u3 u4 u8 u9 hw (AtC_s ha (Nat.le_refl _) (by omega)) (by omega) ht hs
  have hw1 := WkC_k hw k1
  have ha1 := AtC_k ha k1
  obtain ⟨S2, st2, w3, w4, w8, w9, e2, hst2, ev2, k2⟩ := H2 d τ t S1 E law en (top + 1) st1 v3 v4 v8 v9 hw1 (AtC_s ha1 (by omega) (by omega)) (by omega) (by omega) hst
  have hw2 := WkC_k hw1 k2
  have ha2 := AtC_k ha1 k2
  obtain ⟨a1, -⟩ := ha2 k (by omega) (by omega)
  obtain ⟨h1, h2, h5, h6, h7, h8⟩ := hw2
  have ev1' : (rdI S2 (τ + 9) top).toInt = v E := by rw [k2.1 top (by omega)]; exact ev1
  obtain ⟨z, ez, hz⟩ := hj (d + 1) E _ _ S2 h1 ev1' ev2
  have hne : ∀ q : Nat, q < 2 ^ 31 → ¬ o = q → ¬ nI o = nI q := fun q hq hq2 y => hq2 ((nI_eq (by omega) hq).mp y)
  have hpu : cal (d + 1) 94 [vI (nI o)] S2 = some (some (vI 0), S2) := by
    rw [B_X5_isPushed, if_neg (show ¬ nI o = 38 from hne 38 (by decide) (by omega))]
    by_cases q : nI o < 19
    · rw [if_pos q, gd_p isZ_0]
    · rw [if_neg q]
      have q' : ¬ o < 19 := fun y => q (nI_lt (b := 19) y (by decide))
      rw [if_pos (show (24 : Int32) < nI o from nI_lt (a := 24) (by omega) (by omega)), gd_p isZ_0]
  refine ⟨wrI S2 (τ + 9) top (Int64.toInt32 (maxLo (-1000000) (minLo 1000000 z))), st2 + 1, vU, vU, vU, vU, ?_, by omega, ?_, KpC_t (KpC_t k1 (KpC_m k2 (by omega))) (KpC_w τ S2 _ (Nat.le_refl _))⟩
  · rw [e1, e2]
    unfold lp
    have htop : ¬ nI (top + 1 + 1) < 2 := nI_nlt (b := 2) (by omega) (by omega)
    have hts : nI (top + 1 + 1) + (-1) = nI (top + 1) := pk_m1 _
    have hts2 : nI (top + 1) - 1 = nI top := s1_sub (by omega)
    rw [B_X5_worth_106, if_neg (n300 (by omega)), if_neg (nI_pos (by omega)), i2 h5, gd_t, ix_nI (by omega), h6, if_neg (en_gt (by omega) h7), if_neg (n300 (by omega)), i300 (by omega), gd_t, gd_t, ix_nI (by omega), a1, hc, if_neg (show ¬ nI o = 10 from hne 10 (by decide) (by omega)), if_neg (show ¬ nI o = 11 from hne 11 (by decide) (by omega)), if_neg (show ¬ nI o = 18 from hne 18 (by decide) (by omega)), if_neg (show ¬ nI o = 41 from hne 41 (by decide) (by omega)), if_neg (show ¬ nI o = 42 from hne 42 (by decide) (by omega)), if_neg (show ¬ nI o = 43 from hne 43 (by decide) (by omega)), hpu, bI_s, if_pos rfl, if_neg htop, hts, hts2, i64 (by omega), gd_t, i64 (by omega), gd_t, ix_nI (by omega), ix_nI (by omega), ez, bL_s, B_X5_limited, bI_s, gd_t, nI_1, nI_1]
  · rw [rdI_wrI, if_pos ⟨rfl, rfl⟩, lim_t]; exact hz
theorem CD_bop {al : Nat → Bool} {cd nb : Nat → Int32} {i j k h o : Nat} {v w : Env → Int} (H1 : CD al cd nb i j h v) (H2 : CD al cd nb j k (h + 1) w) (hh : h + 1 < 64) (hc : cd k = nI o) (ho : o = 31 ∨ o = 32 ∨ o = 33 ∨ o = 34) : CD al cd nb i (k + 1) h (fun E => bop o (v E) (w E)) :=
  CD_two (f := bop o) H1 H2 hh hc (by omega) (fun E _ => bop_bd _ _ _) (fun d E a b S hE ha hb => cj_bop d ho ha hb (H1.2.1 E hE) (H2.2.1 E hE) S)
theorem CD_cop {al : Nat → Bool} {cd nb : Nat → Int32} {i j k h o : Nat} {v w : Env → Int} (H1 : CD al cd nb i j h v) (H2 : CD al cd nb j k (h + 1) w) (hh : h + 1 < 64) (hc : cd k = nI o) (ho : o = 25 ∨ o = 26 ∨ o = 27 ∨ o = 28 ∨ o = 29 ∨ o = 30) : CD al cd nb i (k + 1) h (fun E => b01 (cop o (v E) (w E))) :=
  CD_two (f := fun x y => b01 (cop o x y)) H1 H2 hh hc (by omega) (fun E _ => b01_bd _) (fun d E a b S hE ha hb => cj_cop d ho ha hb S)
theorem b01_inj {x y : Bool} (h : b01 x = b01 y) : x = y := by cases x <;> cases y <;> first | rfl | exact absurd h (by decide)
theorem CD_bbo {al : Nat → Bool} {cd nb : Nat → Int32} {i j k h o : Nat} {v w : Env → Bool} (H1 : CD al cd nb i j h (fun E => b01 (v E))) (H2 : CD al cd nb j k (h + 1) (fun E => b01 (w E))) (hh : h + 1 < 64) (hc : cd k = nI o) (ho : o = 16 ∨ o = 17) : CD al cd nb i (k + 1) h (fun E => b01 (bbo o (v E) (w E))) := by
  have ex : ∀ x y : Bool, b01 (bbo o x y) = b01 (bbo o (decide (b01 x = 1)) (decide (b01 y = 1))) := fun x y => by cases x <;> cases y <;> rfl
  have H := CD_two (f := fun x y => b01 (bbo o (decide (x = 1)) (decide (y = 1)))) H1 H2 hh hc (by omega) (fun E _ => b01_bd _) (fun d E a b S hE ha hb => by
    obtain ⟨z, e1, e2⟩ := cj_bbo d ho ha hb S
    exact ⟨z, e1, e2.trans (ex _ _)⟩)
  have e : (fun E => b01 (bbo o (v E) (w E))) = (fun E => b01 (bbo o (decide (b01 (v E) = 1)) (decide (b01 (w E) = 1)))) := funext fun E => ex _ _
  rw [e]; exact H
/-- a choice -/
theorem CD_if {al : Nat → Bool} {cd nb : Nat → Int32} {i j k l h : Nat} {b : Env → Bool} {v w : Env → Int} (H0 : CD al cd nb i j h (fun E => b01 (b E))) (H1 : CD al cd nb (j + 1) k h v) (H2 : CD al cd nb (k + 1) l h w) (hh : h < 64) (c1 : cd j = 43) (n1 : nb j = nI (k + 1)) (c2 : cd k = 42) (n2 : nb k = nI l) : CD al cd nb i l h (fun E => if b E = true then v E else w E) := by
  obtain ⟨hij, hb0, H0⟩ := H0
  obtain ⟨hjk, hb1, H1⟩ := H1
  obtain ⟨hkl, hb2, H2⟩ := H2
  refine ⟨by omega, fun E hE => ?_, fun d τ t S E law en top st u3 u4 u8 u9 hw ha hjn ht hs => ?_⟩
  · show bd6 (if b E = true then v E else w E)
    by_cases z : b E = true
    · rw [if_pos z]; exact hb1 E hE
    · rw [if_neg z]; exact hb2 E hE
  dsimp only
  obtain ⟨S1, st1, v3, v4, v8, v9, e1, hst, ev1, k1⟩ := H0 d τ t S E law en top st u3 u4 u8 u9 hw (AtC_s ha (Nat.le_refl _) (by omega)) (by omega) ht hs
  have hw1 := WkC_k hw k1
  have ha1 := AtC_k ha k1
  obtain ⟨a1, a2⟩ := ha1 j (by omega) (by omega)
  have hmax : maxI 0 (nI (top + 1) - 1) = nI top := by
    rw [s1_sub (by omega)]
    unfold maxI
    by_cases z : (0 : Int32) < nI (top + 1 - 1)
    · rw [if_pos z]; rfl
    · rw [if_neg z]
      have : ¬ 0 < top := fun y => z (nI_lt (a := 0) (b := top + 1 - 1) (by omega) (by omega))
      rw [show top = 0 by omega]; rfl
  have hx := hw1
  obtain ⟨h1, h2, h5, h6, h7, h8⟩ := hx
  have ejump : lp d τ t law (top + 1) j st1 v3 v4 v8 v9 S1 = if rdI S1 (τ + 9) top = 0 then lp d τ t law top (k + 1) (st1 + 1) vU vU vU vU S1 else lp d τ t law top (j + 1) (st1 + 1) vU vU vU vU S1 := by
    unfold lp
    rw [B_X5_worth_106, if_neg (n300 (by omega)), if_neg (nI_pos (by omega)), i2 h5, gd_t, ix_nI (by omega), h6, if_neg (en_gt (by omega) h7), if_neg (n300 (by omega)), i300 (by omega), gd_t, gd_t, ix_nI (by omega), a1, c1, if_neg (by decide), if_neg (by decide), if_neg (by decide), if_neg (by decide), if_neg (by decide), if_pos rfl, hmax, i64 (by omega), gd_t, ix_nI (by omega), a2, n1, nI_1, nI_1]
  rw [e1, ejump, b01_t ev1, ite_b0]
  cases hb : b E
  · rw [if_pos rfl]
    obtain ⟨S2, st2, w3, w4, w8, w9, e2, hst2, ev2, k2⟩ := H2 d τ t S1 E law en top (st1 + 1) vU vU vU vU hw1 (AtC_s ha1 (by omega) (Nat.le_refl _)) hjn ht (by omega)
    exact ⟨S2, st2, w3, w4, w8, w9, e2, hst2, by rw [if_neg (by decide)]; exact ev2, KpC_t k1 k2⟩
  · rw [if_neg (by decide)]
    obtain ⟨S2, st2, w3, w4, w8, w9, e2, hst2, ev2, k2⟩ := H1 d τ t S1 E law en top (st1 + 1) vU vU vU vU hw1 (AtC_s ha1 (by omega) (by omega)) (by omega) ht (by omega)
    have hw2 := WkC_k hw1 k2
    obtain ⟨a3, a4⟩ := AtC_k ha1 k2 k (by omega) (by omega)
    obtain ⟨-, -, -, h6', -, -⟩ := hw2
    have ejmp : lp d τ t law (top + 1) k st2 w3 w4 w8 w9 S2 = lp d τ t law (top + 1) l (st2 + 1) vU vU vU vU S2 := by
      unfold lp
      rw [B_X5_worth_106, if_neg (n300 (by omega)), if_neg (nI_pos (by omega)), i2 h5, gd_t, ix_nI (by omega), h6', if_neg (en_gt (by omega) h7), if_neg (n300 (by omega)), i300 (by omega), gd_t, gd_t, ix_nI (by omega), a3, c2, if_neg (by decide), if_neg (by decide), if_neg (by decide), if_neg (by decide), if_pos rfl, a4, n2, nI_1]
    exact ⟨S2, st2 + 1, vU, vU, vU, vU, e2.trans ejmp, by omega, by rw [if_pos rfl]; exact ev2, KpC_t k1 k2⟩
