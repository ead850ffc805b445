/-! moved, slot by slot -/
def mvW (A : AS) : Int32 := fLiveIn (A 1) (A 2) (A 0 3) &&& (A 0 5 ^^^ -1)
def mvO (A : AS) : Int32 := mvW A &&& -(mvW A)
def mvB (A : AS) : AS := up (cpN (mvO A) (ix (A 0 3)) (ix (A 0 4)) 16 A) 0 5 (A 0 5 ||| mvO A)
def moveA (A : AS) : AS := if mvW A = mvO A then joinA (ix (A 0 3)) (ix (A 0 4)) (unbA (mvB A)) else mvB A
def mvR (A : AS) : Int32 := bitc (mvW A &&& (mvO A ^^^ -1))
theorem cpN_0 (go st : Nat) (A : AS) : ∀ n, cpN 0 go st n A = A
  | 0 => rfl
  | n + 1 => by
    unfold cpN
    have e : shrI 0 (nI n) = 0 := Int32.zero_shiftRight
    rw [e, if_neg (by decide)]
    exact cpN_0 go st A n
theorem cpN_1 (go st : Nat) {s : Nat} (hs : s < 16) (A : AS) : ∀ n, n ≤ 16 → cpN (nI (2 ^ s)) go st n A = if s < n then cpS go st s A else A
  | 0, _ => by rw [if_neg (Nat.not_lt_zero _)]; rfl
  | n + 1, hn => by
    have hp := pw hs
    have hb : (shrI (nI (2 ^ s)) (nI n) &&& 1 = 1) ↔ s = n := by
      rw [← decide_eq_true_iff (p := shrI (nI (2 ^ s)) (nI n) &&& 1 = 1), bit_1 (by omega) (by omega), Nat.testBit_two_pow, decide_eq_true_iff]
    unfold cpN
    rw [cpN_1 go st hs A n (by omega)]
    by_cases z : s = n
    · rw [if_pos (hb.mpr z), if_neg (by omega), if_pos (by omega), z]
    · rw [if_neg (fun y => z (hb.mp y))]
      by_cases y : s < n
      · rw [if_pos y, if_pos (by omega)]
      · rw [if_neg y, if_neg (by omega)]
theorem joinA_e {go st : Nat} {A B : AS} (h : ∀ a b, ¬ (a = 0 ∧ (b = 3 ∨ b = 4 ∨ b = 5)) → B a b = A a b) : ∀ a b, ¬ (a = 0 ∧ (b = 3 ∨ b = 4 ∨ b = 5)) → joinA go st B a b = joinA go st A a b := by
  have hj : ∀ a b, ¬ (a = 0 ∧ (b = 3 ∨ b = 4 ∨ b = 5)) → jnB go st B a b = jnB go st A a b := fun a b hab => by
    unfold jnB up
    by_cases e : a = 0 ∧ b = 2
    · rw [if_pos e, if_pos e, h 0 2 (by omega)]
    · rw [if_neg e, if_neg e]
      unfold jnN
      rw [h 1 b (by omega), h a b hab]
  have h00 := hj 0 0 (by omega)
  have h06 := hj 0 6 (by omega)
  intro a b hab
  unfold joinA wdA lnC
  rw [h00, h06]
  by_cases c : ix (jnB go st A 0 6) < 25
  · rw [if_pos c, if_pos c]
    unfold up
    by_cases e : a = 0 ∧ b = 6
    · rw [if_pos e, if_pos e]
    · rw [if_neg e, if_neg e]
      by_cases e5 : a = 5 ∧ b = ix (jnB go st A 0 6)
      · rw [if_pos e5, if_pos e5]
      · rw [if_neg e5, if_neg e5]; exact hj a b hab
  · rw [if_neg c, if_neg c]
    unfold up shA
    by_cases e : a = 0 ∧ b = 6
    · rw [if_pos e, if_pos e]
    · rw [if_neg e, if_neg e]
      by_cases e5 : a = 5 ∧ b = 24
      · rw [if_pos e5, if_pos e5]
      · rw [if_neg e5, if_neg e5]
        by_cases e6 : a = 5 ∧ b < 24
        · rw [if_pos e6, if_pos e6]; exact hj 5 (b + 1) (by omega)
        · rw [if_neg e6, if_neg e6]; exact hj a b hab
theorem unb_o (A : AS) {a b : Nat} (h : ¬ (a = 0 ∧ (b = 3 ∨ b = 4 ∨ b = 5))) : unbA A a b = A a b := by
  unfold unbA
  rw [up_n (by omega), up_n (by omega), up_n (by omega)]
theorem unb_345 (A B : AS) {a b : Nat} (h : a = 0 ∧ (b = 3 ∨ b = 4 ∨ b = 5)) : unbA A a b = unbA B a b := by
  obtain ⟨rfl, rfl | rfl | rfl⟩ := h
  · unfold unbA; rw [up_n (by omega), up_n (by omega), up_s, up_n (by omega), up_n (by omega), up_s]
  · unfold unbA; rw [up_n (by omega), up_s, up_n (by omega), up_s]
  · unfold unbA; rw [up_s, up_s]
theorem unb_join (go st : Nat) (A : AS) : unbA (joinA go st A) = joinA go st (unbA A) := by
  funext a b
  by_cases z : a = 0 ∧ (b = 3 ∨ b = 4 ∨ b = 5)
  · rw [unb_345 _ A z]
    obtain ⟨rfl, hb⟩ := z
    rw [joinA_0 _ _ _ (by omega) (by omega)]
  · rw [unb_o _ z]
    exact (joinA_e (fun a b h => unb_o A h) a b z).symm
theorem mvB_k (A : AS) {a : Nat} (h0 : ¬ a = 0) (h4 : ¬ a = 4) : mvB A a = A a := by
  unfold mvB
  rw [up_k h0, cpN_k _ _ _ h4]
theorem mvB_0 (A : AS) {j : Nat} (h : ¬ j = 5) : mvB A 0 j = A 0 j := by
  unfold mvB
  rw [up_n (fun z => h z.2), cpN_k _ _ _ (by decide)]
theorem mvB_5 (A : AS) : mvB A 0 5 = A 0 5 ||| mvO A := up_s _ _ _ _
theorem mv_facts {A : AS} (I : Inv A) (hg : ¬ A 0 3 = -1) : ∃ g s m w, g < 12 ∧ s < 12 ∧ m < 65536 ∧ w < 65536 ∧ A 0 3 = nI g ∧ A 0 4 = nI s ∧ A 0 5 = nI m ∧ mvW A = nI w ∧ ((w = 0 ∧ mvO A = 0) ∨ ∃ b, b < 16 ∧ mvO A = nI (2 ^ b) ∧ (∀ j, j < b → w.testBit j = false) ∧ w.testBit b = true) := by
  rcases iG I with z | ⟨g, s, m, k, h1, h2, h3, h4, h5, h6, h7, h8, h9, h10, h11⟩
  · exact absurd z.1 hg
  · obtain ⟨l, hl, el⟩ := fLiveIn_ok (fr := A 1) (iL I) (A 0 3)
    obtain ⟨w, hw, ew⟩ := and_ok hl (A 0 5 ^^^ -1)
    have eW : mvW A = nI w := by unfold mvW; rw [el]; exact ew
    refine ⟨g, s, m, w, h1, h2, h4, hw, h6, h7, h8, eW, ?_⟩
    unfold mvO
    rw [eW]
    by_cases z : w = 0
    · rw [z]; exact Or.inl ⟨rfl, low_0⟩
    · obtain ⟨b, hb, e, hlow, hbit⟩ := low_ex (Nat.pos_of_ne_zero z) hw
      exact Or.inr ⟨b, hb, e, hlow, hbit⟩
theorem mvO_ok {A : AS} (I : Inv A) (hg : ¬ A 0 3 = -1) : ∃ k, k < 65536 ∧ mvO A = nI k := by
  obtain ⟨g, s, m, w, -, -, -, -, -, -, -, -, ⟨-, e⟩ | ⟨b, hb, e, -⟩⟩ := mv_facts I hg
  · exact ⟨0, by decide, e⟩
  · exact ⟨2 ^ b, pw hb, e⟩
theorem mvB_Inv {A : AS} (I : Inv A) (hg : ¬ A 0 3 = -1) : Inv (mvB A) := by
  obtain ⟨o, ho, eo⟩ := mvO_ok I hg
  rcases iG I with z | ⟨g, s, m, k, h1, h2, h3, h4, h5, h6, h7, h8, h9, h10, h11⟩
  · exact absurd z.1 hg
  · have J := cpN_Inv I h1 h2 (mvO A) 16 (Nat.le_refl _)
    have hx : cpN (mvO A) g s 16 A = cpN (mvO A) (ix (A 0 3)) (ix (A 0 4)) 16 A := by rw [h6, h7, ix_nI (by omega), ix_nI (by omega)]
    rw [hx] at J
    obtain ⟨i1, i2, i3, i4, i5, i6, i7, i8, i9, i10⟩ := J
    have k0 : ∀ j, ¬ j = 5 → mvB A 0 j = cpN (mvO A) (ix (A 0 3)) (ix (A 0 4)) 16 A 0 j := fun j hj => up_n (fun z => hj z.2)
    have kk : ∀ a, ¬ a = 0 → mvB A a = cpN (mvO A) (ix (A 0 3)) (ix (A 0 4)) 16 A a := fun a ha => up_k ha
    refine ⟨by rw [kk 1 (by decide)]; exact i1, by rw [kk 2 (by decide)]; exact i2, by rw [kk 1 (by decide), kk 2 (by decide)]; exact i3, by rw [kk 1 (by decide), kk 2 (by decide)]; exact i4, Or.inr ⟨g, s, m ||| o, k, h1, h2, h3, Nat.or_lt_two_pow (n := 16) h4 ho, h5, (mvB_0 A (by decide)).trans h6, (mvB_0 A (by decide)).trans h7, by rw [mvB_5, h8, eo, nI_or], by rw [mvB_k A (by decide) (by decide)]; exact h9, by rw [mvB_k A (by decide) (by decide), mvB_k A (by decide) (by decide)]; exact h10, h11⟩, by unfold XOK; rw [k0 1 (by decide)]; exact i6, DOK_c (k0 0 (by decide)) i7, by unfold VcOK; rw [kk 1 (by decide), kk 3 (by decide)]; exact i8, by unfold VlOK; rw [kk 4 (by decide)]; exact i9, LnOK_c (k0 6 (by decide)) i10⟩
theorem move_Inv {A : AS} (I : Inv A) (hg : ¬ A 0 3 = -1) : Inv (moveA A) := by
  have J := mvB_Inv I hg
  unfold moveA
  by_cases z : mvW A = mvO A
  · rw [if_pos z]
    obtain ⟨g, s, m, w, h1, h2, h3, h4, h5, h6, -⟩ := mv_facts I hg
    rw [h5, h6, ix_nI (by omega), ix_nI (by omega)]
    have K := unb_Inv J
    refine join_Inv K h1 h2 (join_GS (iG K) h1 h2 (fun g0 e _ => ?_))
    rcases unb_GS (mvB A) with y | ⟨g', _, _, _, hg', _, _, _, _, e', -⟩
    · rw [y.1] at e; exact absurd e.symm (nI_m1 (by omega))
    · exfalso
      unfold unbA at e'
      rw [up_n (by omega), up_n (by omega), up_s] at e'
      exact nI_m1 (by omega) e'.symm
  · rw [if_neg z]; exact J
theorem mvl_c (d t : Nat) {w b : Nat} (hw : w < 65536) (S : Mem) : ∀ j, j ≤ b → b ≤ 16 → (∀ i, i < b → w.testBit i = false) → ev (d + 1) 38 18 [vR 1 t, vI (nI w), vI 0] [] S = ev (d + 1) 38 18 [vR 1 t, vI (nI w), vI (nI j)] [] S
  | 0, _, _, _ => rfl
  | j + 1, hj, hb, hl => by
    have hbit : ¬ (shrI (nI w) (nI j) &&& 1 = 1) := by
      rw [← decide_eq_true_iff (p := shrI (nI w) (nI j) &&& 1 = 1), bit_1 (by omega) (by omega), hl j (by omega)]
      exact Bool.false_ne_true
    rw [mvl_c d t hw S j (by omega) hb hl, B_X1_moveOne_18, if_neg (n16 (by omega)), if_neg hbit, nI_1]
theorem move_c {S : Mem} {t : Nat} {A : AS} (h : CP S t A) (I : Inv A) (d : Nat) (hg : ¬ A 0 3 = -1) : ∃ S', cal (d + 3) 38 [vR 1 t] S = some (some (vI (mvR A)), S') ∧ CP S' t (moveA A) ∧ FrC t S S' := by
  obtain ⟨g, s, m, w, h1, h2, h3, h4, h5, h6, h7, eW, hcs⟩ := mv_facts I hg
  have r3 : rdI S t 3 = A 0 3 := c0 h (by decide)
  have r5 : rdI S t 5 = A 0 5 := c0 h (by decide)
  have eW' : fLiveIn (A 1) (A 2) (A 0 3) &&& (A 0 5 ^^^ -1) = nI w := eW
  rw [B_X1_moveOne, r3, kc_liveIn h, bI_s, r5, eW']
  rcases hcs with ⟨rfl, eO⟩ | ⟨b, hb, eO, hlow, hbit⟩
  · have eR : mvR A = 0 := by unfold mvR; rw [eW, eO]; decide
    have eB : mvB A = A := by
      unfold mvB
      rw [eO, cpN_0]
      funext x y
      unfold up
      by_cases z : x = 0 ∧ y = 5
      · rw [if_pos z, z.1, z.2, or0]
      · rw [if_neg z]
    have hj : moveA A = unbA (joinA g s A) := by
      unfold moveA
      rw [if_pos (by rw [eW, eO]; rfl), eB, h5, h6, ix_nI (by omega), ix_nI (by omega), unb_join]
    obtain ⟨S1, e1, k1, f1⟩ := join_c h (iD I) d h1 h2
    obtain ⟨S2, e2, k2, f2⟩ := drop_c k1 (d + 2)
    rw [mvl_c (d + 2) t (w := 0) (b := 16) (by decide) S 16 (Nat.le_refl _) (Nat.le_refl _) (fun i _ => Nat.zero_testBit i), B_X1_moveOne_18, if_pos y16, stm_c h, bI_s, eW', show bitc (nI 0) = 0 by decide, if_pos rfl, r3, c0 h (by decide), h5, h6, e1, bV_s, e2, bV_s, eR, hj]
    exact ⟨S2, rfl, k2, FrC_t f1 f2⟩
  · have hb1 : shrI (nI w) (nI b) &&& 1 = 1 := by
      rw [← decide_eq_true_iff (p := shrI (nI w) (nI b) &&& 1 = 1), bit_1 (by omega) hb]; exact hbit
    obtain ⟨k, hk, ek, hk0⟩ := andn_pow h4 hb hbit
    have eR : mvR A = nI (pop k) := by unfold mvR; rw [eW, eO, ek, bitc_pop hk]
    have eB : mvB A = up (cpS g s b A) 0 5 (A 0 5 ||| nI (2 ^ b)) := by
      unfold mvB
      rw [eO, h5, h6, ix_nI (by omega), ix_nI (by omega), cpN_1 g s hb A 16 (Nat.le_refl _), if_pos hb]
    obtain ⟨S1, e1, k1, f1⟩ := cp_c h (d + 1) h1 h2 hb
    have k2 : CP (wrI S1 t 5 (A 0 5 ||| nI (2 ^ b))) t (mvB A) := by
      rw [eB]; exact CP_w k1 (k := 0) (i := 5) (by decide) (by decide) _
    have r51 : rdI S1 t 5 = A 0 5 := (c0 k1 (by decide)).trans (up_n (by omega))
    have em : fLiveIn (mvB A 1) (mvB A 2) (mvB A 0 3) &&& (mvB A 0 5 ^^^ -1) = nI k := by
      rw [mvB_k A (by decide) (by decide), mvB_k A (by decide) (by decide), mvB_0 A (by decide), mvB_5, andn_or, eO]
      show mvW A &&& _ = _
      rw [eW]; exact ek
    have f2 : FrC t S (wrI S1 t 5 (A 0 5 ||| nI (2 ^ b))) := FrC_t f1 (FrC_w (by omega) (by omega))
    rw [mvl_c (d + 2) t h4 S b (Nat.le_refl _) (by omega) hlow, B_X1_moveOne_18, if_neg (n16 hb), if_pos hb1, r3, c0 h (by decide), h5, h6, e1, bV_s, r51, shl1 hb, stm_c k2, bI_s, em, bitc_pop hk, eR]
    have hp := pop_le hk
    have hpk : nI (pop k) = 0 ↔ k = 0 := ⟨fun z => pop_0 ((nI_eq (b := 0) (by omega) (by decide)).mp z), fun z => by rw [z]; decide⟩
    unfold moveA
    by_cases z : w = 2 ^ b
    · have J := iD (mvB_Inv I hg)
      obtain ⟨S3, e3, k3, f3⟩ := join_c k2 J d h1 h2
      obtain ⟨S4, e4, k4, f4⟩ := drop_c k3 (d + 2)
      rw [if_pos (hpk.mpr (hk0.mpr z)), c0 k2 (by decide), c0 k2 (by decide), mvB_0 A (by decide), mvB_0 A (by decide), h5, h6, e3, bV_s, e4, bV_s, if_pos (by rw [eW, eO, z]), ix_nI (by omega), ix_nI (by omega), ← unb_join]
      exact ⟨S4, rfl, k4, FrC_t (FrC_t f2 f3) f4⟩
    · have hw2 : ¬ mvW A = mvO A := by
        rw [eW, eO]
        have := pw hb
        exact fun y => z ((nI_eq (by omega) (by omega)).mp y)
      rw [if_neg (fun y => z (hk0.mp (hpk.mp y))), if_neg hw2]
      exact ⟨_, rfl, k2, f2⟩
theorem left_m {S : Mem} {r : Nat} {A : AS} (h : RP S (r + 1) 4 A) (d : Nat) (hg : ¬ A 0 3 = -1) : cal (d + 1) 245 [vR 8 r] S = some (some (vI (mvW A)), S) := by
  have r9 : rdI S (r + 1) 9 = A 0 5 := m0 h (j := 5) (by decide)
  rw [B_X8_leftToCopy, i13_7, gd_t, x13_7, m07 h, if_neg hg, gd_t, km_liveIn h d hg, bI_s, i13_9, gd_t, x13_9, r9]
  rfl
theorem move_m {S : Mem} {r : Nat} {A : AS} (h : RP S (r + 1) 4 A) (I : Inv A) (d : Nat) (hg : ¬ A 0 3 = -1) : ∃ S', cal (d + 2) 248 [vR 8 r] S = some (some (vI (mvR A)), S') ∧ RP S' (r + 1) 4 (moveA A) ∧ FrM r S S' := by
  obtain ⟨g, s, m, w, h1, h2, h3, h4, h5, h6, h7, eW, hcs⟩ := mv_facts I hg
  obtain ⟨S1, e1, k1, f1⟩ := cps_m d h1 h2 (mvO A) h
  have ex : cpN (mvO A) g s 16 A = cpN (mvO A) (ix (A 0 3)) (ix (A 0 4)) 16 A := by rw [h5, h6, ix_nI (by omega), ix_nI (by omega)]
  have r9 : rdI S1 (r + 1) 9 = A 0 5 := (m0 k1 (j := 5) (by decide)).trans (by rw [cpN_k _ _ _ (by decide)])
  have r7 : ∀ v, rdI (wrI S1 (r + 1) 9 v) (r + 1) 7 = nI g := fun v => by rw [rdI_wrI, if_neg (by omega), m07 k1, cpN_k _ _ _ (by decide), h5]
  have r8 : ∀ v, rdI (wrI S1 (r + 1) 9 v) (r + 1) 8 = nI s := fun v => by rw [rdI_wrI, if_neg (by omega), m08 k1, cpN_k _ _ _ (by decide), h6]
  have k2 : RP (wrI S1 (r + 1) 9 (A 0 5 ||| mvO A)) (r + 1) 4 (mvB A) := by
    unfold mvB
    rw [← ex]
    exact RP_w k1 (k := 0) (i := 5) (by decide) (by decide) (by decide) _ (fun z => absurd z (by decide))
  have f2 : FrM r S (wrI S1 (r + 1) 9 (A 0 5 ||| mvO A)) := FrM_t f1 (FrM_w (by omega) (by omega))
  have eO : mvW A &&& -(mvW A) = mvO A := rfl
  have hok : ∃ k, k < 65536 ∧ mvW A &&& (mvO A ^^^ -1) = nI k := by rw [eW]; exact and_ok h4 _
  rw [B_X8_moveNow, left_m h d hg, bI_s, i13_7, gd_t, i13_8, gd_t, x13_7, x13_8, m07 h, m08 h, h5, h6, eO, e1, bV_s, i13_9, gd_t, gd_t, x13_9, r9]
  unfold moveA
  by_cases z : mvW A = mvO A
  · have J := mvB_Inv I hg
    obtain ⟨S3, e3, k3, f3⟩ := drop_m k2 (d + 1)
    obtain ⟨S4, e4, k4, f4⟩ := join_m k3 (iD (unb_Inv J)) (iN (unb_Inv J)) d h1 s
    rw [if_pos z, gd_t, gd_t, e3, bV_s, r7, r8, e4, bV_s, km_bits (d + 1) hok, bI_s, if_pos z, h5, h6, ix_nI (by omega), ix_nI (by omega)]
    exact ⟨S4, rfl, k4, FrM_t (FrM_t f2 f3) f4⟩
  · rw [if_neg z, km_bits (d + 1) hok, bI_s, if_neg z]
    exact ⟨_, rfl, k2, f2⟩
