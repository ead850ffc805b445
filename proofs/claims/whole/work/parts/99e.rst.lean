/-! the reference's parser: its state, small methods -/
def PiL (r : Nat) : List Nat → Mem → Prop
  | [], _ => True
  | a :: L, S => rdI S (r + 5) L.length = nI a ∧ a < 100 ∧ PiL r L S
theorem PiL_s (r a : Nat) (L : List Nat) (S : Mem) : PiL r (a :: L) S = (rdI S (r + 5) L.length = nI a ∧ a < 100 ∧ PiL r L S) := rfl
theorem PiL_k {r : Nat} {S S' : Mem} : ∀ {L : List Nat}, PiL r L S → (∀ i, i < L.length → rdI S' (r + 5) i = rdI S (r + 5) i) → PiL r L S'
  | [], _, _ => trivial
  | a :: L, h, e => by
    rw [PiL_s] at h ⊢
    exact ⟨by rw [e _ (by rw [List.length_cons]; omega)]; exact h.1, h.2.1, PiL_k h.2.2 (fun i hi => e i (by rw [List.length_cons]; omega))⟩
def RC (b : Nat → Nat) (n law r T k : Nat) (L : List Nat) (o : Nat) (wh : Int32) (w : Nat) (S : Mem) : Prop := RT b n r k S ∧ rdI S r 16 = nI L.length ∧ PiL r L S ∧ rdI S r 17 = nI o ∧ rdI S r 18 = wh ∧ rdI S r 13 = nI w ∧ rdI S r 12 = nI (681 * T) ∧ T < 4 ∧ rdI S r 14 = nI law ∧ law < 2 ∧ w + L.length ≤ k + 1 ∧ k ≤ tN b n ∧ o < 100
def Wr (i : Nat) : Prop := i = 7 ∨ i = 8 ∨ i = 9 ∨ i = 10 ∨ i = 13 ∨ i = 16 ∨ i = 17 ∨ i = 18
def FrW (r T w : Nat) (S S' : Mem) : Prop := (∀ c, ¬ (c = r ∨ c = r + 3 ∨ c = r + 5) → rdI S' c = rdI S c) ∧ (∀ i, ¬ Wr i → rdI S' r i = rdI S r i) ∧ (∀ i, ¬ (681 * T + 73 + 2 * w ≤ i ∧ i < 681 * T + 681) → rdI S' (r + 3) i = rdI S (r + 3) i) ∧ S'.2.2 = S.2.2
theorem FrW_r {r T w : Nat} {S : Mem} : FrW r T w S S := ⟨fun _ _ => rfl, fun _ _ => rfl, fun _ _ => rfl, rfl⟩
theorem FrW_t {r T w w' : Nat} {S S1 S2 : Mem} (h : FrW r T w S S1) (h2 : FrW r T w' S1 S2) (hw : w ≤ w') : FrW r T w S S2 := ⟨fun c a => (h2.1 c a).trans (h.1 c a), fun i a => (h2.2.1 i a).trans (h.2.1 i a), fun i a => (h2.2.2.1 i (by omega)).trans (h.2.2.1 i a), h2.2.2.2.trans h.2.2.2⟩
theorem FrW_m {r T w w' : Nat} {S S1 : Mem} (h : FrW r T w S S1) (hw : w' ≤ w) : FrW r T w' S S1 := ⟨h.1, h.2.1, fun i a => h.2.2.1 i (by omega), h.2.2.2⟩
theorem FrW_w {r T w i : Nat} {v : Int32} {S : Mem} (hi : Wr i) : FrW r T w S (wrI S r i v) := ⟨fun c a => funext fun x => by rw [rdI_wrI, if_neg (by omega)], fun j a => by rw [rdI_wrI, if_neg (fun z => a (by rw [z.2]; exact hi))], fun j a => by rw [rdI_wrI, if_neg (by omega)], rfl⟩
theorem FrW_5 {r T w i : Nat} {v : Int32} {S : Mem} : FrW r T w S (wrI S (r + 5) i v) := ⟨fun c a => funext fun x => by rw [rdI_wrI, if_neg (by omega)], fun j a => by rw [rdI_wrI, if_neg (by omega)], fun j a => by rw [rdI_wrI, if_neg (by omega)], rfl⟩
theorem FrW_H {r T w : Nat} {S S' : Mem} (h : FrH r S S') : FrW r T w S S' := ⟨fun c a => h.1 c (by omega), fun i a => h.2.1 i (fun z => a (by unfold Wr; omega)), fun i _ => by rw [h.1 (r + 3) (by omega)], h.2.2⟩
section RP_
variable {b : Nat → Nat} {n law r T : Nat}
theorem RC_b {k o w : Nat} {L : List Nat} {wh : Int32} {S : Mem} (h : RC b n law r T k L o wh w S) : w + L.length ≤ k + 1 ∧ k ≤ tN b n ∧ tN b n ≤ 300 ∧ T < 4 ∧ law < 2 ∧ o < 100 := ⟨h.2.2.2.2.2.2.2.2.2.2.1, h.2.2.2.2.2.2.2.2.2.2.2.1, Nat.le_trans (tN_le b n) h.1.1.1, h.2.2.2.2.2.2.2.1, h.2.2.2.2.2.2.2.2.2.1, h.2.2.2.2.2.2.2.2.2.2.2.2⟩
theorem RT_w {k : Nat} {c i : Nat} {v : Int32} {S : Mem} (h : RT b n r k S) (hc : ¬ c = r ∨ (c = r ∧ ¬ i = 7 ∧ ¬ i = 8 ∧ ¬ i = 9 ∧ ¬ i = 10 ∧ ¬ i = 4)) (hc4 : ¬ c = r + 4) : RT b n r k (wrI S c i v) := by
  obtain ⟨⟨g1, g2, g3⟩, g4, g5, g6, g7, g8⟩ := h
  have e : ∀ j, (j = 4 ∨ j = 7 ∨ j = 8 ∨ j = 9 ∨ j = 10) → rdI (wrI S c i v) r j = rdI S r j := fun j hj => by rw [rdI_wrI, if_neg (by omega)]
  refine ⟨⟨g1, by rw [e 4 (by omega)]; exact g2, fun x hx => by rw [rdI_wrI, if_neg (by omega)]; exact g3 x hx⟩, by rw [e 8 (by omega)]; exact g4, by rw [e 9 (by omega)]; exact g5, by rw [e 7 (by omega)]; exact g6, fun a1 a2 a3 => by rw [e 10 (by omega)]; exact g7 a1 a2 a3, g8⟩
/-- one of its own numbers is written -/
theorem RC_18 {k o w : Nat} {L : List Nat} {wh wh' : Int32} {S : Mem} (h : RC b n law r T k L o wh w S) : RC b n law r T k L o wh' w (wrI S r 18 wh') := by
  obtain ⟨h1, h2, h3, h4, h5, h6, h7, h8, h9, h10, h11, h12, h13⟩ := h
  have e : ∀ j, ¬ j = 18 → rdI (wrI S r 18 wh') r j = rdI S r j := fun j hj => by rw [rdI_wrI, if_neg (by omega)]
  exact ⟨RT_w h1 (by omega) (by omega), by rw [e _ (by decide)]; exact h2, PiL_k h3 (fun i _ => by rw [rdI_wrI, if_neg (by omega)]), by rw [e _ (by decide)]; exact h4, by rw [rdI_wrI, if_pos ⟨rfl, rfl⟩], by rw [e _ (by decide)]; exact h6, by rw [e _ (by decide)]; exact h7, h8, by rw [e _ (by decide)]; exact h9, h10, h11, h12, h13⟩
theorem RC_17 {k o o' w : Nat} {L : List Nat} {wh : Int32} {S : Mem} (h : RC b n law r T k L o wh w S) (ho : o' < 100) : RC b n law r T k L o' wh w (wrI S r 17 (nI o')) := by
  obtain ⟨h1, h2, h3, h4, h5, h6, h7, h8, h9, h10, h11, h12, h13⟩ := h
  have e : ∀ j, ¬ j = 17 → rdI (wrI S r 17 (nI o')) r j = rdI S r j := fun j hj => by rw [rdI_wrI, if_neg (by omega)]
  exact ⟨RT_w h1 (by omega) (by omega), by rw [e _ (by decide)]; exact h2, PiL_k h3 (fun i _ => by rw [rdI_wrI, if_neg (by omega)]), by rw [rdI_wrI, if_pos ⟨rfl, rfl⟩], by rw [e _ (by decide)]; exact h5, by rw [e _ (by decide)]; exact h6, by rw [e _ (by decide)]; exact h7, h8, by rw [e _ (by decide)]; exact h9, h10, h11, h12, ho⟩
theorem RC_dn {k o w a : Nat} {L : List Nat} {wh : Int32} {S : Mem} (h : RC b n law r T k (a :: L) o wh w S) : RC b n law r T k L o wh w (wrI S r 16 (nI L.length)) := by
  obtain ⟨h1, h2, h3, h4, h5, h6, h7, h8, h9, h10, h11, h12, h13⟩ := h
  rw [PiL_s] at h3
  rw [List.length_cons] at h11
  have e : ∀ j, ¬ j = 16 → rdI (wrI S r 16 (nI L.length)) r j = rdI S r j := fun j hj => by rw [rdI_wrI, if_neg (by omega)]
  exact ⟨RT_w h1 (by omega) (by omega), by rw [rdI_wrI, if_pos ⟨rfl, rfl⟩], PiL_k h3.2.2 (fun i _ => by rw [rdI_wrI, if_neg (by omega)]), by rw [e _ (by decide)]; exact h4, by rw [e _ (by decide)]; exact h5, by rw [e _ (by decide)]; exact h6, by rw [e _ (by decide)]; exact h7, h8, by rw [e _ (by decide)]; exact h9, h10, by omega, h12, h13⟩
def puM (S : Mem) (r p a : Nat) : Mem := wrI (wrI S (r + 5) p (nI a)) r 16 (nI (p + 1))
/-- laid on the pile; the bound on what was written comes with the token -/
theorem RC_pu {k o w a : Nat} {L : List Nat} {wh : Int32} {S : Mem} (h : RC b n law r T k L o wh w S) (ha : a < 100) (hb : w + L.length + 1 ≤ k + 1) : RC b n law r T k (a :: L) o wh w (puM S r L.length a) := by
  obtain ⟨h1, h2, h3, h4, h5, h6, h7, h8, h9, h10, h11, h12, h13⟩ := h
  have e : ∀ j, ¬ j = 16 → rdI (puM S r L.length a) r j = rdI S r j := fun j hj => by unfold puM; rw [rdI_wrI, if_neg (by omega), rdI_wrI, if_neg (by omega)]
  have e5 : ∀ i, i < L.length → rdI (puM S r L.length a) (r + 5) i = rdI S (r + 5) i := fun i hi => by unfold puM; rw [rdI_wrI, if_neg (by omega), rdI_wrI, if_neg (by omega)]
  refine ⟨?_, ?_, ?_, by rw [e _ (by decide)]; exact h4, by rw [e _ (by decide)]; exact h5, by rw [e _ (by decide)]; exact h6, by rw [e _ (by decide)]; exact h7, h8, by rw [e _ (by decide)]; exact h9, h10, by rw [List.length_cons]; omega, h12, h13⟩
  · unfold puM
    exact RT_w (RT_w h1 (by omega) (by omega)) (by omega) (by omega)
  · unfold puM
    rw [rdI_wrI, if_pos ⟨rfl, rfl⟩, List.length_cons]
  · rw [PiL_s]
    refine ⟨?_, ha, PiL_k h3 e5⟩
    unfold puM
    rw [rdI_wrI, if_neg (by omega), rdI_wrI, if_pos ⟨rfl, rfl⟩]
def emM (S : Mem) (r T w : Nat) (a v : Int32) : Mem := wrI (wrI (wrI S (r + 3) (681 * T + 73 + 2 * w) a) (r + 3) (681 * T + 73 + 2 * w + 1) v) r 13 (nI (w + 1))
theorem FrW_e {w : Nat} {a v : Int32} {S : Mem} (hw : w < 303) : FrW r T w S (emM S r T w a v) := by
  unfold emM
  refine ⟨fun c hc => funext fun x => ?_, fun i hi => ?_, fun i hi => ?_, rfl⟩
  · rw [rdI_wrI, if_neg (by omega), rdI_wrI, if_neg (by omega), rdI_wrI, if_neg (by omega)]
  · rw [rdI_wrI, if_neg (fun z => hi (by unfold Wr; omega)), rdI_wrI, if_neg (by omega), rdI_wrI, if_neg (by omega)]
  · rw [rdI_wrI, if_neg (by omega), rdI_wrI, if_neg (by omega), rdI_wrI, if_neg (by omega)]
theorem RC_em {k o w : Nat} {a v : Int32} {L : List Nat} {wh : Int32} {S : Mem} (h : RC b n law r T k L o wh w S) (hb : w + 1 + L.length ≤ k + 1) : RC b n law r T k L o wh (w + 1) (emM S r T w a v) := by
  obtain ⟨h1, h2, h3, h4, h5, h6, h7, h8, h9, h10, h11, h12, h13⟩ := h
  have e : ∀ j, ¬ j = 13 → rdI (emM S r T w a v) r j = rdI S r j := fun j hj => by unfold emM; rw [rdI_wrI, if_neg (by omega), rdI_wrI, if_neg (by omega), rdI_wrI, if_neg (by omega)]
  have e5 : ∀ i, rdI (emM S r T w a v) (r + 5) i = rdI S (r + 5) i := fun i => by unfold emM; rw [rdI_wrI, if_neg (by omega), rdI_wrI, if_neg (by omega), rdI_wrI, if_neg (by omega)]
  refine ⟨?_, by rw [e _ (by decide)]; exact h2, PiL_k h3 (fun i _ => e5 i), by rw [e _ (by decide)]; exact h4, by rw [e _ (by decide)]; exact h5, ?_, by rw [e _ (by decide)]; exact h7, h8, by rw [e _ (by decide)]; exact h9, h10, hb, h12, h13⟩
  · unfold emM
    exact RT_w (RT_w (RT_w h1 (by omega) (by omega)) (by omega) (by omega)) (by omega) (by omega)
  · unfold emM
    rw [rdI_wrI, if_pos ⟨rfl, rfl⟩]
theorem em_m {w : Nat} {S : Mem} (e12 : rdI S r 12 = nI (681 * T)) (e13 : rdI S r 13 = nI w) (hT : T < 4) (hw : w < 303) (a v : Int32) (d : Nat) : cal d 190 [vR 8 r, vI a, vI v] S = some (none, emM S r T w a v) := by
  have ex : ∀ m : Nat, ((nI (681 * T) + 73) + (2 * nI m)) = nI (681 * T + 73 + 2 * m) := fun m => by
    have e1 : nI (681 * T) + 73 = nI (681 * T + 73) := nI_add _ 73
    have e2 : (2 : Int32) * nI m = nI (2 * m) := pk_mul 2 m
    rw [e1, e2, nI_add]
  have w1 : rdI (wrI S (r + 3) (681 * T + 73 + 2 * w) a) r 12 = nI (681 * T) := by rw [rdI_wrI, if_neg (by omega)]; exact e12
  have w2 : rdI (wrI S (r + 3) (681 * T + 73 + 2 * w) a) r 13 = nI w := by rw [rdI_wrI, if_neg (by omega)]; exact e13
  have w3 : rdI (wrI (wrI S (r + 3) (681 * T + 73 + 2 * w) a) (r + 3) (681 * T + 73 + 2 * w + 1) v) r 13 = nI w := by rw [rdI_wrI, if_neg (by omega)]; exact w2
  rw [B_X8_emit, e12, e13, ex, i27 (by omega), gd_t, ix_nI (by omega), w1, w2, ex, nI_1, i27 (by omega), gd_t, ix_nI (by omega), w3, nI_1]
  rfl
/-- the next token -/
theorem RC_nx {k o w : Nat} {L : List Nat} {wh : Int32} {S : Mem} (h : RC b n law r T k L o wh w S) (hk : k < tN b n) (d : Nat) : ∃ S', cal (d + 1) 183 [vR 8 r] S = some (none, S') ∧ RC b n law r T (k + 1) L o wh w S' ∧ FrH r S S' := by
  obtain ⟨h1, h2, h3, h4, h5, h6, h7, h8, h9, h10, h11, h12, h13⟩ := h
  obtain ⟨S', e, k1, k2⟩ := nx_m h1 d
  have e' : ∀ j, ¬ (j = 7 ∨ j = 8 ∨ j = 9 ∨ j = 10) → rdI S' r j = rdI S r j := k2.2.1
  exact ⟨S', e, ⟨k1, by rw [e' _ (by decide)]; exact h2, PiL_k h3 (fun i _ => by rw [k2.1 (r + 5) (by omega)]), by rw [e' _ (by decide)]; exact h4, by rw [e' _ (by decide)]; exact h5, by rw [e' _ (by decide)]; exact h6, by rw [e' _ (by decide)]; exact h7, h8, by rw [e' _ (by decide)]; exact h9, h10, by omega, by omega, h13⟩, k2⟩
/-! how closely what waits binds -/
def rkN (a : Nat) : Nat := if 40 ≤ a then 0 else if a = 22 then 1 else if a = 21 then 2 else if a = 20 then 3 else if 10 ≤ a then 4 else if 8 ≤ a then 6 else if 6 ≤ a then 5 else 7
theorem rk_m {a : Nat} (ha : a < 100) (d : Nat) (S : Mem) : cal d 194 [vI (nI a)] S = some (some (vI (nI (rkN a))), S) := by
  rw [B_X8_rank]
  unfold rkN
  by_cases z : 40 ≤ a
  · rw [if_neg (show ¬ nI a < 40 from nI_nlt (b := 40) z (by omega)), if_pos z]; rfl
  rw [if_pos (show nI a < 40 from nI_lt (b := 40) (by omega) (by decide)), if_neg z]
  by_cases z1 : a = 22
  · rw [if_pos (show nI a = 22 by rw [z1]; rfl), if_pos z1]; rfl
  rw [if_neg (show ¬ nI a = 22 from nK (y := 22) ha (by decide) z1), if_neg z1]
  by_cases z2 : a = 21
  · rw [if_pos (show nI a = 21 by rw [z2]; rfl), if_pos z2]; rfl
  rw [if_neg (show ¬ nI a = 21 from nK (y := 21) ha (by decide) z2), if_neg z2]
  by_cases z3 : a = 20
  · rw [if_pos (show nI a = 20 by rw [z3]; rfl), if_pos z3]; rfl
  rw [if_neg (show ¬ nI a = 20 from nK (y := 20) ha (by decide) z3), if_neg z3]
  by_cases z4 : 10 ≤ a
  · rw [if_neg (show ¬ nI a < 10 from nI_nlt (b := 10) z4 (by omega)), if_pos z4]; rfl
  rw [if_pos (show nI a < 10 from nI_lt (b := 10) (by omega) (by decide)), if_neg z4]
  by_cases z5 : 8 ≤ a
  · rw [if_neg (show ¬ nI a < 8 from nI_nlt (b := 8) z5 (by omega)), if_pos z5]; rfl
  rw [if_pos (show nI a < 8 from nI_lt (b := 8) (by omega) (by decide)), if_neg z5]
  by_cases z6 : 6 ≤ a
  · rw [if_neg (show ¬ nI a < 6 from nI_nlt (b := 6) z6 (by omega)), if_pos z6]; rfl
  rw [if_pos (show nI a < 6 from nI_lt (b := 6) (by omega) (by decide)), if_neg z6]; rfl
theorem rkN_le (a : Nat) : rkN a ≤ 7 := by
  unfold rkN
  repeat' split
  all_goals omega
/-! settling -/
def Stl (r l : Nat) (S S' : Mem) : Prop := ∀ d, cal (d + 1) 195 [vR 8 r, vI (nI l)] S = some (none, S')
def unq (a : Nat) : Prop := rkN a = 7 ∨ a = 20
def popM (S : Mem) (r T p w o a : Nat) : Mem := if rkN a = 7 ∨ a = 20 then wrI (emM (wrI S r 16 (nI p)) r T w (nI a) 0) r 17 (nI (o - 1)) else emM (wrI S r 16 (nI p)) r T w (nI a) 0
theorem stl_e (l : Nat) (d : Nat) (S : Mem) : cal (d + 1) 195 [vR 8 r, vI (nI l)] S = ev (d + 1) 195 0 [vR 8 r, vI (nI l)] [] S := (B_X8_settle d r (nI l) S).trans (B_X8_settle_0 d r (nI l) S).symm
theorem stl_0 {k o w l : Nat} {wh : Int32} {S : Mem} (h : RC b n law r T k [] o wh w S) : Stl r l S S := fun d => by
  rw [B_X8_settle, h.2.1, if_pos (show nI ([] : List Nat).length ≤ 0 by decide)]
theorem len_b {k o w a : Nat} {L : List Nat} {wh : Int32} {S : Mem} (h : RC b n law r T k (a :: L) o wh w S) : w + L.length + 1 ≤ k + 1 := by
  have := (RC_b h).1
  rw [List.length_cons] at this
  omega
theorem stl_1 {k o w l a : Nat} {L : List Nat} {wh : Int32} {S : Mem} (h : RC b n law r T k (a :: L) o wh w S) (hL : L.length < 160) (hl : rkN a < l) (hl2 : l < 100) : Stl r l S S := fun d => by
  obtain ⟨p1, p2, -⟩ := h.2.2.1
  have e16 : rdI S r 16 = nI (L.length + 1) := h.2.1
  have es : nI (L.length + 1) - 1 = nI L.length := s1_sub (by omega)
  have hr := rkN_le a
  rw [B_X8_settle, e16, if_neg (nI_nle (by omega) (by omega)), es, inb_t hL (by decide), gd_t, ix_nI (by omega), p1, rk_m p2, bI_s, if_pos (nI_lt hl (by omega))]
theorem stl_p {k o w l a : Nat} {L : List Nat} {wh : Int32} {S S3 : Mem} (h : RC b n law r T k (a :: L) o wh w S) (hL : L.length < 160) (hl : l ≤ rkN a) (ho : 0 < o ∨ ¬ (rkN a = 7 ∨ a = 20)) (h3 : Stl r l (popM S r T L.length w o a) S3) : Stl r l S S3 := fun d => by
  obtain ⟨p1, p2, p3⟩ := h.2.2.1
  have e16 : rdI S r 16 = nI (L.length + 1) := h.2.1
  have es : nI (L.length + 1) - 1 = nI L.length := s1_sub (by omega)
  have hr := rkN_le a
  have hb := RC_b h
  have hlb := len_b h
  have h1 := RC_dn h
  have e16' : rdI (wrI S r 16 (nI L.length)) r 16 = nI L.length := by rw [rdI_wrI, if_pos ⟨rfl, rfl⟩]
  have p1' : rdI (wrI S r 16 (nI L.length)) (r + 5) L.length = nI a := by rw [rdI_wrI, if_neg (by omega)]; exact p1
  have e2 : ∀ j, ¬ j = 13 → rdI (emM (wrI S r 16 (nI L.length)) r T w (nI a) 0) r j = rdI (wrI S r 16 (nI L.length)) r j := fun j hj => by unfold emM; rw [rdI_wrI, if_neg (by omega), rdI_wrI, if_neg (by omega), rdI_wrI, if_neg (by omega)]
  have e25 : rdI (emM (wrI S r 16 (nI L.length)) r T w (nI a) 0) (r + 5) L.length = nI a := by unfold emM; rw [rdI_wrI, if_neg (by omega), rdI_wrI, if_neg (by omega), rdI_wrI, if_neg (by omega)]; exact p1'
  have e17 : rdI (emM (wrI S r 16 (nI L.length)) r T w (nI a) 0) r 17 = nI o := by rw [e2 _ (by decide)]; exact h1.2.2.2.1
  have e162 : rdI (emM (wrI S r 16 (nI L.length)) r T w (nI a) 0) r 16 = nI L.length := by rw [e2 _ (by decide)]; exact e16'
  have fin := (stl_e (r := r) l d (popM S r T L.length w o a)).symm.trans (h3 d)
  unfold popM at fin
  rw [B_X8_settle, e16, if_neg (nI_nle (by omega) (by omega)), es, inb_t hL (by decide), gd_t, ix_nI (by omega), p1, rk_m p2, bI_s, if_neg (nI_nlt hl (by omega)), e16, es, e16', inb_t hL (by decide), gd_t, ix_nI (by omega), p1', em_m h1.2.2.2.2.2.2.1 h1.2.2.2.2.2.1 hb.2.2.2.1 (by omega), bV_s, e162, inb_t hL (by decide), gd_t, ix_nI (by omega), e25, rk_m p2, bI_s, e17]
  by_cases z7 : rkN a = 7
  · rw [if_pos (show nI (rkN a) = 7 by rw [z7]; rfl)]
    rw [if_pos (Or.inl z7)] at fin
    rw [s1_sub (by omega)]
    exact fin
  · rw [if_neg (show ¬ nI (rkN a) = 7 from nK (y := 7) (by omega) (by decide) z7), e162, inb_t hL (by decide), gd_t, ix_nI (by omega), e25]
    by_cases z20 : a = 20
    · rw [if_pos (show nI a = 20 by rw [z20]; rfl)]
      rw [if_pos (Or.inr z20)] at fin
      rw [s1_sub (by omega)]
      exact fin
    · rw [if_neg (show ¬ nI a = 20 from nK (y := 20) p2 (by decide) z20)]
      rw [if_neg (by omega)] at fin
      exact fin
theorem RC_po {k o w a : Nat} {L : List Nat} {wh : Int32} {S : Mem} (h : RC b n law r T k (a :: L) o wh w S) : RC b n law r T k L (if rkN a = 7 ∨ a = 20 then o - 1 else o) wh (w + 1) (popM S r T L.length w o a) := by
  have hb := RC_b h
  have hlb := len_b h
  have h1 := RC_em (a := nI a) (v := 0) (RC_dn h) (by omega)
  unfold popM
  by_cases z : rkN a = 7 ∨ a = 20
  · rw [if_pos z, if_pos z]; exact RC_17 h1 (by omega)
  · rw [if_neg z, if_neg z]; exact h1
theorem FrW_p {k o w a : Nat} {L : List Nat} {wh : Int32} {S : Mem} (h : RC b n law r T k (a :: L) o wh w S) : FrW r T w S (popM S r T L.length w o a) := by
  have hb := RC_b h
  have hlb := len_b h
  have f := FrW_t (FrW_w (r := r) (T := T) (w := w) (i := 16) (v := nI L.length) (S := S) (by unfold Wr; omega)) (FrW_e (r := r) (T := T) (w := w) (a := nI a) (v := 0) (by omega)) (Nat.le_refl _)
  unfold popM
  by_cases z : rkN a = 7 ∨ a = 20
  · rw [if_pos z]; exact FrW_t f (FrW_w (w := w) (by unfold Wr; omega)) (Nat.le_refl _)
  · rw [if_neg z]; exact f
/-! what is open at last; whether what is asked has been compared -/
def fop : List Nat → Option (Nat × Nat)
  | [] => none
  | a :: L => if 40 ≤ a then some (a, L.length) else fop L
theorem fop_s (a : Nat) (L : List Nat) : fop (a :: L) = if 40 ≤ a then some (a, L.length) else fop L := rfl
def fcm : List Nat → Bool
  | [] => false
  | a :: L => if rkN a ≤ 4 then decide (rkN a = 4) else fcm L
theorem fcm_s (a : Nat) (L : List Nat) : fcm (a :: L) = if rkN a ≤ 4 then decide (rkN a = 4) else fcm L := rfl
def opI (L : List Nat) : Int32 := match fop L with
  | some (_, i) => nI i
  | none => -1
def opN (L : List Nat) : Int32 := match fop L with
  | some (a, _) => nI a
  | none => -1
theorem sub_m1 (x : Int32) : x + (-1) = x - 1 := (Int32.sub_eq_add_neg x 1).symm
theorem n0_1 : nI ([] : List Nat).length - 1 = -1 := by decide
theorem oa_l {S : Mem} (d : Nat) : ∀ (L : List Nat), PiL r L S → L.length < 160 → ev d 196 7 [vR 8 r, vI (nI L.length - 1)] [] S = some (some (vI (opI L)), S)
  | [], _, _ => by rw [B_X8_openAt_7, n0_1, if_pos (by decide)]; rfl
  | a :: L, h, hl => by
    rw [PiL_s] at h
    rw [List.length_cons] at hl ⊢
    rw [s1_sub (by omega), Nat.add_sub_cancel, B_X8_openAt_7, if_neg (nI_pos (by omega)), inb_t (by omega) (by decide), gd_t, ix_nI (by omega), h.1]
    unfold opI
    rw [fop_s]
    by_cases z : 40 ≤ a
    · rw [if_pos (show (40 : Int32) ≤ nI a from nI_le (a := 40) z (by have := h.2.1; omega)), if_pos z]
    · rw [if_neg (show ¬ (40 : Int32) ≤ nI a from nI_ge (b := 40) (by omega) (by decide)), if_neg z, sub_m1]
      exact oa_l d L h.2.2 (by omega)
theorem oa_m {S : Mem} {L : List Nat} (e : rdI S r 16 = nI L.length) (h : PiL r L S) (hl : L.length < 160) (d : Nat) : cal d 196 [vR 8 r] S = some (some (vI (opI L)), S) := by
  rw [B_X8_openAt, e]; exact oa_l d L h hl
theorem fop_i : ∀ {L : List Nat} {a i : Nat} {S : Mem}, PiL r L S → fop L = some (a, i) → i < L.length ∧ rdI S (r + 5) i = nI a ∧ 40 ≤ a ∧ a < 100
  | [], a, i, S, _, h => by cases h
  | c :: L, a, i, S, hp, h => by
    rw [PiL_s] at hp
    rw [fop_s] at h
    rw [List.length_cons]
    by_cases z : 40 ≤ c
    · rw [if_pos z] at h
      cases h
      exact ⟨by omega, hp.1, z, hp.2.1⟩
    · rw [if_neg z] at h
      obtain ⟨h1, h2⟩ := fop_i hp.2.2 h
      exact ⟨by omega, h2⟩
theorem on_m {S : Mem} {L : List Nat} (e : rdI S r 16 = nI L.length) (h : PiL r L S) (hl : L.length < 160) (d : Nat) : cal (d + 1) 197 [vR 8 r] S = some (some (vI (opN L)), S) := by
  have eo := oa_m e h hl d
  rw [B_X8_openNow, eo, bI_s]
  unfold opI opN at *
  cases g : fop L with
  | none => rw [if_neg (by decide)]
  | some q =>
    obtain ⟨a, i⟩ := q
    rw [g] at eo
    obtain ⟨h1, h2, -⟩ := fop_i h g
    have eo : cal d 196 [vR 8 r] S = some (some (vI (nI i)), S) := eo
    show (if (0 : Int32) ≤ nI i then _ else _) = _
    rw [if_pos (nI_pos' (by omega)), eo, bI_s, inb_t (by omega) (by decide), gd_t, ix_nI (by omega), h2]
theorem ic_l {S : Mem} (d : Nat) : ∀ (L : List Nat), PiL r L S → L.length < 160 → ev (d + 1) 198 7 [vR 8 r, vI (nI L.length - 1)] [] S = some (some (vI (b2i (fcm L))), S)
  | [], _, _ => by rw [B_X8_isCompared_7, n0_1, if_pos (by decide), if_pos (by decide), q0_t]; rfl
  | a :: L, h, hl => by
    have hr := rkN_le a
    rw [PiL_s] at h
    rw [List.length_cons] at hl ⊢
    rw [s1_sub (by omega), Nat.add_sub_cancel, B_X8_isCompared_7, if_neg (nI_pos (by omega)), inb_t (by omega) (by decide), gd_t, ix_nI (by omega), h.1, rk_m h.2.1, bI_s, fcm_s]
    by_cases z : rkN a ≤ 4
    · rw [if_pos (show nI (rkN a) ≤ 4 from nI_le (b := 4) z (by decide)), if_pos z, if_neg (nI_pos (by omega)), gd_t, h.1, rk_m h.2.1, bI_s]
      by_cases y : rkN a = 4
      · rw [if_pos (show nI (rkN a) = 4 by rw [y]; rfl), q1_t, decide_eq_true y]
      · rw [if_neg (show ¬ nI (rkN a) = 4 from nK (y := 4) (by omega) (by decide) y), q0_t, decide_eq_false y]
    · rw [if_neg (show ¬ nI (rkN a) ≤ 4 from nI_ge (a := 4) (by omega) (by omega)), if_neg z, sub_m1]
      exact ic_l d L h.2.2 (by omega)
theorem ic_m {S : Mem} {L : List Nat} (e : rdI S r 16 = nI L.length) (h : PiL r L S) (hl : L.length < 160) (d : Nat) : cal (d + 1) 198 [vR 8 r] S = some (some (vI (b2i (fcm L))), S) := by
  rw [B_X8_isCompared, e]; exact ic_l d L h hl
end RP_
