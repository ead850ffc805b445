/-! what holds behind a meshing -/
theorem cpN_Inv {A : AS} (I : Inv A) {go st : Nat} (hgo : go < 12) (hst : st < 12) (sl : Int32) : ∀ n, n ≤ 16 → Inv (cpN sl go st n A)
  | 0, _ => I
  | n + 1, hn => by
    have J := cpN_Inv I hgo hst sl n (by omega)
    unfold cpN
    by_cases z : shrI sl (nI n) &&& 1 = 1
    · rw [if_pos z]
      obtain ⟨i1, i2, i3, i4, i5, i6, i7, i8, i9, i10⟩ := J
      have k : ∀ a, ¬ a = 4 → cpS go st n (cpN sl go st n A) a = cpN sl go st n A a := fun a ha => up_k ha
      refine ⟨by rw [k 1 (by decide)]; exact i1, by rw [k 2 (by decide)]; exact i2, by rw [k 1 (by decide), k 2 (by decide)]; exact i3, by rw [k 1 (by decide), k 2 (by decide)]; exact i4, by unfold GSOK; rw [k 0 (by decide), k 1 (by decide), k 2 (by decide)]; exact i5, by unfold XOK; rw [k 0 (by decide)]; exact i6, by unfold DOK; rw [k 0 (by decide)]; exact i7, by unfold VcOK; rw [k 1 (by decide), k 3 (by decide)]; exact i8, fun i hi => ?_, by unfold LnOK; rw [k 0 (by decide)]; exact i10⟩
      unfold cpS up
      by_cases e : (4 = 4 ∧ i = st * 16 + n)
      · rw [if_pos e]; exact i9 _ (by omega)
      · rw [if_neg e]; exact i9 i hi
    · rw [if_neg z]; exact J
theorem joinA_k (go st : Nat) (A : AS) {a : Nat} (h5 : ¬ a = 5) (h0 : ¬ a = 0) : joinA go st A a = jnN 12 go st A a := by
  unfold joinA
  rw [wdA_k _ _ _ _ h5 h0]
  unfold jnB
  rw [up_k h0]
theorem joinA_0 (go st : Nat) (A : AS) {j : Nat} (h6 : ¬ j = 6) (h2 : ¬ j = 2) : joinA go st A 0 j = A 0 j := by
  unfold joinA
  rw [wdA_o _ _ _ _ (by decide) (fun z => h6 z.2)]
  unfold jnB
  rw [up_n (fun z => h2 z.2), jnN_k _ _ _ _ (by decide)]
theorem joinA_1 (go st : Nat) (A : AS) {p : Nat} (hp : p < 12) : joinA go st A 1 p = if A 1 p = nI go then nI st else A 1 p := by
  rw [joinA_k _ _ _ (by decide) (by decide), jnN_1]
  by_cases z : A 1 p = nI go
  · rw [if_pos ⟨hp, z⟩, if_pos z]
  · rw [if_neg (fun y => z y.2), if_neg z]
theorem join_open {go st : Nat} {A : AS} (hgo : go < 12) (hst : st < 12) {p : Nat} (hp : p < 12) : joinA go st A 1 p = -1 ↔ A 1 p = -1 := by
  rw [joinA_1 go st A hp]
  by_cases z : A 1 p = nI go
  · rw [if_pos z, z]
    exact ⟨fun y => absurd y (nI_m1 (by omega)), fun y => absurd y (nI_m1 (by omega))⟩
  · rw [if_neg z]
theorem join_Inv {A : AS} (I : Inv A) {go st : Nat} (hgo : go < 12) (hst : st < 12) (hG : GSOK (joinA go st A)) : Inv (joinA go st A) := by
  obtain ⟨i1, i2, i3, i4, i5, i6, i7, i8, i9, i10⟩ := I
  have k2 : joinA go st A 2 = A 2 := by rw [joinA_k _ _ _ (by decide) (by decide), jnN_k _ _ _ _ (by decide)]
  have k3 : joinA go st A 3 = A 3 := by rw [joinA_k _ _ _ (by decide) (by decide), jnN_k _ _ _ _ (by decide)]
  have k4 : joinA go st A 4 = A 4 := by rw [joinA_k _ _ _ (by decide) (by decide), jnN_k _ _ _ _ (by decide)]
  refine ⟨fun p hp => ?_, by rw [k2]; exact i2, fun p hp hc => ?_, fun p hp hc => ?_, hG, ?_, DOK_c (joinA_0 _ _ _ (by decide) (by decide)) i7, fun p hp hc => ?_, by unfold VlOK; rw [k4]; exact i9, wd_LnOK _ _ _ (jnB_LnOK i10)⟩
  · rw [joinA_1 go st A hp]
    by_cases z : A 1 p = nI go
    · rw [if_pos z]; exact Or.inr ⟨st, hst, rfl⟩
    · rw [if_neg z]; exact i1 p hp
  · rw [k2]; exact i3 p hp ((join_open hgo hst hp).mp hc)
  · rw [k2]; exact i4 p hp (fun z => hc ((join_open hgo hst hp).mpr z))
  · obtain ⟨k, hk, e⟩ := i6
    exact ⟨k, hk, (joinA_0 _ _ _ (by decide) (by decide)).trans e⟩
  · rw [k3]; exact i8 p hp (fun z => hc ((join_open hgo hst hp).mpr z))
theorem join_GS {A : AS} (hG : GSOK A) {go st : Nat} (hgo : go < 12) (hst : st < 12) (hb : ∀ g, A 0 3 = nI g → g < 12 → ¬ g = go ∧ ¬ g = st) : GSOK (joinA go st A) := by
  rcases hG with z | ⟨g, s, m, k, h1, h2, h3, h4, h5, h6, h7, h8, h9, h10, h11⟩
  · exact Or.inl (by rw [joinA_0 _ _ _ (by decide) (by decide), joinA_0 _ _ _ (by decide) (by decide), joinA_0 _ _ _ (by decide) (by decide)]; exact z)
  · obtain ⟨b1, b2⟩ := hb g h6 h1
    have n1 : ¬ nI go = nI g := fun z => b1 ((nI_eq (by omega) (by omega)).mp z).symm
    have n2 : ¬ nI st = nI g := fun z => b2 ((nI_eq (by omega) (by omega)).mp z).symm
    refine Or.inr ⟨g, s, m, k, h1, h2, h3, h4, h5, (joinA_0 _ _ _ (by decide) (by decide)).trans h6, (joinA_0 _ _ _ (by decide) (by decide)).trans h7, (joinA_0 _ _ _ (by decide) (by decide)).trans h8, ?_, ?_, h11⟩
    · refine mUsed_g (fun q hq e => ?_) h9
      rw [joinA_1 _ _ _ hq, if_neg (fun y => n1 (y.symm.trans e))]; exact e
    · refine (mLiveIn_g (fun q hq => ⟨?_, fun _ => ?_⟩)).trans h10
      · rw [joinA_1 _ _ _ hq]
        by_cases y : A 1 q = nI go
        · rw [if_pos y, y]; exact ⟨fun x => absurd x n2, fun x => absurd x n1⟩
        · rw [if_neg y]
      · rw [joinA_k _ _ _ (by decide) (by decide), jnN_k _ _ _ _ (by decide)]
theorem bound_f {A : AS} {f : Nat} (h : mBound (A 0 3) (A 0 4) (nI f) = false) {g : Nat} (hg : g < 12) (e : A 0 3 = nI g) : ¬ g = f := by
  intro z
  unfold mBound at h
  rw [e, decide_eq_false (nI_m1 (by omega)), z, decide_eq_true rfl] at h
  cases h
theorem mesh_Inv {A : AS} (I : Inv A) {f g : Nat} (hf : f < 12) (hg : g < 12) (bf : mBound (A 0 3) (A 0 4) (nI f) = false) (bg : mBound (A 0 3) (A 0 4) (nI g) = false) : Inv (meshA f g A) := by
  obtain ⟨hgo, hst⟩ := goF_lt A hf hg
  have J := cpN_Inv I hgo hst (lvA A (goF f g A)) 16 (Nat.le_refl _)
  unfold meshA
  refine join_Inv J hgo hst (join_GS (iG J) hgo hst (fun g0 e h0 => ?_))
  rw [cpN_k _ _ _ (by decide)] at e
  have n1 := bound_f bf h0 e
  have n2 := bound_f bg h0 e
  rcases goF_cs f g A with ⟨e1, e2⟩ | ⟨e1, e2⟩ <;> rw [e1, e2]
  · exact ⟨n1, n2⟩
  · exact ⟨n2, n1⟩
/-! a fence -/
def fnB (go st : Nat) (A : AS) : AS := up (up A 0 3 (nI go)) 0 4 (nI st)
def fenceA (f g : Nat) (A : AS) : AS := wdA 3 (goF f g A) (stF f g A) (fnB (goF f g A) (stF f g A) A)
def unbA (A : AS) : AS := up (up (up A 0 3 (-1)) 0 4 (-1)) 0 5 0
theorem fnB_k (go st : Nat) (A : AS) {a : Nat} (h : ¬ a = 0) : fnB go st A a = A a := by unfold fnB; rw [up_k h, up_k h]
theorem fnB_0 (go st : Nat) (A : AS) {j : Nat} (h3 : ¬ j = 3) (h4 : ¬ j = 4) : fnB go st A 0 j = A 0 j := by unfold fnB; rw [up_n (fun z => h4 z.2), up_n (fun z => h3 z.2)]
theorem fnB_3 (go st : Nat) (A : AS) : fnB go st A 0 3 = nI go := by unfold fnB; rw [up_n (by omega), up_s]
theorem fnB_4 (go st : Nat) (A : AS) : fnB go st A 0 4 = nI st := up_s _ _ _ _
theorem go_pop {A : AS} (I : Inv A) {f g : Nat} (hd : lvA A f &&& lvA A g = 0) : ∃ k, k < 65536 ∧ lvA A (goF f g A) = nI k ∧ pop k ≤ 8 := by
  obtain ⟨kf, hkf, ekf⟩ := lvA_ok I f
  obtain ⟨kg, hkg, ekg⟩ := lvA_ok I g
  rw [ekf, ekg, nI_and] at hd
  have hl : kf &&& kg < 65536 := Nat.lt_of_le_of_lt Nat.and_le_left hkf
  have h0 : kf &&& kg = 0 := (nI_eq (b := 0) (by omega) (by decide)).mp hd
  have hp := pop_disj hkf hkg h0
  unfold goF sec
  rw [ekf, ekg, bitc_pop hkf, bitc_pop hkg]
  by_cases z : nI (pop kg) ≤ nI (pop kf)
  · rw [decide_eq_true z]
    have := (nI_leI (by omega) (by omega)).mp z
    exact ⟨kg, hkg, ekg, by omega⟩
  · rw [decide_eq_false z]
    have : ¬ pop kg ≤ pop kf := fun y => z ((nI_leI (by omega) (by omega)).mpr y)
    exact ⟨kf, hkf, ekf, by omega⟩
theorem fnB_Inv {A : AS} (I : Inv A) {go st k : Nat} (hgo : go < 12) (hst : st < 12) (hne : ¬ go = st) (h5 : A 0 5 = 0) (hu : mUsed (A 1) (nI go) = true) (hk : k < 65536) (ek : lvA A go = nI k) (hp : pop k ≤ 8) : Inv (fnB go st A) := by
  obtain ⟨i1, i2, i3, i4, i5, i6, i7, i8, i9, i10⟩ := I
  have k1 : fnB go st A 1 = A 1 := fnB_k _ _ _ (by decide)
  have k2 : fnB go st A 2 = A 2 := fnB_k _ _ _ (by decide)
  have k3 : fnB go st A 3 = A 3 := fnB_k _ _ _ (by decide)
  have k4 : fnB go st A 4 = A 4 := fnB_k _ _ _ (by decide)
  refine ⟨by rw [k1]; exact i1, by rw [k2]; exact i2, by rw [k1, k2]; exact i3, by rw [k1, k2]; exact i4, Or.inr ⟨go, st, 0, k, hgo, hst, hne, by decide, hk, fnB_3 _ _ _, fnB_4 _ _ _, (fnB_0 _ _ _ (by decide) (by decide)).trans h5, by rw [k1]; exact hu, ?_, hp⟩, by unfold XOK; rw [fnB_0 _ _ _ (by decide) (by decide)]; exact i6, DOK_c (fnB_0 _ _ _ (by decide) (by decide)) i7, by unfold VcOK; rw [k1, k3]; exact i8, by unfold VlOK; rw [k4]; exact i9, LnOK_c (fnB_0 _ _ _ (by decide) (by decide)) i10⟩
  rw [k1, k2, mLiveIn_f _ _ (nI_m1 (by omega))]; exact ek
theorem unb_k (A : AS) {a : Nat} (h : ¬ a = 0) : unbA A a = A a := by unfold unbA; rw [up_k h, up_k h, up_k h]
theorem unb_0 (A : AS) {j : Nat} (h3 : ¬ j = 3) (h4 : ¬ j = 4) (h5 : ¬ j = 5) : unbA A 0 j = A 0 j := by unfold unbA; rw [up_n (fun z => h5 z.2), up_n (fun z => h4 z.2), up_n (fun z => h3 z.2)]
theorem unb_GS (A : AS) : GSOK (unbA A) := Or.inl ⟨by unfold unbA; rw [up_n (by omega), up_n (by omega), up_s], by unfold unbA; rw [up_n (by omega), up_s], up_s _ _ _ _⟩
theorem unb_Inv {A : AS} (I : Inv A) : Inv (unbA A) := by
  obtain ⟨i1, i2, i3, i4, i5, i6, i7, i8, i9, i10⟩ := I
  have k1 : unbA A 1 = A 1 := unb_k _ (by decide)
  have k2 : unbA A 2 = A 2 := unb_k _ (by decide)
  have k3 : unbA A 3 = A 3 := unb_k _ (by decide)
  have k4 : unbA A 4 = A 4 := unb_k _ (by decide)
  exact ⟨by rw [k1]; exact i1, by rw [k2]; exact i2, by rw [k1, k2]; exact i3, by rw [k1, k2]; exact i4, unb_GS A, by unfold XOK; rw [unb_0 _ (by decide) (by decide) (by decide)]; exact i6, DOK_c (unb_0 _ (by decide) (by decide) (by decide)) i7, by unfold VcOK; rw [k1, k3]; exact i8, by unfold VlOK; rw [k4]; exact i9, LnOK_c (unb_0 _ (by decide) (by decide) (by decide)) i10⟩
theorem fence_Inv {A : AS} (I : Inv A) {p q f g : Nat} (hp : p < 12) (hq : q < 12) (hf : f < 12) (hg : g < 12) (ef : A 1 p = nI f) (eg : A 1 q = nI g) (hne : ¬ f = g) (h5 : A 0 5 = 0) (hd : lvA A f &&& lvA A g = 0) : Inv (fenceA f g A) := by
  obtain ⟨hgo, hst⟩ := goF_lt A hf hg
  obtain ⟨k, hk, ek, hpk⟩ := go_pop I hd
  refine wd_Inv _ _ _ (fnB_Inv I hgo hst ?_ h5 ?_ hk ek hpk)
  · rcases goF_cs f g A with ⟨e1, e2⟩ | ⟨e1, e2⟩ <;> rw [e1, e2]
    · exact hne
    · exact fun z => hne z.symm
  · rcases goF_cs f g A with ⟨e1, -⟩ | ⟨e1, -⟩ <;> rw [e1]
    · exact used_open hp ef
    · exact used_open hq eg
theorem stm_c {S : Mem} {t : Nat} {A : AS} (h : CP S t A) (d : Nat) : cal (d + 1) 37 [vR 1 t] S = some (some (vI (bitc (fLiveIn (A 1) (A 2) (A 0 3) &&& (A 0 5 ^^^ -1)))), S) := by
  rw [B_X1_slotsToMove, c0 h (by decide), kc_liveIn h, bI_s, c0 h (by decide), sp_bitCount, bI_s]
theorem fence_c {S : Mem} {t : Nat} {A : AS} (h : CP S t A) (I : Inv A) (d : Nat) {p q f g : Nat} (hp : p < 12) (hq : q < 12) (hf : f < 12) (hg : g < 12) (ef : A 1 p = nI f) (eg : A 1 q = nI g) (h5 : A 0 5 = 0) : ∃ S', cal (d + 2) 36 [vR 1 t, vI (nI p), vI (nI q)] S = some (some (vI (bitc (lvA A (goF f g A)))), S') ∧ CP S' t (fenceA f g A) ∧ FrC t S S' := by
  have op : fOpen (A 1) (nI p) = true := by rw [fOpen_nI hp, ef]; exact decide_eq_true (nI_m1 (by omega))
  have oq : fOpen (A 1) (nI q) = true := by rw [fOpen_nI hq, eg]; exact decide_eq_true (nI_m1 (by omega))
  obtain ⟨hgo, hst⟩ := goF_lt A hf hg
  have w3 : ∀ a b : Int32, rdI (wrI (wrI S t 3 a) t 4 b) t 3 = a := fun a b => by rw [rdI_wrI, if_neg (by omega), rdI_wrI, if_pos ⟨rfl, rfl⟩]
  have w4 : ∀ a b : Int32, rdI (wrI (wrI S t 3 a) t 4 b) t 4 = b := fun a b => by rw [rdI_wrI, if_pos ⟨rfl, rfl⟩]
  have wp : ∀ (a : Int32) (x : Nat), x < 12 → rdI (wrI S t 3 a) (t + 1) x = A 1 x := fun a x hx => by rw [rdI_wrI, if_neg (by omega), c1 h x hx]
  have fin : ∃ S', bV (cal (d + 1) 21 [vR 1 t, vI 3, vI (nI (goF f g A)), vI (nI (stF f g A))] (wrI (wrI S t 3 (nI (goF f g A))) t 4 (nI (stF f g A)))) (fun S7 => bI (cal (d + 1) 37 [vR 1 t] S7) (fun x9 S8 => some (some (vI x9), S8))) = some (some (vI (bitc (lvA A (goF f g A)))), S') ∧ CP S' t (fenceA f g A) ∧ FrC t S S' := by
    have h2 : CP (wrI (wrI S t 3 (nI (goF f g A))) t 4 (nI (stF f g A))) t (fnB (goF f g A) (stF f g A) A) := CP_w (CP_w h (k := 0) (i := 3) (by decide) (by decide) _) (k := 0) (i := 4) (by decide) (by decide) _
    have hD : DOK (fnB (goF f g A) (stF f g A) A) := DOK_c (fnB_0 _ _ _ (by decide) (by decide)) (iD I)
    obtain ⟨S3, e3, h3, f3⟩ := wd_c h2 hD d (k := 3) (x := goF f g A) (y := stF f g A) (by decide) hgo hst
    have e3' : cal (d + 1) 21 [vR 1 t, vI 3, vI (nI (goF f g A)), vI (nI (stF f g A))] (wrI (wrI S t 3 (nI (goF f g A))) t 4 (nI (stF f g A))) = some (none, S3) := e3
    rw [e3', bV_s, stm_c h3, bI_s, wdA_k _ _ _ _ (by decide) (by decide), wdA_k _ _ _ _ (by decide) (by decide), wdA_o _ _ _ _ (by decide) (by decide), wdA_o _ _ _ _ (by decide) (by decide), fnB_k _ _ _ (by decide), fnB_k _ _ _ (by decide), fnB_3, fnB_0 _ _ _ (by decide) (by decide), h5, andn_0]
    exact ⟨S3, rfl, h3, FrC_t (FrC_t (FrC_w (by omega) (by omega)) (FrC_w (by omega) (by omega))) f3⟩
  rw [B_X1_fencePages, kc_open h, bI_s, op, ite_b0, if_neg (by decide), kc_open h, bI_s, oq, ite_b0, if_neg (by decide), sec_c h d hp hq ef eg, bI_s]
  cases hs : sec f g A
  · have e1 : goF f g A = f := by unfold goF; rw [hs]; rfl
    have e2 : stF f g A = g := by unfold stF; rw [hs]; rfl
    rw [e1, e2] at fin
    rw [e1, ite_b0, if_pos rfl, i12 hp, gd_t, ite_b0, if_pos rfl, i12 hq, gd_t, x12 hp, x12 hq, c1 h p hp, ef, wp _ q hq, eg, w3, w4]
    exact fin
  · have e1 : goF f g A = g := by unfold goF; rw [hs]; rfl
    have e2 : stF f g A = f := by unfold stF; rw [hs]; rfl
    rw [e1, e2] at fin
    rw [e1, ite_b0, if_neg (by decide), i12 hq, gd_t, ite_b0, if_neg (by decide), i12 hp, gd_t, x12 hp, x12 hq, c1 h q hq, eg, wp _ p hp, ef, w3, w4]
    exact fin
theorem fence_m {S : Mem} {r : Nat} {A : AS} (h : RP S (r + 1) 4 A) (I : Inv A) (d : Nat) {f g : Nat} (hf : f < 12) (hg : g < 12) (h5 : A 0 5 = 0) : ∃ S', cal (d + 2) 246 [vR 8 r, vI (nI f), vI (nI g)] S = some (some (vI (bitc (lvA A (goF f g A)))), S') ∧ RP S' (r + 1) 4 (fenceA f g A) ∧ FrM r S S' := by
  obtain ⟨hgo, hst⟩ := goF_lt A hf hg
  obtain ⟨e0, ego⟩ := stay_m h I d hf hg
  have h2 := RP_w (RP_w (RP_w h (k := 0) (i := 4) (by decide) (by decide) (by decide) (nI (stF f g A)) (fun z => absurd z (by decide))) (k := 0) (i := 3) (by decide) (by decide) (by decide) (nI (goF f g A)) (fun z => absurd z (by decide))) (k := 0) (i := 5) (by decide) (by decide) (by decide) 0 (fun z => absurd z (by decide))
  have eB : up (up (up A 0 4 (nI (stF f g A))) 0 3 (nI (goF f g A))) 0 5 0 = fnB (goF f g A) (stF f g A) A := by
    funext a b
    unfold fnB up
    by_cases z5 : a = 0 ∧ b = 5
    · rw [if_pos z5, if_neg (by omega), if_neg (by omega), z5.1, z5.2, h5]
    · rw [if_neg z5]
      by_cases z3 : a = 0 ∧ b = 3
      · rw [if_pos z3, if_neg (by omega), if_pos z3]
      · rw [if_neg z3, if_neg z3]
  rw [eB] at h2
  have w8 : ∀ a : Int32, rdI (wrI S (r + 1) 8 a) (r + 1) 8 = a := fun a => by rw [rdI_wrI, if_pos ⟨rfl, rfl⟩]
  have g7 : rdI (wrI (wrI (wrI S (r + 1) 8 (nI (stF f g A))) (r + 1) 7 (nI (goF f g A))) (r + 1) 9 0) (r + 1) 7 = nI (goF f g A) := by rw [rdI_wrI, if_neg (by omega), rdI_wrI, if_pos ⟨rfl, rfl⟩]
  have g8 : rdI (wrI (wrI (wrI S (r + 1) 8 (nI (stF f g A))) (r + 1) 7 (nI (goF f g A))) (r + 1) 9 0) (r + 1) 8 = nI (stF f g A) := by rw [rdI_wrI, if_neg (by omega), rdI_wrI, if_neg (by omega), rdI_wrI, if_pos ⟨rfl, rfl⟩]
  have hD : DOK (fnB (goF f g A) (stF f g A) A) := DOK_c (fnB_0 _ _ _ (by decide) (by decide)) (iD I)
  have hN : LnOK (fnB (goF f g A) (stF f g A) A) := LnOK_c (fnB_0 _ _ _ (by decide) (by decide)) (iN I)
  obtain ⟨S3, e3, h3, f3⟩ := wd_m h2 hD hN (d + 1) 3 (goF f g A) (stF f g A)
  have e3' : cal (d + 1) 228 [vR 8 r, vI 3, vI (nI (goF f g A)), vI (nI (stF f g A))] (wrI (wrI (wrI S (r + 1) 8 (nI (stF f g A))) (r + 1) 7 (nI (goF f g A))) (r + 1) 9 0) = some (none, S3) := e3
  have r7 : rdI S3 (r + 1) 7 = nI (goF f g A) := by
    rw [m07 h3]
    rw [wdA_o _ _ _ _ (by decide) (by decide), fnB_3]
  have el : lvA (wdA 3 (goF f g A) (stF f g A) (fnB (goF f g A) (stF f g A) A)) (goF f g A) = lvA A (goF f g A) := by
    unfold lvA
    rw [wdA_k _ _ _ _ (by decide) (by decide), wdA_k _ _ _ _ (by decide) (by decide), fnB_k _ _ _ (by decide), fnB_k _ _ _ (by decide)]
  rw [B_X8_fenceNow, e0, bI_s, i13_8, gd_t, gd_t, i13_7, gd_t, i13_9, gd_t, gd_t, gd_t, x13_8, x13_7, x13_9, w8, ego, g7, g8, e3', bV_s, gd_t, r7, km_lvA h3 (d + 1) hgo, bI_s, el, km_bits (d + 1) (lvA_ok I _), bI_s]
  exact ⟨S3, rfl, h3, FrM_t (FrM_t (FrM_t (FrM_w (by decide) (by decide)) (FrM_w (by decide) (by decide))) (FrM_w (by decide) (by decide))) f3⟩
/-! lifted -/
def liftA (A : AS) : AS := unbA (wdA 4 (ix (A 0 3)) (ix (A 0 4)) A)
theorem lift_Inv {A : AS} (I : Inv A) : Inv (liftA A) := unb_Inv (wd_Inv _ _ _ I)
theorem drop_c {S : Mem} {t : Nat} {A : AS} (h : CP S t A) (d : Nat) : ∃ S', cal d 40 [vR 1 t] S = some (none, S') ∧ CP S' t (unbA A) ∧ FrC t S S' := by
  rw [B_X1_dropFence]
  exact ⟨_, rfl, CP_w (CP_w (CP_w h (k := 0) (i := 3) (by decide) (by decide) _) (k := 0) (i := 4) (by decide) (by decide) _) (k := 0) (i := 5) (by decide) (by decide) _, FrC_t (FrC_t (FrC_w (by omega) (by omega)) (FrC_w (by omega) (by omega))) (FrC_w (by omega) (by omega))⟩
theorem drop_m {S : Mem} {r : Nat} {A : AS} (h : RP S (r + 1) 4 A) (d : Nat) : ∃ S', cal d 247 [vR 8 r] S = some (none, S') ∧ RP S' (r + 1) 4 (unbA A) ∧ FrM r S S' := by
  rw [B_X8_unbind, i13_7, gd_t, i13_8, gd_t, i13_9, gd_t, x13_7, x13_8, x13_9]
  exact ⟨_, rfl, RP_w (RP_w (RP_w h (k := 0) (i := 3) (by decide) (by decide) (by decide) _ (fun z => absurd z (by decide))) (k := 0) (i := 4) (by decide) (by decide) (by decide) _ (fun z => absurd z (by decide))) (k := 0) (i := 5) (by decide) (by decide) (by decide) _ (fun z => absurd z (by decide)), FrM_t (FrM_t (FrM_w (by omega) (by omega)) (FrM_w (by omega) (by omega))) (FrM_w (by omega) (by omega))⟩
theorem lift_c {S : Mem} {t : Nat} {A : AS} (h : CP S t A) (I : Inv A) (d : Nat) (hg : ¬ A 0 3 = -1) : ∃ S', cal (d + 2) 39 [vR 1 t] S = some (none, S') ∧ CP S' t (liftA A) ∧ FrC t S S' := by
  rcases iG I with z | ⟨g, s, m, k, h1, h2, h3, h4, h5, h6, h7, h8, h9, h10, h11⟩
  · exact absurd z.1 hg
  · obtain ⟨S3, e3, h3', f3⟩ := wd_c h (iD I) d (k := 4) (x := g) (y := s) (by decide) h1 h2
    have e3' : cal (d + 1) 21 [vR 1 t, vI 4, vI (nI g), vI (nI s)] S = some (none, S3) := e3
    obtain ⟨S4, e4, h4', f4⟩ := drop_c h3' (d + 1)
    rw [B_X1_liftFence, c0 h (by decide), c0 h (by decide), h6, h7, e3', bV_s, e4, bV_s]
    refine ⟨S4, rfl, ?_, FrC_t f3 f4⟩
    unfold liftA
    rw [h6, h7, ix_nI (by omega), ix_nI (by omega)]; exact h4'
theorem lift_m {S : Mem} {r : Nat} {A : AS} (h : RP S (r + 1) 4 A) (I : Inv A) (d : Nat) (hg : ¬ A 0 3 = -1) : ∃ S', cal (d + 1) 249 [vR 8 r] S = some (none, S') ∧ RP S' (r + 1) 4 (liftA A) ∧ FrM r S S' := by
  rcases iG I with z | ⟨g, s, m, k, h1, h2, h3, h4, h5, h6, h7, h8, h9, h10, h11⟩
  · exact absurd z.1 hg
  · obtain ⟨S3, e3, h3', f3⟩ := wd_m h (iD I) (iN I) d 4 g s
    have e3' : cal d 228 [vR 8 r, vI 4, vI (nI g), vI (nI s)] S = some (none, S3) := e3
    obtain ⟨S4, e4, h4', f4⟩ := drop_m h3' d
    rw [B_X8_liftNow, i13_7, gd_t, i13_8, gd_t, x13_7, x13_8, m07 h, m08 h, h6, h7, e3', bV_s, e4, bV_s]
    refine ⟨S4, rfl, ?_, FrM_t f3 f4⟩
    unfold liftA
    rw [h6, h7, ix_nI (by omega), ix_nI (by omega)]; exact h4'
