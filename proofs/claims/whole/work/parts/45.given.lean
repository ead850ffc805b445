/-! giving out: class and reference -/
def gvP (A : AS) : Nat := match aGiver A with
  | some p => p
  | none => (fNew (A 1)).getD 0
def gvA (A : AS) : AS := match aGiver A with
  | some _ => A
  | none => opA ((fNew (A 1)).getD 0) ((fFree (A 1)).getD 0) A
def gvS (A : AS) : Nat := ix (aSlot (gvA A) (nI (gvP A)))
def giveA (v : Int32) (A : AS) : AS := putG (gvP A) (gvS A) v (gvA A)
theorem giver_lt {A : AS} {p : Nat} (h : aGiver A = some p) : p < 12 ∧ ¬ aSlot A (nI p) = -1 := by
  unfold aGiver fGiver at h
  obtain ⟨-, h2, h3, -⟩ := ffind_some h
  refine ⟨by omega, fun z => ?_⟩
  unfold aSlot at z
  rw [z] at h3
  simp at h3
theorem room_new {A : AS} (hr : aRoom A = true) (hg : aGiver A = none) : ∃ p, fNew (A 1) = some p := by
  unfold aGiver at hg
  unfold aRoom fRoom at hr
  rw [hg] at hr
  cases h : fNew (A 1) with
  | some p => exact ⟨p, rfl⟩
  | none => rw [h] at hr; cases hr
theorem new_free {A : AS} (I : Inv A) {p : Nat} (h : fNew (A 1) = some p) : ∃ f, fFree (A 1) = some f ∧ f < 12 ∧ mUsed (A 1) (nI f) = false ∧ p < 12 ∧ A 1 p = -1 := by
  obtain ⟨-, hp, hc, -⟩ := ffind_some h
  have hm := free_of_new (fr := A 1) (by rw [h]; rfl)
  rw [free_same (iF I)]
  cases hf : mFree (A 1) with
  | none => rw [hf] at hm; cases hm
  | some f =>
    obtain ⟨-, h2, h3, -⟩ := ffind_some hf
    exact ⟨f, rfl, by omega, by simpa using h3, by omega, of_decide_eq_true hc⟩
theorem op_slot {A : AS} (I : Inv A) {p f : Nat} (hp : p < 12) (hpn : A 1 p = -1) (hf : f < 12) (hfn : mUsed (A 1) (nI f) = false) : ∃ s, s < 16 ∧ aSlot (opA p f A) (nI p) = nI s ∧ ¬ opA p f A 1 p = opA p f A 0 3 := by
  have I' := op_IvP I hp hpn hf hfn
  have hu := (mUsed_iff (A 1) (nI f)).mp hfn
  have e03 : opA p f A 0 3 = A 0 3 := op_o p f (by decide) (by decide) (by omega) (by omega) (by omega)
  have e04 : opA p f A 0 4 = A 0 4 := op_o p f (by decide) (by decide) (by omega) (by omega) (by omega)
  have e1 : opA p f A 1 p = nI f := op_1 A p f
  have eq1 : ∀ q, ¬ q = p → opA p f A 1 q = A 1 q := fun q hq => op_o p f (by decide) (by decide) (by omega) (by omega) (by omega)
  have e2 : opA p f A 2 = A 2 := funext fun b => op_o p f (by decide) (by decide) (by omega) (by omega) (by omega)
  have hg : ¬ opA p f A 1 p = opA p f A 0 3 := by
    rw [e1, e03]
    rcases iG I with z | ⟨g, st, m, k, h1, h2, h3, h4, h5, h6, h7, h8, h9, h10, h11⟩
    · rw [z.1]; exact nI_m1 (by omega)
    · rw [h6]
      intro z
      rw [(nI_eq (by omega) (by omega)).mp z] at hfn
      rw [hfn] at h9; cases h9
  have hself : fLiveIn (opA p f A 1) (opA p f A 2) (nI f) = 0 := by
    rw [← mLiveIn_f _ _ (nI_m1 (by omega)), e2]
    unfold mLiveIn
    rw [itN_congr (g := fun _ b => b) (fun q b hq => ?_)]
    · exact (by induction 12 with
        | zero => rfl
        | succ n ih => exact ih)
    · try dsimp only
      by_cases z : q = p
      · rw [z, e1, if_pos rfl, iLF I p hp hpn, or0]
      · rw [eq1 q z, if_neg (hu q hq)]
  have hk : ∃ k, k < 65536 ∧ ¬ k = 65535 ∧ fTaken (opA p f A 1) (opA p f A 2) (opA p f A 0 3) (opA p f A 0 4) p = nI k := by
    unfold fTaken
    rw [e1, hself]
    by_cases z : nI f = opA p f A 0 4
    · rw [if_pos z]
      have ez : (0 : Int32) ||| fLiveIn (opA p f A 1) (opA p f A 2) (opA p f A 0 3) = fLiveIn (opA p f A 1) (opA p f A 2) (opA p f A 0 3) := Int32.zero_or
      rw [ez]
      rcases I'.2.2.2.2.1 with y | ⟨g, st, m, k, h1, h2, h3, h4, h5, h6, h7, h8, h9, h10, h11⟩
      · rw [y.2.1] at z; exact absurd z (nI_m1 (by omega))
      · refine ⟨k, h5, fun y => ?_, ?_⟩
        · rw [y] at h11; exact absurd h11 (by decide +kernel)
        · rw [h6, ← mLiveIn_f _ _ (nI_m1 (by omega))]; exact h10
    · rw [if_neg z]; exact ⟨0, by decide, by decide, rfl⟩
  obtain ⟨k, hk1, hk2, hk3⟩ := hk
  obtain ⟨s, hs, e⟩ := slot_ex I'.2.2.2.2.2.2.2.1 hp (by rw [e1]; exact nI_m1 (by omega)) hg hk3 hk1 hk2
  exact ⟨s, hs, e, hg⟩
theorem gv_facts {A : AS} (I : Inv A) (hr : aRoom A = true) : gvP A < 12 ∧ IvP (gvP A) (gvA A) ∧ ¬ gvA A 1 (gvP A) = -1 ∧ ¬ gvA A 1 (gvP A) = gvA A 0 3 ∧ gvS A < 16 ∧ aSlot (gvA A) (nI (gvP A)) = nI (gvS A) := by
  cases hg : aGiver A with
  | some p =>
    obtain ⟨hp, hn⟩ := giver_lt hg
    have eP : gvP A = p := by unfold gvP; rw [hg]
    have eA : gvA A = A := by unfold gvA; rw [hg]
    rcases slot_cs (iV I) hp with h | ⟨s, hs, e, ho, hgo, -⟩
    · exact absurd h hn
    · have eS : gvS A = s := by unfold gvS; rw [eA, eP, e, ix_nI (by omega)]
      rw [eA, eP, eS]
      exact ⟨hp, IvP_of I p, ho, hgo, hs, e⟩
  | none =>
    obtain ⟨p, hp⟩ := room_new hr hg
    obtain ⟨f, hf, hf12, hfu, hp12, hpn⟩ := new_free I hp
    have eP : gvP A = p := by unfold gvP; rw [hg, hp]; rfl
    have eA : gvA A = opA p f A := by unfold gvA; rw [hg, hp, hf]; rfl
    obtain ⟨s, hs, e, hgo⟩ := op_slot I hp12 hpn hf12 hfu
    have eS : gvS A = s := by unfold gvS; rw [eA, eP, e, ix_nI (by omega)]
    rw [eA, eP, eS]
    exact ⟨hp12, op_IvP I hp12 hpn hf12 hfu, by rw [op_1]; exact nI_m1 (by omega), hgo, hs, e⟩
theorem give_Inv {A : AS} (I : Inv A) (hr : aRoom A = true) {v : Int32} (hv : ∃ w : Nat, w < 1000 ∧ v = nI w) : Inv (giveA v A) := by
  obtain ⟨h1, h2, h3, h4, h5, h6⟩ := gv_facts I hr
  exact putG_Inv h2 h1 h3 h4 h5 hv
theorem fr_ex {A : AS} {p : Nat} {q : Nat} (I : IvP q A) (hp : p < 12) (ho : ¬ A 1 p = -1) : ∃ f, f < 12 ∧ A 1 p = nI f := by
  rcases I.1 p hp with z | z
  · exact absurd z ho
  · exact z
/-- the last steps of giving out -/
theorem put_c {S : Mem} {t : Nat} {A : AS} (h : CP S t A) {p q s : Nat} (I : IvP q A) (hp : p < 12) (ho : ¬ A 1 p = -1) (hs : s < 16) (v : Int32) (d : Nat) : ∃ S', cal (d + 2) 12 [vR 1 t, vI (nI p * 16 + nI s), vI v] (wrI S (t + 2) p (rdI S (t + 2) p ||| shlI 1 (nI s))) = some (none, S') ∧ CP S' t (putG p s v A) ∧ FrC t S S' := by
  obtain ⟨f, hf, ef⟩ := fr_ex I hp ho
  have h2 := CP_w h (k := 2) (i := p) (by decide) (by omega) (A 2 p ||| nI (2 ^ s))
  have ea : nI p * 16 + nI s = nI (p * 16 + s) := by
    show nI p * nI 16 + nI s = _
    rw [pk_mul, nI_add]
  have hF : FrOK (rdI (wrI S (t + 2) p (A 2 p ||| nI (2 ^ s))) (t + 1)) := FrOK_c (c1 h2) (by rw [up_k (by decide)]; exact I.1)
  rw [ea, c2 h p hp, shl1 hs, sp_putAt d t _ v _ hF]
  have ec : fCell (rdI (wrI S (t + 2) p (A 2 p ||| nI (2 ^ s))) (t + 1)) (nI (p * 16 + s)) = nI (f * 16 + s) := by
    rw [fCell_c (c1 h2), up_k (by decide)]
    unfold fCell
    rw [div16 (by omega), rem16 (by omega), show (p * 16 + s) / 16 = p by omega, show (p * 16 + s) % 16 = s by omega, fOpen_nI hp, decide_eq_true ho, if_pos ⟨inb_t (by omega) (by decide), rfl⟩, x12 hp, ef]
    show nI f * nI 16 + nI s = _
    rw [pk_mul, nI_add]
  have hy : inb (nI (p * 16 + s)) 192 = true ∧ fOpen (rdI (wrI S (t + 2) p (A 2 p ||| nI (2 ^ s))) (t + 1)) (nI (p * 16 + s) / 16) = true := by
    rw [fOpen_c (c1 h2), up_k (by decide), div16 (by omega), show (p * 16 + s) / 16 = p by omega, fOpen_nI hp]
    exact ⟨inb_t (by omega) (by decide), decide_eq_true ho⟩
  rw [if_pos hy, ec, ix_nI (by omega)]
  refine ⟨_, rfl, ?_, FrC_t (FrC_w (by omega) (by omega)) (FrC_w (by omega) (by omega))⟩
  have h3 := CP_w h2 (k := 4) (i := f * 16 + s) (by decide) (by omega) v
  unfold putG
  rw [ef, ix_nI (by omega)]
  exact h3
theorem give_c {S : Mem} {t : Nat} {A : AS} (h : CP S t A) (I : Inv A) (hr : aRoom A = true) (v : Int32) (d : Nat) : ∃ S', cal (d + 4) 28 [vR 1 t, vI v] S = some (some (vI (nI (gvP A * 16 + gvS A))), S') ∧ CP S' t (giveA v A) ∧ FrC t S S' := by
  obtain ⟨h1, h2, h3, h4, h5, h6⟩ := gv_facts I hr
  have ea : nI (gvP A) * 16 + nI (gvS A) = nI (gvP A * 16 + gvS A) := by
    show nI (gvP A) * nI 16 + nI (gvS A) = _
    rw [pk_mul, nI_add]
  rw [B_X1_giveOut, kc_giver h, bI_s]
  cases hg : aGiver A with
  | some p =>
    have eP : gvP A = p := by unfold gvP; rw [hg]
    have eA : gvA A = A := by unfold gvA; rw [hg]
    rw [eA, eP] at h6
    rw [eP, eA] at h2 h3
    rw [eP] at h1
    obtain ⟨S', e', c', f'⟩ := put_c h h2 h1 h3 h5 v (d + 1)
    have hm1 : ¬ nI p = -1 := nI_m1 (by omega)
    have hm2 : ¬ nI (gvS A) = -1 := nI_m1 (by omega)
    rw [oI_some, if_neg hm1, kc_slot h, bI_s, h6, if_neg hm1, if_neg hm2, i12 h1, gd_t, gd_t, x12 h1, e', bV_s, ← eP, ea]
    refine ⟨S', rfl, ?_, f'⟩
    unfold giveA
    rw [eP, eA]; exact c'
  | none =>
    obtain ⟨p, hp⟩ := room_new hr hg
    obtain ⟨f, hf, hf12, hfu, hp12, hpn⟩ := new_free I hp
    have eP : gvP A = p := by unfold gvP; rw [hg, hp]; rfl
    have eA : gvA A = opA p f A := by unfold gvA; rw [hg, hp, hf]; rfl
    obtain ⟨S1, e1, c1', f1⟩ := op_c h I (d + 1) hp hf
    rw [eA, eP] at h6
    rw [eP, eA] at h2 h3
    obtain ⟨S', e', c', f'⟩ := put_c c1' h2 hp12 h3 h5 v (d + 1)
    have hm1 : ¬ nI p = -1 := nI_m1 (by omega)
    have hm2 : ¬ nI (gvS A) = -1 := nI_m1 (by omega)
    rw [oI_none, if_pos rfl, e1, bI_s, kc_slot c1', bI_s, h6, if_neg hm1, if_neg hm2, i12 hp12, gd_t, gd_t, x12 hp12, e', bV_s, ← eP, ea]
    refine ⟨S', rfl, ?_, FrC_t f1 f'⟩
    unfold giveA
    rw [eP, eA]; exact c'
theorem give_c0 {S : Mem} {t : Nat} {A : AS} (h : CP S t A) (hr : aRoom A = false) (v : Int32) (d : Nat) : cal (d + 4) 28 [vR 1 t, vI v] S = some (some (vI (-1)), S) := by
  have hg : aGiver A = none := by
    unfold aRoom fRoom at hr
    unfold aGiver
    cases hx : fGiver (A 1) (A 2) (A 3) (A 0 3) (A 0 4) with
    | none => rfl
    | some p => rw [hx] at hr; cases hr
  have hn : fNew (A 1) = none := by
    unfold aRoom fRoom at hr
    cases hx : fNew (A 1) with
    | none => rfl
    | some p => rw [hx, Bool.or_eq_false_iff] at hr; cases hr.2
  have hs : aSlot A (-1) = -1 := by
    unfold aSlot fSlot
    rw [if_neg]
    rintro ⟨z, -⟩
    unfold fOpen at z
    rw [show inb (-1) 12 = false by decide] at z
    cases z
  rw [B_X1_giveOut, kc_giver h, bI_s, hg, oI_none, if_pos rfl, B_X1_openPage, kc_new h, bI_s, kc_free h, bI_s, hn, oI_none, if_pos rfl, bI_s, kc_slot h, bI_s, if_pos rfl]
/-- the reference's last steps -/
theorem put_m {S : Mem} {r : Nat} {A : AS} (h : RP S (r + 1) 4 A) {p q s : Nat} (I : IvP q A) (hp : p < 12) (ho : ¬ A 1 p = -1) (hs : s < 16) (v : Int32) : ∃ S', (gd (inb (23 + nI p) 13669) (gd (inb (23 + nI p) 13669) (gd (inb (11 + nI p) 13669) (gd (inb ((227 + (16 * (rdI (wrI S (r + 1) (ix (23 + nI p)) ((rdI S (r + 1) (ix (23 + nI p))) ||| (shlI 1 (nI s)))) (r + 1) (ix (11 + nI p))))) + nI s) 13669) (some (some (vI ((16 * nI p) + nI s)), wrI (wrI S (r + 1) (ix (23 + nI p)) ((rdI S (r + 1) (ix (23 + nI p))) ||| (shlI 1 (nI s)))) (r + 1) (ix ((227 + (16 * (rdI (wrI S (r + 1) (ix (23 + nI p)) ((rdI S (r + 1) (ix (23 + nI p))) ||| (shlI 1 (nI s)))) (r + 1) (ix (11 + nI p))))) + nI s)) v)))))) = some (some (vI (nI (p * 16 + s))), S') ∧ RP S' (r + 1) 4 (putG p s v A) ∧ FrM r S S' := by
  obtain ⟨f, hf, ef⟩ := fr_ex I hp ho
  have e2 : rdI S (r + 1) (23 + p) = A 2 p := m2 h p hp
  have e1 : rdI S (r + 1) (11 + p) = A 1 p := m1 h p hp
  have ev : ((227 : Int32) + 16 * nI f) + nI s = nI (227 + (f * 16 + s)) := by
    show (nI 227 + nI 16 * nI f) + nI s = _
    rw [pk_mul, nI_add, nI_add]; congr 1; omega
  have ea : (16 : Int32) * nI p + nI s = nI (p * 16 + s) := by
    show nI 16 * nI p + nI s = _
    rw [pk_mul, nI_add]; congr 1; omega
  rw [a23, a11, i13 (by omega), gd_t, gd_t, i13 (by omega), gd_t, ix_nI (by omega), ix_nI (by omega), rdI_wrI, if_neg (by omega), e1, e2, ef, ev, i13 (by omega), gd_t, ix_nI (by omega), ea, shl1 hs]
  refine ⟨_, rfl, ?_, FrM_t (FrM_w (by omega) (by omega)) (FrM_w (by omega) (by omega))⟩
  have w1 := RP_w h (k := 2) (i := p) (by decide) (by decide) (by show p < 12; exact hp) (A 2 p ||| nI (2 ^ s)) (fun z => absurd z (by decide))
  have w2 := RP_w w1 (k := 4) (i := f * 16 + s) (by decide) (by decide) (by show _ < 192; omega) v (fun z => absurd z (by decide))
  rw [show 4 + (off 2 + p) = 23 + p by show 4 + (19 + p) = _; omega, show 4 + (off 4 + (f * 16 + s)) = 227 + (f * 16 + s) by show 4 + (223 + (f * 16 + s)) = _; omega] at w2
  unfold putG
  rw [ef, ix_nI (by omega)]
  exact w2
theorem give_m {S : Mem} {r : Nat} {A : AS} (h : RP S (r + 1) 4 A) (I : Inv A) (hr : aRoom A = true) (v : Int32) (d : Nat) : ∃ S', cal (d + 3) 237 [vR 8 r, vI v] S = some (some (vI (nI (gvP A * 16 + gvS A))), S') ∧ RP S' (r + 1) 4 (giveA v A) ∧ FrM r S S' := by
  obtain ⟨h1, h2, h3, h4, h5, h6⟩ := gv_facts I hr
  rw [B_X8_giveNow, km_giver h I, bI_s]
  cases hg : aGiver A with
  | some p =>
    have eP : gvP A = p := by unfold gvP; rw [hg]
    have eA : gvA A = A := by unfold gvA; rw [hg]
    rw [eA, eP] at h6
    rw [eP, eA] at h2 h3
    rw [eP] at h1
    obtain ⟨S', e', c', f'⟩ := put_m h h2 h1 h3 h5 v
    rw [oI_some, if_neg (nI_m1 (by omega)), km_slot h (iGS I) (d + 1) h1, bI_s, h6, e', eP]
    refine ⟨S', rfl, ?_, f'⟩
    unfold giveA
    rw [eP, eA]; exact c'
  | none =>
    obtain ⟨p, hp⟩ := room_new hr hg
    obtain ⟨f, hf, hf12, hfu, hp12, hpn⟩ := new_free I hp
    have eP : gvP A = p := by unfold gvP; rw [hg, hp]; rfl
    have eA : gvA A = opA p f A := by unfold gvA; rw [hg, hp, hf]; rfl
    obtain ⟨S1, e1, c1', f1⟩ := op_m h I d (f := f) hp12 hpn
    rw [eA, eP] at h6
    rw [eP, eA] at h2 h3
    have hgs : opA p f A 0 3 = -1 → opA p f A 0 4 = -1 := by
      rw [op_o p f (by decide) (by decide) (by omega) (by omega) (by omega), op_o p f (by decide) (by decide) (by omega) (by omega) (by omega)]
      exact iGS I
    obtain ⟨S', e', c', f'⟩ := put_m c1' h2 hp12 h3 h5 v
    rw [oI_none, if_pos rfl, km_new h, bI_s, hp, oI_some, km_free h I, bI_s, hf, oI_some, e1, bV_s, km_slot c1' hgs (d + 1) hp12, bI_s, h6, e', eP]
    refine ⟨S', rfl, ?_, FrM_t f1 f'⟩
    unfold giveA
    rw [eP, eA]; exact c'
