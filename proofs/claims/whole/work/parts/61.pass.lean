/-! a day passes -/
def dvA (A : AS) : AS := if aRoom (aDr (aDr A)) = true then giveA (nI (xA (aDr A) % 1000)) (aDr (aDr A)) else aDr (aDr A)
def dfQ (A : AS) : Nat := nthQ (aDr (aDr A)) (xA (aDr A) % totN (aDr A))
def dfB (A : AS) : Bool := if totN (aDr A) = 0 then false else fReach (aDr (aDr A) 1) (aDr (aDr A) 2) (aDr (aDr A) 0 3) (nI (dfQ A))
def dfA (A : AS) : AS := if totN (aDr A) = 0 then aDr A else if dfB A = true then freeA (dfQ A) (aDr (aDr A)) else aDr (aDr A)
def dyB (L : Nat → Option (Env → Int)) (A : AS) : AS := if xA A % 8 ≤ 3 then dvA A else if xA A % 8 ≤ 6 then dfA A else (cpC L (aDr A)).1
def dyD (A : AS) : Bool := if xA A % 8 ≤ 3 then aRoom (aDr (aDr A)) else if xA A % 8 ≤ 6 then dfB A else true
def dayA (L : Nat → Option (Env → Int)) (A : AS) : AS := up (dyB L A) 0 0 (dyB L A 0 0 + 1)
/-! what the day leaves as it was -/
theorem put_00 (p s : Nat) (v : Int32) (A : AS) : putG p s v A 0 0 = A 0 0 := by rw [putG_0]
theorem op_00 (p f : Nat) (A : AS) : opA p f A 0 0 = A 0 0 := op_o p f (by decide) (by decide) (by omega) (by omega) (by omega)
theorem give_00 (v : Int32) (A : AS) : giveA v A 0 0 = A 0 0 := by
  unfold giveA
  rw [put_00]
  unfold gvA
  cases aGiver A with
  | some p => rfl
  | none => exact op_00 _ _ A
theorem free_00 (q : Nat) (A : AS) : freeA q A 0 0 = A 0 0 := by
  unfold freeA
  by_cases h : frB q A 2 (q / 16) = 0
  · rw [if_pos h, up_n (by omega), wdA_o _ _ _ _ (by decide) (by decide), frB_k q A (by decide)]
  · rw [if_neg h, frB_k q A (by decide)]
theorem mesh_00 (f g : Nat) (A : AS) : meshA f g A 0 0 = A 0 0 := by
  unfold meshA
  rw [joinA_0 _ _ _ (by decide) (by decide), cpN_k _ _ _ (by decide)]
theorem cS_00 (L : Nat → Option (Env → Int)) (f g : Nat) (s : CSt) : (cS L f g s).1 0 0 = s.1 0 0 := by
  unfold cS
  by_cases h : (s.2.1 f || s.2.1 g) = true
  · rw [if_pos h]
  · rw [if_neg h]
    by_cases h2 : hinA L s.1 (lowP s.1 f) (lowP s.1 g) = 0
    · rw [if_pos h2]; exact mesh_00 f g s.1
    · rw [if_neg h2]
theorem cJ_00 (L : Nat → Option (Env → Int)) (R : Nat → Nat) (half i : Nat) (s : CSt) : ∀ n, (cJ L R half i n s).1 0 0 = s.1 0 0
  | 0 => rfl
  | n + 1 => (cS_00 L _ _ (cJ L R half i n s)).trans (cJ_00 L R half i s n)
theorem cI_00 (L : Nat → Option (Env → Int)) (R : Nat → Nat) (half : Nat) (s : CSt) : ∀ n, (cI L R half n s).1 0 0 = s.1 0 0
  | 0 => rfl
  | n + 1 => (cJ_00 L R half n (cI L R half n s) half).trans (cI_00 L R half s n)
theorem comp_00 (L : Nat → Option (Env → Int)) (A : AS) : (cpC L A).1 0 0 = A 0 0 := by
  unfold cpC
  rw [cI_00]
  exact shR_1 _ _ (by omega)
theorem aDr_00 (A : AS) : aDr A 0 0 = A 0 0 := aDr_o A (by omega)
theorem dyB_00 (L : Nat → Option (Env → Int)) (A : AS) : dyB L A 0 0 = A 0 0 := by
  unfold dyB
  by_cases h : xA A % 8 ≤ 3
  · rw [if_pos h]
    unfold dvA
    by_cases h2 : aRoom (aDr (aDr A)) = true
    · rw [if_pos h2, give_00, aDr_00, aDr_00]
    · rw [if_neg h2, aDr_00, aDr_00]
  · rw [if_neg h]
    by_cases h2 : xA A % 8 ≤ 6
    · rw [if_pos h2]
      unfold dfA
      by_cases h3 : totN (aDr A) = 0
      · rw [if_pos h3, aDr_00]
      · rw [if_neg h3]
        by_cases h4 : dfB A = true
        · rw [if_pos h4, free_00, aDr_00, aDr_00]
        · rw [if_neg h4, aDr_00, aDr_00]
    · rw [if_neg h2, comp_00, aDr_00]
theorem dyB_Inv (L : Nat → Option (Env → Int)) {A : AS} (I : Inv A) : Inv (dyB L A) := by
  have I1 := aDr_Inv I
  have I2 := aDr_Inv I1
  unfold dyB
  by_cases h : xA A % 8 ≤ 3
  · rw [if_pos h]
    unfold dvA
    by_cases h2 : aRoom (aDr (aDr A)) = true
    · rw [if_pos h2]; exact give_Inv I2 h2 ⟨_, Nat.mod_lt _ (by decide), rfl⟩
    · rw [if_neg h2]; exact I2
  · rw [if_neg h]
    by_cases h2 : xA A % 8 ≤ 6
    · rw [if_pos h2]
      unfold dfA
      by_cases h3 : totN (aDr A) = 0
      · rw [if_pos h3]; exact I1
      · rw [if_neg h3]
        by_cases h4 : dfB A = true
        · rw [if_pos h4]
          unfold dfB at h4
          rw [if_neg h3] at h4
          obtain ⟨q, f, hq, eq, hf, ef, hg⟩ := reach_facts I2 h4
          have et : totN (aDr A) = totN (aDr (aDr A)) := by unfold totN; rw [aDr_k (aDr A) (by decide)]
          have hlt : xA (aDr A) % totN (aDr A) < totN (aDr (aDr A)) := by rw [← et]; exact Nat.mod_lt _ (by omega)
          have hn := nth_lt I2 hlt
          have e : dfQ A = q := (nI_eq (by unfold dfQ; omega) (by omega)).mp eq
          rw [e]
          exact free_Inv I2 hq hf ef hg
        · rw [if_neg h4]; exact I2
    · rw [if_neg h2]; exact comp_Inv L I1
theorem dup_Inv {A : AS} (I : Inv A) {dd : Nat} (e : A 0 0 = nI dd) (h : dd < 9999) : Inv (up A 0 0 (A 0 0 + 1)) := by
  obtain ⟨i1, i2, i3, i4, i5, i6, -, i8, i9, i10⟩ := I
  have k : ∀ a, ¬ a = 0 → up A 0 0 (A 0 0 + 1) a = A a := fun a ha => up_k ha
  have k0 : ∀ j, ¬ j = 0 → up A 0 0 (A 0 0 + 1) 0 j = A 0 j := fun j hj => up_n (fun z => hj z.2)
  exact ⟨by rw [k 1 (by decide)]; exact i1, by rw [k 2 (by decide)]; exact i2, by rw [k 1 (by decide), k 2 (by decide)]; exact i3, by rw [k 1 (by decide), k 2 (by decide)]; exact i4, by unfold GSOK; rw [k0 3 (by decide), k0 4 (by decide), k0 5 (by decide), k 1 (by decide), k 2 (by decide)]; exact i5, by unfold XOK; rw [k0 1 (by decide)]; exact i6, ⟨dd + 1, by omega, by rw [up_s, e, nI_1]⟩, by unfold VcOK; rw [k 1 (by decide), k 3 (by decide)]; exact i8, by unfold VlOK; rw [k 4 (by decide)]; exact i9, LnOK_c (k0 6 (by decide)) i10⟩
theorem day_Inv (L : Nat → Option (Env → Int)) {A : AS} (I : Inv A) {dd : Nat} (e : A 0 0 = nI dd) (h : dd < 9999) : Inv (dayA L A) := dup_Inv (dyB_Inv L I) ((dyB_00 L A).trans e) h
theorem day_00 (L : Nat → Option (Env → Int)) {A : AS} {dd : Nat} (e : A 0 0 = nI dd) : dayA L A 0 0 = nI (dd + 1) := by
  unfold dayA
  rw [up_s, dyB_00, e, nI_1]
/-- the class's day -/
theorem dfree_c {S : Mem} {t : Nat} {A : AS} (h : CP S t (aDr A)) (I : Inv (aDr A)) (d : Nat) : ∃ S', cal (d + 5) 43 [vR 1 t] S = some (some (vI (b2i (dfB A))), S') ∧ CP S' t (dfA A) ∧ FrC t S S' := by
  obtain ⟨ht, et, ec⟩ := tot_e I
  rw [B_X1_freeDrawn, kc_total h, bI_s, et]
  unfold dfA dfB
  by_cases z : totN (aDr A) = 0
  · rw [z, if_pos (show nI 0 = 0 from rfl), gd_p isZ_0, if_pos rfl, if_pos rfl]
    exact ⟨S, rfl, h, FrC_r⟩
  · have I2 := aDr_Inv I
    obtain ⟨S1, e1, h1, f1, -⟩ := dr_c h (iX I) (d + 4) (n := totN (aDr A)) (by omega) (by omega)
    have hlt : xA (aDr A) % totN (aDr A) < totN (aDr A) := Nat.mod_lt _ (by omega)
    have et2 : totN (aDr A) = totN (aDr (aDr A)) := by unfold totN; rw [aDr_k (aDr A) (by decide)]
    have ec2 := (tot_e I2).2.2
    have e2 : (fun j => fLive (aDr (aDr A) 2) (nI (0 + j))) = (fun q => fLive (aDr (aDr A) 2) (nI q)) := funext fun j => by rw [Nat.zero_add]
    have en := nth_c h1 (d + 4) 192 0 (xA (aDr A) % totN (aDr A)) rfl (by rw [e2, ← ec2, ← et2]; exact hlt) (vI (nI (totN (aDr A))))
    have hq := nth_lt I2 (show xA (aDr A) % totN (aDr A) < totN (aDr (aDr A)) by rw [← et2]; exact hlt)
    have en' : ev (d + 5) 43 19 [vR 1 t, vI (nI (totN (aDr A))), vI (nI (xA (aDr A) % totN (aDr A))), vI 0] [] S1 = bI (cal (d + 4) 29 [vR 1 t, vI (nI (dfQ A))] S1) (fun x4 S3 => if x4 = (-1) then gd (isZ 0) (some (some (vI 0), S3)) else gd (isZ 1) (some (some (vI 1), S3))) := en
    have hq' : dfQ A < 192 := hq
    rw [if_neg (nI_ne0 (by omega) (by omega)), e1, bI_s, en', if_neg z, if_neg z]
    by_cases hr : fReach (aDr (aDr A) 1) (aDr (aDr A) 2) (aDr (aDr A) 0 3) (nI (dfQ A)) = true
    · obtain ⟨q, f, hq2, eq, hf, ef, hg⟩ := reach_facts I2 hr
      have eqq : dfQ A = q := (nI_eq (by omega) (by omega)).mp eq
      obtain ⟨S3, e3, h3, f3⟩ := free_c h1 I2 hr hq' (d + 1)
      obtain ⟨v, hv, ev⟩ := frV_ok I2 (q := dfQ A) hf (by rw [eqq]; exact ef)
      rw [e3, bI_s, ev, if_neg (nI_m1 (by omega)), gd_p isZ_1, if_pos hr, hr]
      exact ⟨S3, rfl, h3, FrC_t f1 f3⟩
    · rw [B_X1_freeAt, kc_reach h1, bI_s, Bool.eq_false_iff.mpr hr, if_pos (show b2i false = 0 from rfl), bI_s, if_pos rfl, gd_p isZ_0, if_neg (by decide)]
      exact ⟨S1, rfl, h1, f1⟩
theorem day_c {S : Mem} {t τ : Nat} {A : AS} {L : Nat → Option (Env → Int)} (h : CP S t A) (I : Inv A) (hL0 : LC S τ 0 (L 0)) (hL1 : LC S τ 1 (L 1)) (hd : τ + 9 < t ∨ t + 7 ≤ τ) (d : Nat) : ∃ S', cal (d + 6) 44 [vR 1 t, vR 5 τ] S = some (some (vI (b2i (dyD A))), S') ∧ CP S' t (dayA L A) ∧ FrK t τ S S' := by
  obtain ⟨S1, e1, h1, f1, -⟩ := dr_c h (iX I) (d + 5) (n := 8) (by decide) (by decide)
  have e1' : cal (d + 5) 20 [vR 1 t, vI 8] S = some (some (vI (nI (xA A % 8))), S1) := e1
  have I1 := aDr_Inv I
  have hm : xA A % 8 < 8 := Nat.mod_lt _ (by decide)
  have fin : ∀ {S2 : Mem} {B : AS}, CP S2 t B → CP (wrI S2 t 0 (rdI S2 t 0 + 1)) t (up B 0 0 (B 0 0 + 1)) := fun {S2 B} h2 => by
    rw [c0 h2 (by decide)]
    exact CP_w h2 (k := 0) (i := 0) (by decide) (by decide) _
  have fw : ∀ S2 : Mem, ∀ v, FrK t τ S2 (wrI S2 t 0 v) := fun S2 v => FrK_C τ (FrC_w (by omega) (by omega))
  rw [B_X1_passDay, e1', bI_s]
  unfold dayA dyB dyD
  by_cases z3 : xA A % 8 ≤ 3
  · have n3 : ¬ (3 : Int32) < nI (xA A % 8) := nI_nlt (a := 3) z3 (by decide)
    obtain ⟨S2, e2, h2, f2, -⟩ := dr_c h1 (iX I1) (d + 5) (n := 1000) (by decide) (by decide)
    have e2' : cal (d + 5) 20 [vR 1 t, vI 1000] S1 = some (some (vI (nI (xA (aDr A) % 1000))), S2) := e2
    have I2 := aDr_Inv I1
    rw [if_neg n3, e2', bI_s, if_pos z3, if_pos z3]
    unfold dvA
    cases hr : aRoom (aDr (aDr A))
    · rw [give_c0 h2 hr _ (d + 1), bI_s, if_pos rfl, gd_p isZ_0, if_neg (by decide)]
      exact ⟨_, rfl, fin h2, FrK_t (FrK_C τ (FrC_t f1 f2)) (fw _ _)⟩
    · obtain ⟨S3, e3, h3, f3⟩ := give_c h2 I2 hr (nI (xA (aDr A) % 1000)) (d + 1)
      obtain ⟨g1, -, -, -, g5, -⟩ := gv_facts I2 hr
      rw [e3, bI_s, if_neg (nI_m1 (by omega)), gd_p isZ_1, if_pos rfl]
      exact ⟨_, rfl, fin h3, FrK_t (FrK_C τ (FrC_t (FrC_t f1 f2) f3)) (fw _ _)⟩
  · have n3 : (3 : Int32) < nI (xA A % 8) := nI_lt (a := 3) (by omega) (by omega)
    rw [if_pos n3, if_neg z3, if_neg z3]
    by_cases z6 : xA A % 8 ≤ 6
    · have n6 : ¬ (6 : Int32) < nI (xA A % 8) := nI_nlt (a := 6) z6 (by decide)
      obtain ⟨S3, e3, h3, f3⟩ := dfree_c h1 I1 d
      rw [if_neg n6, e3, bI_s, gd_p (isZ_b _), if_pos z6, if_pos z6]
      exact ⟨_, rfl, fin h3, FrK_t (FrK_C τ (FrC_t f1 f3)) (fw _ _)⟩
    · have n6 : (6 : Int32) < nI (xA A % 8) := nI_lt (a := 6) (by omega) (by omega)
      have k1 := FrK_C τ f1
      obtain ⟨S3, e3, h3, f3⟩ := comp_c (L := L) h1 I1 (LC_K hL0 hd k1) (LC_K hL1 hd k1) hd d
      rw [if_pos n6, e3, bI_s, gd_p isZ_1, if_neg z6, if_neg z6]
      exact ⟨_, rfl, fin h3, FrK_t (FrK_t k1 f3) (fw _ _)⟩
/-- the reference's day -/
def FrD (r : Nat) (S S' : Mem) : Prop := (∀ c i, ¬ (c = r ∧ i = 25) → ¬ c = r + 6 → ¬ (c = r + 1 ∧ 4 ≤ i ∧ i < 444) → ¬ c = r + 8 → ¬ c = r + 9 → ¬ c = r + 10 → rdI S' c i = rdI S c i) ∧ S'.2.2 = S.2.2
theorem FrD_r {r : Nat} {S : Mem} : FrD r S S := ⟨fun _ _ _ _ _ _ _ _ => rfl, rfl⟩
theorem FrD_t {r : Nat} {S S1 S2 : Mem} (h : FrD r S S1) (h2 : FrD r S1 S2) : FrD r S S2 := ⟨fun c i a0 a1 a2 a3 a4 a5 => (h2.1 c i a0 a1 a2 a3 a4 a5).trans (h.1 c i a0 a1 a2 a3 a4 a5), h2.2.trans h.2⟩
theorem FrD_N {r : Nat} {S S' : Mem} (h : FrN r S S') : FrD r S S' := ⟨fun c i _ a1 a2 a3 a4 a5 => h.1 c i a1 a2 a3 a4 a5, h.2⟩
theorem FrD_w (r : Nat) (v : Int32) (S : Mem) : FrD r S (wrI S r 25 v) := ⟨fun c j h0 _ _ _ _ _ => by rw [rdI_wrI, if_neg (fun z => h0 z)], rfl⟩
theorem RM_D {S S' : Mem} {r l : Nat} {x : Int32} {o : Option (Env → Int)} (h : RM S r x l o) (f : FrD r S S') : RM S' r x l o := by
  have e : rdI S' (r + 3) = rdI S (r + 3) := funext fun i => f.1 (r + 3) i (by omega) (by omega) (by omega) (by omega) (by omega) (by omega)
  rcases h with h | ⟨T, ex, hT, n, hn, en, hc⟩
  · exact Or.inl h
  · refine Or.inr ⟨T, ex, hT, n, hn, by rw [e]; exact en, ?_⟩
    unfold ClM AtR at hc ⊢
    rw [e]; exact hc
theorem tx_D {S S' : Mem} {r : Nat} (f : FrD r S S') : rdI S' (r + 1) 1 = rdI S (r + 1) 1 := f.1 (r + 1) 1 (by omega) (by omega) (by omega) (by omega) (by omega) (by omega)
theorem th_N {S S' : Mem} {r : Nat} (f : FrN r S S') : rdI S' r 25 = rdI S r 25 := f.1 r 25 (by omega) (by omega) (by omega) (by omega) (by omega)
theorem canCh_m {S : Mem} {r : Nat} {A : AS} (h : RP S (r + 1) 4 A) (I : Inv A) (d : Nat) (a : Int32) : cal (d + 4) 238 [vR 8 r, vI a] S = some (some (vI (b2i (fReach (A 1) (A 2) (A 0 3) a))), S) := by
  rw [B_X8_canChange, km_live h I, bI_s, ite_b0]
  unfold fReach
  cases hl : fLive (A 2) a
  · rw [if_pos rfl, gd_p isZ_0]; rfl
  · have hb : inb a 192 = true := by
      unfold fLive at hl
      rw [Bool.and_eq_true] at hl
      exact hl.1
    obtain ⟨q, hq, rfl⟩ := inb_ex hb (by decide)
    rw [if_neg (by decide), gd_p nz16, div16 (by omega), km_fenced h (d + 3) (by omega), bI_s, ite_b0, Bool.true_and]
    cases fFenced (A 1) (A 0 3) (nI (q / 16))
    · rw [if_pos rfl, gd_p isZ_1]; rfl
    · rw [if_neg (by decide), gd_p isZ_0]; rfl
theorem day_m {S : Mem} {r : Nat} {A : AS} {L : Nat → Option (Env → Int)} (h : RP S (r + 1) 4 A) (I : Inv A) (hL0 : RM S r (rdI S (r + 1) 1) 0 (L 0)) (hL1 : RM S r (rdI S (r + 1) 1) 1 (L 1)) (d : Nat) : ∃ S', cal (d + 8) 254 [vR 8 r] S = some (none, S') ∧ RP S' (r + 1) 4 (dayA L A) ∧ rdI S' r 25 = (if dyD A = true then rdI S r 25 + 1 else rdI S r 25) ∧ FrD r S S' := by
  obtain ⟨S1, e1, h1, f1, -⟩ := dr_m h (iX I) (d + 6) (n := 8) (by decide) (by decide)
  have e1' : cal (d + 7) 229 [vR 8 r, vI 8] S = some (some (vI (nI (xA A % 8))), S1) := e1
  have I1 := aDr_Inv I
  have hm : xA A % 8 < 8 := Nat.mod_lt _ (by decide)
  have fin : ∀ {S2 : Mem} {B : AS}, RP S2 (r + 1) 4 B → RP (wrI S2 (r + 1) 4 (rdI S2 (r + 1) 4 + 1)) (r + 1) 4 (up B 0 0 (B 0 0 + 1)) := fun {S2 B} h2 => by
    have e : rdI S2 (r + 1) 4 = B 0 0 := m0 h2 (j := 0) (by decide)
    rw [e]
    exact RP_w h2 (k := 0) (i := 0) (by decide) (by decide) (by decide) _ (fun z => absurd z (by decide))
  have fw : ∀ S2 : Mem, ∀ v, FrN r S2 (wrI S2 (r + 1) 4 v) := fun S2 v => FrN_M (FrM_w (by omega) (by omega))
  have w25 : ∀ (S2 : Mem) (v : Int32), rdI (wrI S2 (r + 1) 4 v) r 25 = rdI S2 r 25 := fun S2 v => by rw [rdI_wrI, if_neg (by omega)]
  have r25 : ∀ (S2 : Mem) (v : Int32), rdI (wrI S2 r 25 v) r 25 = v := fun S2 v => by rw [rdI_wrI, if_pos ⟨rfl, rfl⟩]
  have o25 : ∀ {S2 : Mem} {B : AS} (v : Int32), RP S2 (r + 1) 4 B → RP (wrI S2 r 25 v) (r + 1) 4 B := fun {S2 B} v h2 => RP_o h2 (funext fun b => by rw [rdI_wrI, if_neg (by omega)])
  rw [B_X8_pass, e1', bI_s]
  unfold dayA dyB dyD
  by_cases z3 : xA A % 8 ≤ 3
  · have n3 : ¬ (4 : Int32) ≤ nI (xA A % 8) := nI_ge (b := 4) (by omega) (by decide)
    obtain ⟨S2, e2, h2, f2, -⟩ := dr_m h1 (iX I1) (d + 6) (n := 1000) (by decide) (by decide)
    have e2' : cal (d + 7) 229 [vR 8 r, vI 1000] S1 = some (some (vI (nI (xA (aDr A) % 1000))), S2) := e2
    have I2 := aDr_Inv I1
    have n2 := FrN_M (FrM_t f1 f2)
    rw [if_neg n3, e2', bI_s, km_room h2 I2, bI_s, ite_b0, if_pos z3, if_pos z3]
    unfold dvA
    cases hr : aRoom (aDr (aDr A))
    · rw [if_pos rfl, i13_4, gd_t, gd_t, x13_4, if_neg (by decide), if_neg (by decide)]
      exact ⟨_, rfl, fin h2, by rw [w25, th_N n2], FrD_N (FrN_t n2 (fw _ _))⟩
    · obtain ⟨S3, e3, h3, f3⟩ := give_m h2 I2 hr (nI (xA (aDr A) % 1000)) (d + 4)
      have n3' := FrN_t n2 (FrN_M f3)
      rw [if_neg (by decide), e3, bI_s, i13_4, gd_t, gd_t, x13_4, if_pos rfl, if_pos rfl]
      exact ⟨_, rfl, fin (o25 _ h3), by rw [w25, r25, th_N n3'], FrD_t (FrD_t (FrD_N n3') (FrD_w r _ _)) (FrD_N (fw _ _))⟩
  · have n3 : (4 : Int32) ≤ nI (xA A % 8) := nI_le (a := 4) (by omega) (by omega)
    rw [if_pos n3, if_neg z3, if_neg z3]
    have n1 := FrN_M f1
    by_cases z6 : xA A % 8 ≤ 6
    · have n7 : ¬ nI (xA A % 8) = 7 := fun z => by have := (nI_eq (b := 7) (by omega) (by decide)).mp z; omega
      obtain ⟨ht, et, ec⟩ := tot_e I1
      rw [if_neg n7, km_total h1 I1, bI_s, et, if_pos z6, if_pos z6]
      unfold dfA dfB
      by_cases z : totN (aDr A) = 0
      · rw [if_pos (show nI (totN (aDr A)) ≤ 0 by rw [z]; decide), i13_4, gd_t, gd_t, x13_4, if_pos z, if_pos z, if_neg (by decide)]
        exact ⟨_, rfl, fin h1, by rw [w25, th_N n1], FrD_N (FrN_t n1 (fw _ _))⟩
      · have I2 := aDr_Inv I1
        obtain ⟨S2, e2, h2, f2, -⟩ := dr_m h1 (iX I1) (d + 6) (n := totN (aDr A)) (by omega) (by omega)
        have hlt : xA (aDr A) % totN (aDr A) < totN (aDr A) := Nat.mod_lt _ (by omega)
        have et2 : totN (aDr A) = totN (aDr (aDr A)) := by unfold totN; rw [aDr_k (aDr A) (by decide)]
        have ec2 := (tot_e I2).2.2
        have e20 : (fun j => fLive (aDr (aDr A) 2) (nI (0 + j))) = (fun q => fLive (aDr (aDr A) 2) (nI q)) := funext fun j => by rw [Nat.zero_add]
        have en := nth_m h2 I2 (d + 3) 192 0 (xA (aDr A) % totN (aDr A)) 0 rfl (by rw [e20, ← ec2, ← et2]; exact hlt) (by decide)
        rw [Nat.zero_add] at en
        have en' : cal (d + 7) 253 [vR 8 r, vI (nI (xA (aDr A) % totN (aDr A)))] S2 = some (some (vI (nI (dfQ A))), S2) := by
          rw [B_X8_liveBy]; exact en
        have hq := nth_lt I2 (show xA (aDr A) % totN (aDr A) < totN (aDr (aDr A)) by rw [← et2]; exact hlt)
        have hq' : dfQ A < 192 := hq
        have n2 := FrN_M (FrM_t f1 f2)
        rw [if_neg (nI_nle (by omega) (by omega)), km_total h1 I1, bI_s, et, e2, bI_s, en', bI_s, canCh_m h2 I2 (d + 3), bI_s, ite_b0, if_neg z, if_neg z]
        cases hr : fReach (aDr (aDr A) 1) (aDr (aDr A) 2) (aDr (aDr A) 0 3) (nI (dfQ A))
        · rw [if_pos rfl, i13_4, gd_t, gd_t, x13_4, if_neg (by decide), if_neg (by decide)]
          exact ⟨_, rfl, fin h2, by rw [w25, th_N n2], FrD_N (FrN_t n2 (fw _ _))⟩
        · obtain ⟨S3, e3, h3, f3⟩ := free_m h2 I2 hr hq' (d + 6)
          have n3' := FrN_t n2 (FrN_M f3)
          rw [if_neg (by decide), e3, bI_s, i13_4, gd_t, gd_t, x13_4, if_pos rfl, if_pos rfl]
          exact ⟨_, rfl, fin (o25 _ h3), by rw [w25, r25, th_N n3'], FrD_t (FrD_t (FrD_N n3') (FrD_w r _ _)) (FrD_N (fw _ _))⟩
    · have n7 : nI (xA A % 8) = 7 := by rw [show xA A % 8 = 7 by omega]; rfl
      obtain ⟨S3, e3, h3, f3⟩ := comp_m (L := L) h1 I1 (by rw [tx_N n1]; exact RM_N hL0 n1) (by rw [tx_N n1]; exact RM_N hL1 n1) d
      have n3' := FrN_t n1 f3
      rw [if_pos n7, e3, bI_s, i13_4, gd_t, gd_t, x13_4, if_neg z6, if_neg z6, if_pos rfl]
      exact ⟨_, rfl, fin (o25 _ h3), by rw [w25, r25, th_N n3'], FrD_t (FrD_t (FrD_N n3') (FrD_w r _ _)) (FrD_N (fw _ _))⟩
