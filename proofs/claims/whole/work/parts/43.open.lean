/-! a page opened -/
def xA (A : AS) : Nat := ix (A 0 1)
def aDr (A : AS) : AS := up A 0 1 (nI (nNext (xA A)))
theorem xA_e {A : AS} (h : XOK A) : xA A < 31123 ∧ A 0 1 = nI (xA A) := by
  obtain ⟨k, hk, e⟩ := h
  unfold xA
  rw [e, ix_nI (by omega)]
  exact ⟨hk, rfl⟩
theorem aDr_X (A : AS) : XOK (aDr A) := ⟨nNext (xA A), nNext_lt _, up_s _ _ _ _⟩
theorem aDr_o (A : AS) {a b : Nat} (h : ¬ (a = 0 ∧ b = 1)) : aDr A a b = A a b := up_n h
theorem aDr_k (A : AS) {a : Nat} (h : ¬ a = 0) : aDr A a = A a := up_k h
theorem dr_c {S : Mem} {t : Nat} {A : AS} (h : CP S t A) (hX : XOK A) (d : Nat) {n : Nat} (h0 : 0 < n) (hn : n < 2 ^ 31) : ∃ S', cal d 20 [vR 1 t, vI (nI n)] S = some (some (vI (nI (xA A % n))), S') ∧ CP S' t (aDr A) ∧ FrC t S S' ∧ (∀ c, ¬ c = t → rdI S' c = rdI S c) := by
  obtain ⟨hk, e⟩ := xA_e hX
  refine ⟨_, sp_draw d t n (xA A) h0 hn S hk ((c0 h (by decide)).trans e), CP_w h (k := 0) (by decide) (by decide) _, FrC_w (by omega) (by omega), fun c hc => funext fun b => ?_⟩
  rw [rdI_wrI, if_neg (fun z => hc z.1)]
def RQ (S : Mem) (c o : Nat) (Q : Nat → Nat → Prop) (A : AS) : Prop := (∀ k i, k ≤ 5 → ¬ k = 3 → i < ln k → rdI S c (o + (off k + i)) = A k i) ∧ (∀ p i, p < 12 → Q p i → i < 16 → rdI S c (o + (31 + (p * 16 + i))) = A 3 (p * 16 + i))
theorem RQ_of {S : Mem} {c o : Nat} {A : AS} (h : RP S c o A) : RQ S c o (fun p _ => ¬ A 1 p = -1) A := ⟨h.1, fun p i hp ho hi => h.2 p i hp ho hi⟩
theorem RQ_to {S : Mem} {c o : Nat} {Q : Nat → Nat → Prop} {A : AS} (h : RQ S c o Q A) (hq : ∀ p i, p < 12 → ¬ A 1 p = -1 → i < 16 → Q p i) : RP S c o A := ⟨h.1, fun p i hp ho hi => h.2 p i hp (hq p i hp ho hi) hi⟩
theorem RQ_mono {S : Mem} {c o : Nat} {Q Q' : Nat → Nat → Prop} {A : AS} (h : RQ S c o Q A) (hq : ∀ p i, p < 12 → i < 16 → Q' p i → Q p i) : RQ S c o Q' A := ⟨h.1, fun p i hp ho hi => h.2 p i hp (hq p i hp hi ho) hi⟩
theorem RQ_w {S : Mem} {c o : Nat} {Q : Nat → Nat → Prop} {A : AS} (h : RQ S c o Q A) {k i : Nat} (hk : k ≤ 5) (h3 : ¬ k = 3) (hi : i < ln k) (v : Int32) : RQ (wrI S c (o + (off k + i)) v) c o Q (up A k i v) := by
  refine ⟨fun k' i' hk' h3' hi' => ?_, fun p j hp ho hj => ?_⟩
  · rw [rdI_wrI]
    by_cases e : k' = k ∧ i' = i
    · rw [if_pos ⟨rfl, by rw [e.1, e.2]⟩, e.1, e.2, up_s]
    · rw [if_neg (fun z => e (off_inj hk' hk hi' hi (by omega))), up_n e]; exact h.1 k' i' hk' h3' hi'
  · rw [rdI_wrI, if_neg (fun z => h3 (off_inj (k := 3) (i := p * 16 + j) (by omega) hk (by show _ < 192; omega) hi (by show 31 + _ = _; omega)).1.symm), up_n (fun z => h3 z.1.symm)]
    exact h.2 p j hp ho hj
theorem RQ_v {S : Mem} {c o : Nat} {Q : Nat → Nat → Prop} {A : AS} (h : RQ S c o Q A) {p i : Nat} (hp : p < 12) (hi : i < 16) (v : Int32) : RQ (wrI S c (o + (31 + (p * 16 + i))) v) c o (fun p' i' => Q p' i' ∨ (p' = p ∧ i' = i)) (up A 3 (p * 16 + i) v) := by
  refine ⟨fun k' i' hk' h3' hi' => ?_, fun p' j hp' ho hj => ?_⟩
  · rw [rdI_wrI, if_neg (fun z => h3' (off_inj (k' := 3) (i' := p * 16 + i) hk' (by omega) hi' (by show _ < 192; omega) (by show _ = 31 + _; omega)).1), up_n (fun z => h3' z.1)]
    exact h.1 k' i' hk' h3' hi'
  · rw [rdI_wrI]
    by_cases e : p' = p ∧ j = i
    · rw [if_pos ⟨rfl, by rw [e.1, e.2]⟩, e.1, e.2, up_s]
    · rw [if_neg (by omega), up_n (by omega)]
      rcases ho with ho | ho
      · exact h.2 p' j hp' ho hj
      · exact absurd ho e
theorem q0 {S : Mem} {r : Nat} {Q : Nat → Nat → Prop} {A : AS} (h : RQ S (r + 1) 4 Q A) {j : Nat} (hj : j < 7) : rdI S (r + 1) (4 + j) = A 0 j := by
  have := h.1 0 j (by decide) (by decide) hj
  rw [← this]; show rdI S (r + 1) (4 + j) = rdI S (r + 1) (4 + (0 + j)); congr 1; omega
theorem q3 {S : Mem} {r : Nat} {Q : Nat → Nat → Prop} {A : AS} (h : RQ S (r + 1) 4 Q A) {p i : Nat} (hp : p < 12) (hq : Q p i) (hi : i < 16) : rdI S (r + 1) (35 + (p * 16 + i)) = A 3 (p * 16 + i) := by
  have := h.2 p i hp hq hi
  rw [← this]; congr 1; omega
theorem dr_q {S : Mem} {r : Nat} {Q : Nat → Nat → Prop} {A : AS} (h : RQ S (r + 1) 4 Q A) (hX : XOK A) (d : Nat) {n : Nat} (h0 : 0 < n) (hn : n < 2 ^ 31) : ∃ S', cal (d + 1) 229 [vR 8 r, vI (nI n)] S = some (some (vI (nI (xA A % n))), S') ∧ RQ S' (r + 1) 4 Q (aDr A) ∧ FrM r S S' ∧ (∀ c, ¬ c = r + 1 → rdI S' c = rdI S c) := by
  obtain ⟨hk, e⟩ := xA_e hX
  refine ⟨_, sp_drawnBy d r n (xA A) h0 hn S hk ((q0 h (j := 1) (by decide)).trans e), RQ_w h (k := 0) (i := 1) (by decide) (by decide) (by decide) _, FrM_w (by omega) (by omega), fun c hc => funext fun b => ?_⟩
  rw [rdI_wrI, if_neg (fun z => hc z.1)]
theorem dr_m {S : Mem} {r : Nat} {A : AS} (h : RP S (r + 1) 4 A) (hX : XOK A) (d : Nat) {n : Nat} (h0 : 0 < n) (hn : n < 2 ^ 31) : ∃ S', cal (d + 1) 229 [vR 8 r, vI (nI n)] S = some (some (vI (nI (xA A % n))), S') ∧ RP S' (r + 1) 4 (aDr A) ∧ FrM r S S' ∧ (∀ c, ¬ c = r + 1 → rdI S' c = rdI S c) := by
  obtain ⟨S', e, q, f, g⟩ := dr_q (RQ_of h) hX d h0 hn
  refine ⟨S', e, RQ_to q (fun p i hp ho hi => ?_), f, g⟩
  rw [aDr_k _ (by decide)] at ho
  exact ho
/-- one change of the shuffle; all of them -/
def shS (p k : Nat) (A : AS) : AS := up (up (aDr A) 3 (p * 16 + k) (A 3 (p * 16 + xA A % (k + 1)))) 3 (p * 16 + xA A % (k + 1)) (A 3 (p * 16 + k))
def shN (p : Nat) : Nat → AS → AS
  | 0, A => A
  | k + 1, A => shN p k (shS p (k + 1) A)
theorem shS_X (p k : Nat) (A : AS) : XOK (shS p k A) := ⟨nNext (xA A), nNext_lt _, by unfold shS; rw [up_n (by omega), up_n (by omega)]; exact up_s _ _ _ _⟩
theorem shS_o (p k : Nat) (A : AS) {a b : Nat} (h3 : ¬ a = 3) (h : ¬ (a = 0 ∧ b = 1)) : shS p k A a b = A a b := by
  unfold shS
  rw [up_n (fun z => h3 z.1), up_n (fun z => h3 z.1), aDr_o _ h]
theorem shN_o (p : Nat) {a b : Nat} (h3 : ¬ a = 3) (h : ¬ (a = 0 ∧ b = 1)) : ∀ (k : Nat) (A : AS), shN p k A a b = A a b
  | 0, _ => rfl
  | k + 1, A => (shN_o p h3 h k _).trans (shS_o p (k + 1) A h3 h)
theorem shN_X (p : Nat) : ∀ (k : Nat) {A : AS}, XOK A → XOK (shN p k A)
  | 0, _, h => h
  | k + 1, A, _ => shN_X p k (shS_X p (k + 1) A)
theorem mod_lt' (x k : Nat) : x % (k + 1) < k + 1 := Nat.mod_lt _ (Nat.succ_pos k)
theorem nlt1 {k : Nat} (h0 : 0 < k) (h : k < 2 ^ 31) : ¬ nI k < 1 := nI_nlt (b := 1) h0 h
theorem sh_c {t : Nat} (d : Nat) {p : Nat} (hp : p < 12) (f : Int32) : ∀ (k : Nat), k ≤ 15 → ∀ (u5 u6 : AV) {S : Mem} {A : AS}, CP S t A → XOK A → ∃ S' v5 v6, ev (d + 1) 27 65 [vR 1 t, vI (nI p), vI f, vI (nI (p * 16)), vI (nI k), u5, u6] [] S = ev (d + 1) 27 65 [vR 1 t, vI (nI p), vI f, vI (nI (p * 16)), vI (nI 0), v5, v6] [] S' ∧ CP S' t (shN p k A) ∧ FrC t S S' := by
  intro k
  induction k with
  | zero => intro _ u5 u6 S A h _; exact ⟨S, u5, u6, rfl, h, FrC_r⟩
  | succ k ih =>
    intro hk u5 u6 S A h hX
    obtain ⟨S1, e1, h1, f1, -⟩ := dr_c h hX d (n := k + 1 + 1) (by omega) (by omega)
    have hi := mod_lt' (xA A) (k + 1)
    generalize hI : xA A % (k + 1 + 1) = i at e1 hi
    rw [B_X1_openPage_65, if_neg (nlt1 (by omega) (by omega)), nI_1, e1, bI_s, nI_add, nI_add, inb_t (by omega) (by decide), gd_t, inb_t (by omega) (by decide), gd_t, gd_t, gd_t, pk_m1, ix_nI (by omega), ix_nI (by omega), c3 h1 _ (by omega), c3 h1 _ (by omega)]
    have h2 := CP_w (CP_w h1 (k := 3) (i := p * 16 + (k + 1)) (by decide) (by omega) (aDr A 3 (p * 16 + i))) (k := 3) (i := p * 16 + i) (by decide) (by omega) (aDr A 3 (p * 16 + (k + 1)))
    have eS : up (up (aDr A) 3 (p * 16 + (k + 1)) (aDr A 3 (p * 16 + i))) 3 (p * 16 + i) (aDr A 3 (p * 16 + (k + 1))) = shS p (k + 1) A := by
      unfold shS
      rw [hI, aDr_k A (a := 3) (by decide)]
    rw [eS] at h2
    obtain ⟨S', v5, v6, e', h', f'⟩ := ih (by omega) (vI (nI (p * 16 + i))) (vI (aDr A 3 (p * 16 + (k + 1)))) h2 (shS_X p (k + 1) A)
    exact ⟨S', v5, v6, e', h', FrC_t (FrC_t (FrC_t f1 (FrC_w (by omega) (by omega))) (FrC_w (by omega) (by omega))) f'⟩
theorem sh_q {r : Nat} (d : Nat) {p : Nat} (hp : p < 12) (f : Int32) {Q : Nat → Nat → Prop} (hQ : ∀ i, i < 16 → Q p i) : ∀ (k : Nat), k ≤ 15 → ∀ (u5 u6 : AV) {S : Mem} {A : AS}, RQ S (r + 1) 4 Q A → XOK A → ∃ S' v5 v6, ev (d + 2) 236 59 [vR 8 r, vI (nI p), vI f, vI (nI (35 + p * 16)), vI (nI k), u5, u6] [] S = ev (d + 2) 236 59 [vR 8 r, vI (nI p), vI f, vI (nI (35 + p * 16)), vI (nI 0), v5, v6] [] S' ∧ RQ S' (r + 1) 4 Q (shN p k A) ∧ FrM r S S' := by
  intro k
  induction k with
  | zero => intro _ u5 u6 S A h _; exact ⟨S, u5, u6, rfl, h, FrM_r⟩
  | succ k ih =>
    intro hk u5 u6 S A h hX
    obtain ⟨S1, e1, h1, f1, -⟩ := dr_q h hX d (n := k + 1 + 1) (by omega) (by omega)
    have hi := mod_lt' (xA A) (k + 1)
    generalize hI : xA A % (k + 1 + 1) = i at e1 hi
    have a1 : nI (35 + p * 16) + nI (k + 1) = nI (35 + (p * 16 + (k + 1))) := by rw [nI_add]; congr 1; omega
    have a2 : nI (35 + p * 16) + nI i = nI (35 + (p * 16 + i)) := by rw [nI_add]; congr 1; omega
    rw [B_X8_openNow__59, if_neg (nI_nle (by omega) (by omega)), nI_1, e1, bI_s, a1, a2, i13 (by omega), gd_t, i13 (by omega), gd_t, gd_t, gd_t, pk_m1, ix_nI (by omega), ix_nI (by omega), q3 h1 hp (hQ _ (by omega)) (by omega), q3 h1 hp (hQ _ (by omega)) (by omega)]
    have h2 := RQ_v (RQ_v h1 hp (i := k + 1) (by omega) (aDr A 3 (p * 16 + i))) hp (i := i) (by omega) (aDr A 3 (p * 16 + (k + 1)))
    have eS : up (up (aDr A) 3 (p * 16 + (k + 1)) (aDr A 3 (p * 16 + i))) 3 (p * 16 + i) (aDr A 3 (p * 16 + (k + 1))) = shS p (k + 1) A := by
      unfold shS
      rw [hI, aDr_k A (a := 3) (by decide)]
    rw [eS] at h2
    have h3 := RQ_mono (Q' := Q) h2 (fun p' i' _ _ z => Or.inl (Or.inl z))
    rw [show 4 + (31 + (p * 16 + (k + 1))) = 35 + (p * 16 + (k + 1)) by omega, show 4 + (31 + (p * 16 + i)) = 35 + (p * 16 + i) by omega] at h3
    obtain ⟨S', v5, v6, e', h', f'⟩ := ih (by omega) (vI (nI i)) (vI (aDr A 3 (p * 16 + (k + 1)))) h3 (shS_X p (k + 1) A)
    exact ⟨S', v5, v6, e', h', FrM_t (FrM_t (FrM_t f1 (FrM_w (by omega) (by omega))) (FrM_w (by omega) (by omega))) f'⟩
/-- the vector before the shuffle -/
def layN (p : Nat) : Nat → AS → AS
  | 0, A => A
  | n + 1, A => up (layN p n A) 3 (p * 16 + n) (nI n)
theorem layN_o (p : Nat) {a b : Nat} (h3 : ¬ a = 3) (A : AS) : ∀ n, layN p n A a b = A a b
  | 0 => rfl
  | n + 1 => (up_n (fun z => h3 z.1)).trans (layN_o p h3 A n)
theorem lay_c {S : Mem} {t : Nat} {A : AS} (h : CP S t A) (p : Nat) : ∀ n, CP (itN (fun i S => wrI S (t + 3) (p * 16 + i) (nI i)) n S) t (layN p n A) ∧ FrC t S (itN (fun i S => wrI S (t + 3) (p * 16 + i) (nI i)) n S)
  | 0 => ⟨h, FrC_r⟩
  | n + 1 => by
    obtain ⟨h1, f1⟩ := lay_c h p n
    exact ⟨CP_w h1 (k := 3) (by decide) (by omega) _, FrC_t f1 (FrC_w (by omega) (by omega))⟩
theorem lay_q {S : Mem} {r : Nat} {Q : Nat → Nat → Prop} {A : AS} (h : RQ S (r + 1) 4 Q A) {p : Nat} (hp : p < 12) : ∀ n, n ≤ 16 → RQ (itN (fun i S => wrI S (r + 1) (35 + (p * 16 + i)) (nI i)) n S) (r + 1) 4 (fun p' i' => Q p' i' ∨ (p' = p ∧ i' < n)) (layN p n A) ∧ FrM r S (itN (fun i S => wrI S (r + 1) (35 + (p * 16 + i)) (nI i)) n S)
  | 0, _ => ⟨RQ_mono h (fun p' i' _ _ z => z.elim id (fun y => absurd y.2 (Nat.not_lt_zero _))), FrM_r⟩
  | n + 1, hn => by
    obtain ⟨h1, f1⟩ := lay_q h hp n (by omega)
    have h2 := RQ_mono (Q' := fun p' i' => Q p' i' ∨ (p' = p ∧ i' < n + 1)) (RQ_v h1 hp (i := n) (by omega) (nI n)) (fun p' i' _ _ z => by
      rcases z with z | ⟨z1, z2⟩
      · exact Or.inl (Or.inl z)
      · rcases Nat.lt_or_ge i' n with y | y
        · exact Or.inl (Or.inr ⟨z1, y⟩)
        · exact Or.inr ⟨z1, by omega⟩)
    rw [show 4 + (31 + (p * 16 + n)) = 35 + (p * 16 + n) by omega] at h2
    exact ⟨h2, FrM_t f1 (FrM_w (by omega) (by omega))⟩
def opA (p f : Nat) (A : AS) : AS := wdA 0 p f (shN p 15 (layN p 16 (up A 1 p (nI f))))
theorem op_pre {A : AS} (p f : Nat) {a b : Nat} (h3 : ¬ a = 3) (h1 : ¬ (a = 1 ∧ b = p)) (h : ¬ (a = 0 ∧ b = 1)) : shN p 15 (layN p 16 (up A 1 p (nI f))) a b = A a b := by
  rw [shN_o p h3 h, layN_o p h3, up_n h1]
theorem DOK_c {A B : AS} (h : B 0 0 = A 0 0) (hD : DOK A) : DOK B := by
  obtain ⟨dd, hd, e⟩ := hD
  exact ⟨dd, hd, h.trans e⟩
theorem LnOK_c {A B : AS} (h : B 0 6 = A 0 6) (hD : LnOK A) : LnOK B := by
  obtain ⟨dd, hd, e⟩ := hD
  exact ⟨dd, hd, h.trans e⟩
theorem op_c {S : Mem} {t : Nat} {A : AS} (h : CP S t A) (I : Inv A) (d : Nat) {p f : Nat} (hp : fNew (A 1) = some p) (hf : fFree (A 1) = some f) : ∃ S', cal (d + 2) 27 [vR 1 t] S = some (some (vI (nI p)), S') ∧ CP S' t (opA p f A) ∧ FrC t S S' := by
  obtain ⟨-, hp12, -⟩ := ffind_some hp
  obtain ⟨-, hf12, -⟩ := ffind_some hf
  rw [Nat.zero_add] at hp12 hf12
  have w0 := CP_w h (k := 1) (i := p) (by decide) (by omega) (nI f)
  obtain ⟨w1, f1⟩ := lay_c w0 p 16
  have hX : XOK (layN p 16 (up A 1 p (nI f))) := by
    obtain ⟨k, hk, e⟩ := iX I
    exact ⟨k, hk, by rw [layN_o p (by decide), up_n (by omega)]; exact e⟩
  rw [B_X1_openPage, kc_new h, bI_s, kc_free h, bI_s, hp, hf, oI_some, oI_some, if_neg (nI_m1 (by omega)), if_neg (nI_m1 (by omega)), i12 hp12, gd_t, x12 hp12, show nI p * 16 = nI (p * 16) from pk_mul p 16, sp_lay d.succ t p hp12]
  obtain ⟨S2, v5, v6, e2, h2, f2⟩ := sh_c (t := t) d.succ hp12 (nI f) 15 (Nat.le_refl _) vU vU w1 hX
  have e2' : ev (d + 2) 27 65 [vR 1 t, vI (nI p), vI (nI f), vI (nI (p * 16)), vI 15, vU, vU] [] (layV (wrI S (t + 1) p (nI f)) (t + 3) p) = ev (d + 2) 27 65 [vR 1 t, vI (nI p), vI (nI f), vI (nI (p * 16)), vI (nI 0), v5, v6] [] S2 := e2
  obtain ⟨S3, e3, h3, f3⟩ := wd_c h2 (DOK_c (op_pre p f (by decide) (by omega) (by omega)) (iD I)) d (k := 0) (x := p) (y := f) (by decide) hp12 hf12
  have e3' : cal (d + 1) 21 [vR 1 t, vI 0, vI (nI p), vI (nI f)] S2 = some (none, S3) := e3
  refine ⟨S3, ?_, h3, FrC_t (FrC_t (FrC_t (FrC_w (by omega) (by omega)) f1) f2) f3⟩
  refine e2'.trans ?_
  rw [B_X1_openPage_65, if_pos (show nI 0 < 1 by decide), e3', bV_s]
theorem mlay (d r p : Nat) (hp : p < 12) (f : Int32) (u5 u6 : AV) (S : Mem) : ev (d + 1) 236 31 [vR 8 r, vI (nI p), vI f, vI (nI (35 + p * 16)), vI 0, u5, u6] [] S = ev (d + 1) 236 59 [vR 8 r, vI (nI p), vI f, vI (nI (35 + p * 16)), vI 15, vU, vU] [] (itN (fun i S => wrI S (r + 1) (35 + (p * 16 + i)) (nI i)) 16 S) := by
  obtain ⟨u, key⟩ := loop_itU (fun i (u : AV × AV) (S : Mem) => ev (d + 1) 236 31 [vR 8 r, vI (nI p), vI f, vI (nI (35 + p * 16)), vI (nI i), u.1, u.2] [] S) 16 (fun i S => wrI S (r + 1) (35 + (p * 16 + i)) (nI i)) (fun i u S hi => by
    refine ⟨(vU, vU), ?_⟩
    try dsimp only
    rw [B_X8_openNow__31, if_neg (n16 hi), nI_add, show 35 + p * 16 + i = 35 + (p * 16 + i) by omega, i13 (by omega), gd_t, ix_nI (by omega), nI_1]) (u5, u6) S
  refine key.trans ?_
  try dsimp only
  rw [B_X8_openNow__31, if_pos y16]
theorem op_m {S : Mem} {r : Nat} {A : AS} (h : RP S (r + 1) 4 A) (I : Inv A) (d : Nat) {p f : Nat} (hp12 : p < 12) (hpn : A 1 p = -1) : ∃ S', cal (d + 2) 236 [vR 8 r, vI (nI p), vI (nI f)] S = some (none, S') ∧ RP S' (r + 1) 4 (opA p f A) ∧ FrM r S S' := by
  have w0 := RQ_w (RQ_of h) (k := 1) (i := p) (by decide) (by decide) (by show p < 12; exact hp12) (nI f)
  have w00 := RQ_w w0 (k := 2) (i := p) (by decide) (by decide) (by show p < 12; exact hp12) 0
  have e0 : up (up A 1 p (nI f)) 2 p 0 = up A 1 p (nI f) := by
    funext a b
    by_cases z : a = 2 ∧ b = p
    · rw [z.1, z.2, up_s, up_n (by omega), iLF I p hp12 hpn]
    · rw [up_n z]
  rw [e0, show 4 + (off 1 + p) = 11 + p by show 4 + (7 + p) = _; omega, show 4 + (off 2 + p) = 23 + p by show 4 + (19 + p) = _; omega] at w00
  obtain ⟨w1, f1⟩ := lay_q w00 hp12 16 (Nat.le_refl _)
  have hX : XOK (layN p 16 (up A 1 p (nI f))) := by
    obtain ⟨k, hk, e⟩ := iX I
    exact ⟨k, hk, by rw [layN_o p (by decide), up_n (by omega)]; exact e⟩
  obtain ⟨S2, v5, v6, e2, h2, f2⟩ := sh_q (r := r) d hp12 (nI f) (fun i hi => Or.inr ⟨rfl, hi⟩) 15 (Nat.le_refl _) vU vU w1 hX
  have h2' : RP S2 (r + 1) 4 (shN p 15 (layN p 16 (up A 1 p (nI f)))) := RQ_to h2 (fun p' i' hp' ho hi' => by
    by_cases z : p' = p
    · exact Or.inr ⟨z, hi'⟩
    · refine Or.inl ?_
      rw [op_pre p f (by decide) (by omega) (by omega)] at ho
      exact ho)
  obtain ⟨S3, e3, h3, f3⟩ := wd_m h2' (DOK_c (op_pre p f (by decide) (by omega) (by omega)) (iD I)) (LnOK_c (op_pre p f (by decide) (by omega) (by omega)) (iN I)) (d + 1) 0 p f
  have e3' : cal (d + 1) 228 [vR 8 r, vI 0, vI (nI p), vI (nI f)] S2 = some (none, S3) := e3
  have e35 : (35 : Int32) + 16 * nI p = nI (35 + p * 16) := by
    show nI 35 + nI 16 * nI p = _
    rw [pk_mul, nI_add]; congr 1; omega
  refine ⟨S3, ?_, h3, FrM_t (FrM_t (FrM_t (FrM_t (FrM_w (by omega) (by omega)) (FrM_w (by omega) (by omega))) f1) f2) f3⟩
  rw [B_X8_openNow_, a11, a23, i13 (by omega), gd_t, i13 (by omega), gd_t, e35, ix_nI (by omega), ix_nI (by omega)]
  refine (mlay d.succ r p hp12 (nI f) vU vU _).trans ?_
  have e2' : ev (d + 2) 236 59 [vR 8 r, vI (nI p), vI (nI f), vI (nI (35 + p * 16)), vI 15, vU, vU] [] (itN (fun i S => wrI S (r + 1) (35 + (p * 16 + i)) (nI i)) 16 (wrI (wrI S (r + 1) (11 + p) (nI f)) (r + 1) (23 + p) 0)) = ev (d + 2) 236 59 [vR 8 r, vI (nI p), vI (nI f), vI (nI (35 + p * 16)), vI (nI 0), v5, v6] [] S2 := e2
  refine e2'.trans ?_
  rw [B_X8_openNow__59, if_pos (show nI 0 ≤ 0 by decide), e3', bV_s]
