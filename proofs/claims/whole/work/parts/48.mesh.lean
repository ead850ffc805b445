/-! frames joined, slots copied -/
def jnN (n : Nat) (go st : Nat) (A : AS) : AS := fun a b => if a = 1 ∧ b < n ∧ A 1 b = nI go then nI st else A a b
def jnB (go st : Nat) (A : AS) : AS := up (jnN 12 go st A) 0 2 (A 0 2 + 1)
def joinA (go st : Nat) (A : AS) : AS := wdA 2 st go (jnB go st A)
theorem jnN_1 (n go st : Nat) (A : AS) (p : Nat) : jnN n go st A 1 p = if p < n ∧ A 1 p = nI go then nI st else A 1 p := by
  unfold jnN
  by_cases h : p < n ∧ A 1 p = nI go
  · rw [if_pos ⟨rfl, h⟩, if_pos h]
  · rw [if_neg (fun z => h z.2), if_neg h]
theorem jnN_k (n go st : Nat) (A : AS) {a : Nat} (h : ¬ a = 1) : jnN n go st A a = A a := funext fun _ => if_neg (fun z => h z.1)
theorem jnN_s (n go st : Nat) (A : AS) (h : A 1 n = nI go) : jnN (n + 1) go st A = up (jnN n go st A) 1 n (nI st) := by
  funext a b
  unfold up
  by_cases e : a = 1 ∧ b = n
  · rw [if_pos e, e.1, e.2, jnN_1, if_pos ⟨Nat.lt_succ_self n, h⟩]
  · rw [if_neg e]
    unfold jnN
    by_cases e2 : a = 1 ∧ b < n ∧ A 1 b = nI go
    · rw [if_pos e2, if_pos ⟨e2.1, by omega, e2.2.2⟩]
    · rw [if_neg e2, if_neg (fun z => e2 ⟨z.1, by omega, z.2.2⟩)]
theorem jnN_f (n go st : Nat) (A : AS) (h : ¬ A 1 n = nI go) : jnN (n + 1) go st A = jnN n go st A := by
  funext a b
  unfold jnN
  by_cases e2 : a = 1 ∧ b < n ∧ A 1 b = nI go
  · rw [if_pos e2, if_pos ⟨e2.1, by omega, e2.2.2⟩]
  · rw [if_neg e2, if_neg (fun z => e2 ⟨z.1, by
      rcases Nat.lt_or_ge b n with y | y
      · exact y
      · exact absurd (by rw [← show b = n by omega]; exact z.2.2) h, z.2.2⟩)]
theorem jn_c {S : Mem} {t : Nat} {A : AS} (h : CP S t A) (d go st : Nat) : ∀ n, n ≤ 12 → ∃ S', ev (d + 1) 35 2 [vR 1 t, vI (nI go), vI (nI st), vI 0] [] S = ev (d + 1) 35 2 [vR 1 t, vI (nI go), vI (nI st), vI (nI n)] [] S' ∧ CP S' t (jnN n go st A) ∧ FrC t S S'
  | 0, _ => ⟨S, rfl, by
      have e : jnN 0 go st A = A := by funext a b; unfold jnN; rw [if_neg (by omega)]
      rw [e]; exact h, FrC_r⟩
  | n + 1, hn => by
    obtain ⟨S1, e1, h1, f1⟩ := jn_c h d go st n (by omega)
    have ea : jnN n go st A 1 n = A 1 n := by rw [jnN_1, if_neg (by omega)]
    rw [e1, B_X1_joinFrames_2, if_neg (n12 (by omega)), i12 (by omega), gd_t, x12 (by omega), c1 h1 n (by omega), ea, gd_t, nI_1]
    by_cases z : A 1 n = nI go
    · rw [if_pos z, jnN_s n go st A z]
      exact ⟨_, rfl, CP_w h1 (k := 1) (by decide) (by omega) _, FrC_t f1 (FrC_w (by omega) (by omega))⟩
    · rw [if_neg z, jnN_f n go st A z]
      exact ⟨S1, rfl, h1, f1⟩
theorem jn_m {S : Mem} {r : Nat} {A : AS} (h : RP S (r + 1) 4 A) (d : Nat) {go : Nat} (hgo : go < 12) (st : Nat) : ∀ n, n ≤ 12 → ∃ S', ev (d + 1) 243 2 [vR 8 r, vI (nI go), vI (nI st), vI 0] [] S = ev (d + 1) 243 2 [vR 8 r, vI (nI go), vI (nI st), vI (nI n)] [] S' ∧ RP S' (r + 1) 4 (jnN n go st A) ∧ FrM r S S'
  | 0, _ => ⟨S, rfl, by
      have e : jnN 0 go st A = A := by funext a b; unfold jnN; rw [if_neg (by omega)]
      rw [e]; exact h, FrM_r⟩
  | n + 1, hn => by
    obtain ⟨S1, e1, h1, f1⟩ := jn_m h d hgo st n (by omega)
    have ea : jnN n go st A 1 n = A 1 n := by rw [jnN_1, if_neg (by omega)]
    have e11 : rdI S1 (r + 1) (11 + n) = A 1 n := (m1 h1 n (by omega)).trans ea
    rw [e1, B_X8_joinFrames_2, if_neg (n12 (by omega)), a11, i13 (by omega), gd_t, ix_nI (by omega), e11, gd_t, nI_1]
    by_cases z : A 1 n = nI go
    · rw [if_pos z, jnN_s n go st A z]
      have w := RP_w h1 (k := 1) (i := n) (by decide) (by decide) (by show n < 12; omega) (nI st) (fun _ _ => by rw [ea, z]; exact nI_m1 (by omega))
      rw [show 4 + (off 1 + n) = 11 + n by show 4 + (7 + n) = _; omega] at w
      exact ⟨_, rfl, w, FrM_t f1 (FrM_w (by omega) (by omega))⟩
    · rw [if_neg z, jnN_f n go st A z]
      exact ⟨S1, rfl, h1, f1⟩
theorem jnB_DOK {go st : Nat} {A : AS} (h : DOK A) : DOK (jnB go st A) := DOK_c (by unfold jnB; rw [up_n (by omega), jnN_k _ _ _ _ (by decide)]) h
theorem jnB_LnOK {go st : Nat} {A : AS} (h : LnOK A) : LnOK (jnB go st A) := LnOK_c (by unfold jnB; rw [up_n (by omega), jnN_k _ _ _ _ (by decide)]) h
theorem join_c {S : Mem} {t : Nat} {A : AS} (h : CP S t A) (hD : DOK A) (d : Nat) {go st : Nat} (hgo : go < 12) (hst : st < 12) : ∃ S', cal (d + 2) 35 [vR 1 t, vI (nI go), vI (nI st)] S = some (none, S') ∧ CP S' t (joinA go st A) ∧ FrC t S S' := by
  obtain ⟨S1, e1, h1, f1⟩ := jn_c h (d + 1) go st 12 (Nat.le_refl _)
  have e2 : rdI S1 t 2 = A 0 2 := (c0 h1 (by decide)).trans (by rw [jnN_k _ _ _ _ (by decide)])
  have h2 : CP (wrI S1 t 2 (A 0 2 + 1)) t (jnB go st A) := CP_w h1 (k := 0) (i := 2) (by decide) (by decide) _
  obtain ⟨S3, e3, h3, f3⟩ := wd_c h2 (jnB_DOK hD) d (k := 2) (x := st) (y := go) (by decide) hst hgo
  have e3' : cal (d + 1) 21 [vR 1 t, vI 2, vI (nI st), vI (nI go)] (wrI S1 t 2 (A 0 2 + 1)) = some (none, S3) := e3
  rw [B_X1_joinFrames, e1, B_X1_joinFrames_2, if_pos y12, e2, e3', bV_s]
  exact ⟨S3, rfl, h3, FrC_t (FrC_t f1 (FrC_w (by omega) (by omega))) f3⟩
theorem join_m {S : Mem} {r : Nat} {A : AS} (h : RP S (r + 1) 4 A) (hD : DOK A) (hN : LnOK A) (d : Nat) {go : Nat} (hgo : go < 12) (st : Nat) : ∃ S', cal (d + 1) 243 [vR 8 r, vI (nI go), vI (nI st)] S = some (none, S') ∧ RP S' (r + 1) 4 (joinA go st A) ∧ FrM r S S' := by
  obtain ⟨S1, e1, h1, f1⟩ := jn_m h d hgo st 12 (Nat.le_refl _)
  have e2 : rdI S1 (r + 1) 6 = A 0 2 := (m0 h1 (j := 2) (by decide)).trans (by rw [jnN_k _ _ _ _ (by decide)])
  have h2 : RP (wrI S1 (r + 1) 6 (A 0 2 + 1)) (r + 1) 4 (jnB go st A) := RP_w h1 (k := 0) (i := 2) (by decide) (by decide) (by decide) _ (fun z => absurd z (by decide))
  obtain ⟨S3, e3, h3, f3⟩ := wd_m h2 (jnB_DOK hD) (jnB_LnOK hN) d 2 st go
  have e3' : cal d 228 [vR 8 r, vI 2, vI (nI st), vI (nI go)] (wrI S1 (r + 1) 6 (A 0 2 + 1)) = some (none, S3) := e3
  rw [B_X8_joinFrames, e1, B_X8_joinFrames_2, if_pos y12, i13_6, gd_t, gd_t, x13_6, e2, e3', bV_s]
  exact ⟨S3, rfl, h3, FrM_t (FrM_t f1 (FrM_w (by omega) (by omega))) f3⟩
/-- slots copied -/
def cpS (go st s : Nat) (A : AS) : AS := up A 4 (st * 16 + s) (A 4 (go * 16 + s))
def cpN (sl : Int32) (go st : Nat) : Nat → AS → AS
  | 0, A => A
  | n + 1, A => if shrI sl (nI n) &&& 1 = 1 then cpS go st n (cpN sl go st n A) else cpN sl go st n A
theorem cpN_k (sl : Int32) (go st : Nat) {a : Nat} (h : ¬ a = 4) (A : AS) : ∀ n, cpN sl go st n A a = A a
  | 0 => rfl
  | n + 1 => by
    unfold cpN
    by_cases z : shrI sl (nI n) &&& 1 = 1
    · rw [if_pos z]; unfold cpS; rw [up_k h]; exact cpN_k sl go st h A n
    · rw [if_neg z]; exact cpN_k sl go st h A n
theorem cp_c {S : Mem} {t : Nat} {A : AS} (h : CP S t A) (d : Nat) {go st s : Nat} (hgo : go < 12) (hst : st < 12) (hs : s < 16) : ∃ S', cal (d + 1) 34 [vR 1 t, vI (nI go), vI (nI st), vI (nI s)] S = some (none, S') ∧ CP S' t (cpS go st s A) ∧ FrC t S S' := by
  have e : ∀ x : Nat, nI x * 16 + nI s = nI (x * 16 + s) := fun x => by
    show nI x * nI 16 + nI s = _
    rw [pk_mul, nI_add]
  have pg : ∀ (x : Nat) (S : Mem), x < 12 → cal d 152 [vI (nI x)] S = some (some (vI 1), S) := fun x S hx => by
    rw [B_X7_isPage, if_neg (nI_pos (by omega)), if_neg (n12 hx), gd_p isZ_1]
  rw [B_X1_copySlot, pg go S hgo, bI_s, if_neg (by decide), pg st S hst, bI_s, if_neg (by decide), e, e, inb_t (by omega) (by decide), gd_t, inb_t (by omega) (by decide), gd_t, ix_nI (by omega), ix_nI (by omega), c4 h _ (by omega)]
  exact ⟨_, rfl, CP_w h (k := 4) (by decide) (by omega) _, FrC_w (by omega) (by omega)⟩
theorem cpl_c {t : Nat} (d : Nat) {go st : Nat} (hgo : go < 12) (hst : st < 12) (sl : Int32) {S : Mem} {A : AS} (h : CP S t A) (u1 u2 u3 : AV) : ∀ n, n ≤ 16 → ∃ S' v1 v2 v3, ev (d + 2) 33 78 [vR 1 t, u1, u2, u3, vI (nI go), vI (nI st), vI sl, vI 0] [] S = ev (d + 2) 33 78 [vR 1 t, v1, v2, v3, vI (nI go), vI (nI st), vI sl, vI (nI n)] [] S' ∧ CP S' t (cpN sl go st n A) ∧ FrC t S S'
  | 0, _ => ⟨S, u1, u2, u3, rfl, h, FrC_r⟩
  | n + 1, hn => by
    obtain ⟨S1, v1, v2, v3, e1, h1, f1⟩ := cpl_c d hgo hst sl h u1 u2 u3 n (by omega)
    rw [e1, B_X1_meshPages_78, if_neg (n16 (by omega)), nI_1]
    unfold cpN
    by_cases z : shrI sl (nI n) &&& 1 = 1
    · obtain ⟨S2, e2, h2, f2⟩ := cp_c h1 d hgo hst (s := n) (by omega)
      rw [if_pos z, if_pos z, e2, bV_s]
      exact ⟨S2, vU, vU, vU, rfl, h2, FrC_t f1 f2⟩
    · rw [if_neg z, if_neg z]
      exact ⟨S1, vU, vU, vU, rfl, h1, f1⟩
theorem cpl_m {r : Nat} (d : Nat) {go st : Nat} (hgo : go < 12) (hst : st < 12) (sl : Int32) {S : Mem} {A : AS} (h : RP S (r + 1) 4 A) : ∀ n, n ≤ 16 → ∃ S', ev (d + 1) 242 3 [vR 8 r, vI (nI go), vI (nI st), vI sl, vI 0] [] S = ev (d + 1) 242 3 [vR 8 r, vI (nI go), vI (nI st), vI sl, vI (nI n)] [] S' ∧ RP S' (r + 1) 4 (cpN sl go st n A) ∧ FrM r S S'
  | 0, _ => ⟨S, rfl, h, FrM_r⟩
  | n + 1, hn => by
    obtain ⟨S1, e1, h1, f1⟩ := cpl_m d hgo hst sl h n (by omega)
    rw [e1, B_X8_copySlots_3, if_neg (n16 (by omega)), sp_mhas, bI_s, ite_b0, nI_1]
    unfold cpN
    by_cases z : shrI sl (nI n) &&& 1 = 1
    · have ev : ((227 : Int32) + 16 * nI st) + nI n = nI (227 + (st * 16 + n)) := by
        show (nI 227 + nI 16 * nI st) + nI n = _
        rw [pk_mul, nI_add, nI_add]; congr 1; omega
      have w := RP_w h1 (k := 4) (i := st * 16 + n) (by decide) (by decide) (by show _ < 192; omega) (cpN sl go st n A 4 (go * 16 + n)) (fun z => absurd z (by decide))
      rw [show 4 + (off 4 + (st * 16 + n)) = 227 + (st * 16 + n) by show 4 + (223 + (st * 16 + n)) = _; omega] at w
      rw [decide_eq_true z, if_neg (by decide), if_pos z, km_valueAt h1 d hgo (by omega), bI_s, ev, i13 (by omega), gd_t, ix_nI (by omega)]
      exact ⟨_, rfl, w, FrM_t f1 (FrM_w (by omega) (by omega))⟩
    · rw [decide_eq_false z, if_pos rfl, if_neg z]
      exact ⟨S1, rfl, h1, f1⟩
theorem cps_m {r : Nat} (d : Nat) {go st : Nat} (hgo : go < 12) (hst : st < 12) (sl : Int32) {S : Mem} {A : AS} (h : RP S (r + 1) 4 A) : ∃ S', cal (d + 1) 242 [vR 8 r, vI (nI go), vI (nI st), vI sl] S = some (none, S') ∧ RP S' (r + 1) 4 (cpN sl go st 16 A) ∧ FrM r S S' := by
  obtain ⟨S1, e1, h1, f1⟩ := cpl_m d hgo hst sl h 16 (Nat.le_refl _)
  rw [B_X8_copySlots, e1, B_X8_copySlots_3, if_pos y16]
  exact ⟨S1, rfl, h1, f1⟩
/-! which frame goes; meshing -/
def lvA (A : AS) (f : Nat) : Int32 := fLiveIn (A 1) (A 2) (nI f)
def sec (f g : Nat) (A : AS) : Bool := decide (bitc (lvA A g) ≤ bitc (lvA A f))
def goF (f g : Nat) (A : AS) : Nat := cond (sec f g A) g f
def stF (f g : Nat) (A : AS) : Nat := cond (sec f g A) f g
def meshA (f g : Nat) (A : AS) : AS := joinA (goF f g A) (stF f g A) (cpN (lvA A (goF f g A)) (goF f g A) (stF f g A) 16 A)
theorem lvA_ok {A : AS} (I : Inv A) (f : Nat) : ∃ k, k < 65536 ∧ lvA A f = nI k := fLiveIn_ok (iL I) _
theorem km_bits (d : Nat) {x : Int32} (hx : ∃ k, k < 65536 ∧ x = nI k) (S : Mem) : cal d 161 [vI x] S = some (some (vI (bitc x)), S) := by
  obtain ⟨k, hk, rfl⟩ := hx
  rw [sp_mbitsOf d k hk, bitc_pop hk]
theorem km_lvA {S : Mem} {r : Nat} {A : AS} (h : RP S (r + 1) 4 A) (d : Nat) {f : Nat} (hf : f < 12) : cal d 166 [vR 8 r, vI (nI f)] S = some (some (vI (lvA A f)), S) := km_liveIn h d (nI_m1 (by omega))
theorem sec_c {S : Mem} {t : Nat} {A : AS} (h : CP S t A) (d : Nat) {p q f g : Nat} (hp : p < 12) (hq : q < 12) (ef : A 1 p = nI f) (eg : A 1 q = nI g) : cal (d + 1) 32 [vR 1 t, vI (nI p), vI (nI q)] S = some (some (vI (b2i (sec f g A))), S) := by
  rw [B_X1_secondGoes, i12 hq, gd_t, x12 hq, c1 h q hq, eg, kc_liveIn h, bI_s, sp_bitCount, bI_s, i12 hp, gd_t, x12 hp, c1 h p hp, ef, kc_liveIn h, bI_s, sp_bitCount, bI_s]
  unfold sec lvA
  by_cases z : bitc (fLiveIn (A 1) (A 2) (nI f)) < bitc (fLiveIn (A 1) (A 2) (nI g))
  · rw [if_pos z, gd_p isZ_0, decide_eq_false (Int32.not_le.mpr z)]; rfl
  · rw [if_neg z, gd_p isZ_1, decide_eq_true (Int32.not_lt.mp z)]; rfl
theorem stay_m {S : Mem} {r : Nat} {A : AS} (h : RP S (r + 1) 4 A) (I : Inv A) (d : Nat) {f g : Nat} (hf : f < 12) (hg : g < 12) : cal (d + 1) 241 [vR 8 r, vI (nI f), vI (nI g)] S = some (some (vI (nI (stF f g A))), S) ∧ (nI f + nI g) - nI (stF f g A) = nI (goF f g A) := by
  rw [B_X8_stayer, km_lvA h d hg, bI_s, km_bits d (lvA_ok I g), bI_s, km_lvA h d hf, bI_s, km_bits d (lvA_ok I f), bI_s]
  unfold stF goF sec
  by_cases z : bitc (lvA A f) < bitc (lvA A g)
  · rw [if_pos z, decide_eq_false (Int32.not_le.mpr z)]
    refine ⟨rfl, ?_⟩
    show (nI f + nI g) - nI g = nI f
    rw [nI_add, pk_sub (by omega)]; congr 1; omega
  · rw [if_neg z, decide_eq_true (Int32.not_lt.mp z)]
    refine ⟨rfl, ?_⟩
    show (nI f + nI g) - nI f = nI g
    rw [nI_add, pk_sub (by omega)]; congr 1; omega
theorem goF_lt {f g : Nat} (A : AS) (hf : f < 12) (hg : g < 12) : goF f g A < 12 ∧ stF f g A < 12 := by
  unfold goF stF
  cases sec f g A
  · exact ⟨hf, hg⟩
  · exact ⟨hg, hf⟩
theorem goF_cs (f g : Nat) (A : AS) : (goF f g A = f ∧ stF f g A = g) ∨ (goF f g A = g ∧ stF f g A = f) := by
  unfold goF stF
  cases sec f g A
  · exact Or.inl ⟨rfl, rfl⟩
  · exact Or.inr ⟨rfl, rfl⟩
theorem mesh_c {S : Mem} {t : Nat} {A : AS} (h : CP S t A) (I : Inv A) (d : Nat) {p q f g : Nat} (hp : p < 12) (hq : q < 12) (hf : f < 12) (hg : g < 12) (ef : A 1 p = nI f) (eg : A 1 q = nI g) : ∃ S', cal (d + 3) 33 [vR 1 t, vI (nI p), vI (nI q)] S = some (some (vI (bitc (lvA A (goF f g A)))), S') ∧ CP S' t (meshA f g A) ∧ FrC t S S' := by
  have op : fOpen (A 1) (nI p) = true := by rw [fOpen_nI hp, ef]; exact decide_eq_true (nI_m1 (by omega))
  have oq : fOpen (A 1) (nI q) = true := by rw [fOpen_nI hq, eg]; exact decide_eq_true (nI_m1 (by omega))
  obtain ⟨hgo, hst⟩ := goF_lt A hf hg
  have fin : ∃ S', ev (d + 3) 33 78 [vR 1 t, vU, vU, vU, vI (nI (goF f g A)), vI (nI (stF f g A)), vI (lvA A (goF f g A)), vI 0] [] S = some (some (vI (bitc (lvA A (goF f g A)))), S') ∧ CP S' t (meshA f g A) ∧ FrC t S S' := by
    obtain ⟨S1, v1, v2, v3, e1, h1, f1⟩ := cpl_c (d + 1) hgo hst (lvA A (goF f g A)) h vU vU vU 16 (Nat.le_refl _)
    have hD : DOK (cpN (lvA A (goF f g A)) (goF f g A) (stF f g A) 16 A) := DOK_c (by rw [cpN_k _ _ _ (by decide)]) (iD I)
    obtain ⟨S2, e2, h2, f2⟩ := join_c h1 hD d hgo hst
    rw [e1, B_X1_meshPages_78, if_pos y16, e2, bV_s, sp_bitCount, bI_s]
    exact ⟨S2, rfl, h2, FrC_t f1 f2⟩
  rw [B_X1_meshPages, kc_open h, bI_s, op, ite_b0, if_neg (by decide), kc_open h, bI_s, oq, ite_b0, if_neg (by decide), sec_c h (d + 1) hp hq ef eg, bI_s]
  cases hs : sec f g A
  · have e1 : goF f g A = f := by unfold goF; rw [hs]; rfl
    have e2 : stF f g A = g := by unfold stF; rw [hs]; rfl
    rw [e1, e2] at fin
    rw [e1, ite_b0, if_pos rfl, i12 hp, gd_t, ite_b0, if_pos rfl, i12 hq, gd_t, x12 hp, x12 hq, c1 h p hp, ef, kc_liveIn h, bI_s, c1 h q hq, eg]
    exact fin
  · have e1 : goF f g A = g := by unfold goF; rw [hs]; rfl
    have e2 : stF f g A = f := by unfold stF; rw [hs]; rfl
    rw [e1, e2] at fin
    rw [e1, ite_b0, if_neg (by decide), i12 hq, gd_t, ite_b0, if_neg (by decide), i12 hp, gd_t, x12 hp, x12 hq, c1 h q hq, eg, kc_liveIn h, bI_s, c1 h p hp, ef]
    exact fin
theorem mesh_m {S : Mem} {r : Nat} {A : AS} (h : RP S (r + 1) 4 A) (I : Inv A) (d : Nat) {f g : Nat} (hf : f < 12) (hg : g < 12) : ∃ S', cal (d + 2) 244 [vR 8 r, vI (nI f), vI (nI g)] S = some (some (vI (bitc (lvA A (goF f g A)))), S') ∧ RP S' (r + 1) 4 (meshA f g A) ∧ FrM r S S' := by
  obtain ⟨hgo, hst⟩ := goF_lt A hf hg
  obtain ⟨e0, ego⟩ := stay_m h I d hf hg
  obtain ⟨S1, e1, h1, f1⟩ := cps_m d hgo hst (lvA A (goF f g A)) h
  have hD : DOK (cpN (lvA A (goF f g A)) (goF f g A) (stF f g A) 16 A) := DOK_c (by rw [cpN_k _ _ _ (by decide)]) (iD I)
  have hN : LnOK (cpN (lvA A (goF f g A)) (goF f g A) (stF f g A) 16 A) := LnOK_c (by rw [cpN_k _ _ _ (by decide)]) (iN I)
  obtain ⟨S2, e2, h2, f2⟩ := join_m h1 hD hN d hgo (stF f g A)
  rw [B_X8_meshFrames, e0, bI_s, ego, km_lvA h (d + 1) hgo, bI_s, e1, bV_s, e2, bV_s, km_bits (d + 1) (lvA_ok I _), bI_s]
  exact ⟨S2, rfl, h2, FrM_t f1 f2⟩
