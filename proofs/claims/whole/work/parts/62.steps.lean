/-! pages copied -/
def sc (a b j : Nat) (S : Mem) : Mem := wrI S a j (rdI S b j)
def cr (a b k n : Nat) (S : Mem) : Mem := cpI S (b + k) 0 (a + k) 0 n
def cpA (a b : Nat) (S : Mem) : Mem := cr a b 5 25 (cr a b 4 192 (cr a b 3 192 (cr a b 2 12 (cr a b 1 12 (sc a b 6 (sc a b 5 (sc a b 4 (sc a b 3 (sc a b 2 (sc a b 1 (sc a b 0 S)))))))))))
theorem rdI_sc (a b j : Nat) (S : Mem) (c i : Nat) : rdI (sc a b j S) c i = if c = a ∧ i = j then rdI S b j else rdI S c i := rfl
theorem rdI_cr (a b k n : Nat) (S : Mem) (c i : Nat) : rdI (cr a b k n S) c i = if c = a + k ∧ i < n then rdI S (b + k) i else rdI S c i := by
  unfold cr
  rw [rdI_cpI]
  by_cases h : c = a + k
  · rw [if_pos h]
    by_cases h2 : i < n
    · rw [if_pos ⟨h, h2⟩, pk_cpy_in (Nat.zero_le _) (by omega), Nat.zero_add, Nat.sub_zero]; rfl
    · rw [if_neg (fun z => h2 z.2), pk_cpy_out (Or.inr (by omega)), h]; rfl
  · rw [if_neg h, if_neg (fun z => h z.1)]
theorem cpA_o {a b : Nat} (S : Mem) {c : Nat} (hc : ¬ (a ≤ c ∧ c < a + 6)) : rdI (cpA a b S) c = rdI S c := by
  funext i
  unfold cpA
  rw [rdI_cr, if_neg (by omega), rdI_cr, if_neg (by omega), rdI_cr, if_neg (by omega), rdI_cr, if_neg (by omega), rdI_cr, if_neg (by omega), rdI_sc, if_neg (by omega), rdI_sc, if_neg (by omega), rdI_sc, if_neg (by omega), rdI_sc, if_neg (by omega), rdI_sc, if_neg (by omega), rdI_sc, if_neg (by omega), rdI_sc, if_neg (by omega)]
/-- steps of the copy below the k-th -/
def cpF (a b : Nat) (S : Mem) : Mem := sc a b 6 (sc a b 5 (sc a b 4 (sc a b 3 (sc a b 2 (sc a b 1 (sc a b 0 S))))))
theorem cpF_o {a b : Nat} (S : Mem) {c i : Nat} (hc : ¬ c = a) : rdI (cpF a b S) c i = rdI S c i := by
  unfold cpF
  rw [rdI_sc, if_neg (by omega), rdI_sc, if_neg (by omega), rdI_sc, if_neg (by omega), rdI_sc, if_neg (by omega), rdI_sc, if_neg (by omega), rdI_sc, if_neg (by omega), rdI_sc, if_neg (by omega)]
theorem cpF_0 {a b : Nat} (h : ¬ a = b) (S : Mem) {i : Nat} (hi : i < 7) : rdI (cpF a b S) a i = rdI S b i := by
  have hb : ¬ b = a := fun z => h z.symm
  unfold cpF
  rcases (show i = 0 ∨ i = 1 ∨ i = 2 ∨ i = 3 ∨ i = 4 ∨ i = 5 ∨ i = 6 by omega) with rfl | rfl | rfl | rfl | rfl | rfl | rfl
  · rw [rdI_sc, if_neg (by omega), rdI_sc, if_neg (by omega), rdI_sc, if_neg (by omega), rdI_sc, if_neg (by omega), rdI_sc, if_neg (by omega), rdI_sc, if_neg (by omega), rdI_sc, if_pos ⟨rfl, rfl⟩]
  · rw [rdI_sc, if_neg (by omega), rdI_sc, if_neg (by omega), rdI_sc, if_neg (by omega), rdI_sc, if_neg (by omega), rdI_sc, if_neg (by omega), rdI_sc, if_pos ⟨rfl, rfl⟩, rdI_sc, if_neg (by omega)]
  · rw [rdI_sc, if_neg (by omega), rdI_sc, if_neg (by omega), rdI_sc, if_neg (by omega), rdI_sc, if_neg (by omega), rdI_sc, if_pos ⟨rfl, rfl⟩, rdI_sc, if_neg (by omega), rdI_sc, if_neg (by omega)]
  · rw [rdI_sc, if_neg (by omega), rdI_sc, if_neg (by omega), rdI_sc, if_neg (by omega), rdI_sc, if_pos ⟨rfl, rfl⟩, rdI_sc, if_neg (by omega), rdI_sc, if_neg (by omega), rdI_sc, if_neg (by omega)]
  · rw [rdI_sc, if_neg (by omega), rdI_sc, if_neg (by omega), rdI_sc, if_pos ⟨rfl, rfl⟩, rdI_sc, if_neg (by omega), rdI_sc, if_neg (by omega), rdI_sc, if_neg (by omega), rdI_sc, if_neg (by omega)]
  · rw [rdI_sc, if_neg (by omega), rdI_sc, if_pos ⟨rfl, rfl⟩, rdI_sc, if_neg (by omega), rdI_sc, if_neg (by omega), rdI_sc, if_neg (by omega), rdI_sc, if_neg (by omega), rdI_sc, if_neg (by omega)]
  · rw [rdI_sc, if_pos ⟨rfl, rfl⟩, rdI_sc, if_neg (by omega), rdI_sc, if_neg (by omega), rdI_sc, if_neg (by omega), rdI_sc, if_neg (by omega), rdI_sc, if_neg (by omega), rdI_sc, if_neg (by omega)]
theorem cpA_e {a b : Nat} (hd : a + 7 ≤ b ∨ b + 7 ≤ a) (S : Mem) {k i : Nat} (hk : k ≤ 5) (hi : i < ln k) : rdI (cpA a b S) (a + k) i = rdI S (b + k) i := by
  show rdI (cr a b 5 25 (cr a b 4 192 (cr a b 3 192 (cr a b 2 12 (cr a b 1 12 (cpF a b S)))))) (a + k) i = _
  rcases k5 hk with rfl | rfl | rfl | rfl | rfl | rfl
  · have hi : i < 7 := hi
    rw [rdI_cr, if_neg (by omega), rdI_cr, if_neg (by omega), rdI_cr, if_neg (by omega), rdI_cr, if_neg (by omega), rdI_cr, if_neg (by omega)]
    exact cpF_0 (by omega) S hi
  · have hi : i < 12 := hi
    rw [rdI_cr, if_neg (by omega), rdI_cr, if_neg (by omega), rdI_cr, if_neg (by omega), rdI_cr, if_neg (by omega), rdI_cr, if_pos ⟨rfl, hi⟩, cpF_o S (by omega)]
  · have hi : i < 12 := hi
    rw [rdI_cr, if_neg (by omega), rdI_cr, if_neg (by omega), rdI_cr, if_neg (by omega), rdI_cr, if_pos ⟨rfl, hi⟩, rdI_cr, if_neg (by omega), cpF_o S (by omega)]
  · have hi : i < 192 := hi
    rw [rdI_cr, if_neg (by omega), rdI_cr, if_neg (by omega), rdI_cr, if_pos ⟨rfl, hi⟩, rdI_cr, if_neg (by omega), rdI_cr, if_neg (by omega), cpF_o S (by omega)]
  · have hi : i < 192 := hi
    rw [rdI_cr, if_neg (by omega), rdI_cr, if_pos ⟨rfl, hi⟩, rdI_cr, if_neg (by omega), rdI_cr, if_neg (by omega), rdI_cr, if_neg (by omega), cpF_o S (by omega)]
  · have hi : i < 25 := hi
    rw [rdI_cr, if_pos ⟨rfl, hi⟩, rdI_cr, if_neg (by omega), rdI_cr, if_neg (by omega), rdI_cr, if_neg (by omega), rdI_cr, if_neg (by omega), cpF_o S (by omega)]
theorem copy_c {a b : Nat} (hd : a + 7 ≤ b ∨ b + 7 ≤ a) (d : Nat) (S : Mem) : cal (d + 1) 5 [vR 1 a, vR 1 b] S = some (none, cpA a b S) ∧ FrC a S (cpA a b S) ∧ ∀ A, CP S b A → CP (cpA a b S) a A := by
  refine ⟨?_, ⟨fun c hc => cpA_o S hc, rfl⟩, fun A h => ⟨fun k i hk hi => ?_, ?_⟩⟩
  · rw [B_X1_copyFrom, gd_p (show acg 0 0 12 12 12 = true by decide), gd_p (show acg 0 0 12 12 12 = true by decide), gd_p (show acg 0 0 192 192 192 = true by decide), gd_p (show acg 0 0 192 192 192 = true by decide), gd_p (show acg 0 0 25 25 25 = true by decide)]
    rfl
  · rw [cpA_e hd S (by omega) hi]; exact h.1 k i hk hi
  · obtain ⟨n, hn, e, hb⟩ := h.2
    refine ⟨n, hn, e, fun i hi => ?_⟩
    rw [cpA_e hd S (k := 5) (by decide) (by show i < 25; omega)]; exact hb i hi
/-! the reference's numbers copied -/
def mc (c o c' o' n : Nat) (S : Mem) : Mem := itN (fun j S => wrI S c' (o' + j) (rdI S c (o + j))) n S
theorem rdI_mc {c o c' o' : Nat} (S : Mem) : ∀ n, (c = c' → o + n ≤ o' ∨ o' + n ≤ o) → ∀ q i, rdI (mc c o c' o' n S) q i = if q = c' ∧ o' ≤ i ∧ i < o' + n then rdI S c (o + (i - o')) else rdI S q i
  | 0, _, q, i => by rw [if_neg (by omega)]; rfl
  | n + 1, hd, q, i => by
    have ih := rdI_mc (c := c) (o := o) (c' := c') (o' := o') S n (fun z => by have := hd z; omega)
    show rdI (wrI (mc c o c' o' n S) c' (o' + n) (rdI (mc c o c' o' n S) c (o + n))) q i = _
    have e1 : rdI (mc c o c' o' n S) c (o + n) = rdI S c (o + n) := by
      rw [ih, if_neg]
      rintro ⟨z, y⟩
      have := hd z
      omega
    rw [rdI_wrI, e1]
    by_cases e : q = c' ∧ i = o' + n
    · rw [if_pos e, if_pos (by omega), e.2, show o' + n - o' = n by omega]
    · rw [if_neg e, ih]
      by_cases e2 : q = c' ∧ o' ≤ i ∧ i < o' + n
      · rw [if_pos e2, if_pos (by omega)]
      · rw [if_neg e2, if_neg (by omega)]
theorem mc_2 (c o c' o' : Nat) (S : Mem) : ∀ n, (mc c o c' o' n S).2 = S.2
  | 0 => rfl
  | n + 1 => mc_2 c o c' o' S n
theorem wr_2 (S : Mem) (c i : Nat) (v : Int32) : (wrI S c i v).2 = S.2 := rfl
theorem mc_RP {c o c' o' : Nat} {S : Mem} (hd : c = c' → o + 440 ≤ o' ∨ o' + 440 ≤ o) {A : AS} (h : RP S c o A) : RP (mc c o c' o' 440 S) c' o' A := by
  refine ⟨fun k i hk h3 hi => ?_, fun p i hp ho hi => ?_⟩
  · have := off_lt hk hi
    rw [rdI_mc S 440 hd, if_pos ⟨rfl, by omega, by omega⟩, show o' + (off k + i) - o' = off k + i by omega]
    exact h.1 k i hk h3 hi
  · rw [rdI_mc S 440 hd, if_pos ⟨rfl, by omega, by omega⟩, show o' + (31 + (p * 16 + i)) - o' = 31 + (p * 16 + i) by omega]
    exact h.2 p i hp ho hi
theorem RP_fr {c o : Nat} {S S' : Mem} {A : AS} (h : RP S c o A) (e : ∀ i, o ≤ i → i < o + 440 → rdI S' c i = rdI S c i) : RP S' c o A := by
  refine ⟨fun k i hk h3 hi => ?_, fun p i hp ho hi => ?_⟩
  · have := off_lt hk hi
    rw [e _ (by omega) (by omega)]; exact h.1 k i hk h3 hi
  · rw [e _ (by omega) (by omega)]; exact h.2 p i hp ho hi
theorem CP_e {S S' : Mem} {t : Nat} {A : AS} (h : CP S t A) (e : ∀ c, t ≤ c → c < t + 6 → rdI S' c = rdI S c) : CP S' t A := by
  refine ⟨fun k i hk hi => ?_, ?_⟩
  · rw [e (t + k) (by omega) (by omega)]; exact h.1 k i hk hi
  · rw [e (t + 5) (by omega) (by omega)]; exact h.2
/-! the steps -/
def StC (S : Mem) (σ n : Nat) (St : Nat → AS) : Prop := ∃ f : Nat, f < 30 ∧ rdI S σ 1 = nI f ∧ rdI S σ 2 = nI n ∧ n ≤ 30 ∧ ∀ i, i < n → CP S (σ + 2 + 7 * ((f + i) % 30)) (St i)
def StM (S : Mem) (c n : Nat) (St : Nat → AS) : Prop := ∃ f : Nat, f < 30 ∧ rdI S c 468 = nI f ∧ rdI S c 2 = nI n ∧ n ≤ 30 ∧ ∀ i, i < n → RP S c (469 + 440 * ((f + i) % 30)) (St i)
def kpN (n : Nat) : Nat := if n < 30 then n + 1 else 30
def kpS (n : Nat) (St : Nat → AS) (A : AS) : Nat → AS := fun i => if i = kpN n - 1 then A else if n < 30 then St i else St (i + 1)
theorem n30 {p : Nat} (h : p < 30) : ¬ (30 : Int32) ≤ nI p := nI_ge (b := 30) h (by decide)
theorem y30 : (30 : Int32) ≤ nI 30 := by decide
theorem rem30 {p : Nat} (h : p < 2 ^ 31) : remI (nI p) 30 = nI (p % 30) := pk_rem (d := 30) h (by decide) (by decide)
theorem stepAt_c (d σ f i : Nat) (hf : f < 1000) (hi : i < 1000) {S : Mem} (e : rdI S σ 1 = nI f) : cal d 80 [vR 4 σ, vI (nI i)] S = some (some (vR 1 (σ + 2 + 7 * ((f + i) % 30))), S) := by
  have hm : (f + i) % 30 < 30 := Nat.mod_lt _ (by decide)
  rw [B_X4_stepAt, gd_p (show nz 30 = true by decide), e, nI_add, rem30 (by omega), inb_t hm (by decide), gd_t, ix_nI (by omega)]
theorem keep_c {S : Mem} {σ t n : Nat} {St : Nat → AS} {A : AS} (h : CP S t A) (hS : StC S σ n St) (hd : t + 7 ≤ σ ∨ σ + 212 ≤ t) (d : Nat) : ∃ S', cal (d + 2) 81 [vR 4 σ, vR 1 t] S = some (none, S') ∧ StC S' σ (kpN n) (kpS n St A) ∧ (∀ c, ¬ (σ ≤ c ∧ c < σ + 212) → rdI S' c = rdI S c) ∧ S'.2 = S.2 := by
  obtain ⟨f, hf, e1, e2, hn, hC⟩ := hS
  rw [B_X4_keep, e2]
  by_cases h30 : n < 30
  · have hm : (f + n) % 30 < 30 := Nat.mod_lt _ (by decide)
    have r1 : rdI (wrI S σ 2 (nI (n + 1))) σ 1 = nI f := by rw [rdI_wrI, if_neg (by omega)]; exact e1
    have r2 : rdI (wrI S σ 2 (nI (n + 1))) σ 2 = nI (n + 1) := by rw [rdI_wrI, if_pos ⟨rfl, rfl⟩]
    have h1 : CP (wrI S σ 2 (nI (n + 1))) t A := CP_e h (fun c h1 h2 => funext fun b => by rw [rdI_wrI, if_neg (by omega)])
    obtain ⟨e3, f3, k3⟩ := copy_c (a := σ + 2 + 7 * ((f + n) % 30)) (b := t) (by omega) d (wrI S σ 2 (nI (n + 1)))
    rw [if_neg (n30 h30), nI_1, r2, s1_sub (by omega), show n + 1 - 1 = n by omega, stepAt_c _ σ f n (by omega) (by omega) r1, bR_s, e3, bV_s]
    have ek : kpN n = n + 1 := if_pos h30
    refine ⟨_, rfl, ⟨f, hf, ?_, ?_, by rw [ek]; omega, fun i hi => ?_⟩, fun c hc => ?_, f3.2⟩
    · rw [f3.1 σ (by omega)]; exact r1
    · rw [f3.1 σ (by omega), ek]; exact r2
    · rw [ek] at hi
      unfold kpS
      rw [ek]
      by_cases z : i = n + 1 - 1
      · rw [if_pos z, show i = n by omega]; exact k3 A h1
      · rw [if_neg z, if_pos h30]
        have hmi : (f + i) % 30 < 30 := Nat.mod_lt _ (by decide)
        have hne : ¬ (f + i) % 30 = (f + n) % 30 := by omega
        refine CP_e (hC i (by omega)) (fun c h1 h2 => ?_)
        rw [f3.1 c (by omega)]
        exact funext fun b => by rw [rdI_wrI, if_neg (by omega)]
    · rw [f3.1 c (by omega)]
      exact funext fun b => by rw [rdI_wrI, if_neg (by omega)]
  · have hn30 : n = 30 := by omega
    subst hn30
    have hm : ((f + 1) % 30 + 29) % 30 < 30 := Nat.mod_lt _ (by decide)
    have r1 : rdI (wrI S σ 1 (nI ((f + 1) % 30))) σ 1 = nI ((f + 1) % 30) := by rw [rdI_wrI, if_pos ⟨rfl, rfl⟩]
    have r2 : rdI (wrI S σ 1 (nI ((f + 1) % 30))) σ 2 = nI 30 := by rw [rdI_wrI, if_neg (by omega)]; exact e2
    have h1 : CP (wrI S σ 1 (nI ((f + 1) % 30))) t A := CP_e h (fun c h1 h2 => funext fun b => by rw [rdI_wrI, if_neg (by omega)])
    obtain ⟨e3, f3, k3⟩ := copy_c (a := σ + 2 + 7 * (((f + 1) % 30 + 29) % 30)) (b := t) (by omega) d (wrI S σ 1 (nI ((f + 1) % 30)))
    rw [if_pos y30, gd_p (show nz 30 = true by decide), e1, nI_1, rem30 (by omega), r2, show nI 30 - 1 = nI 29 by decide, stepAt_c _ σ _ 29 (by omega) (by omega) r1, bR_s, e3, bV_s]
    refine ⟨_, rfl, ⟨(f + 1) % 30, Nat.mod_lt _ (by decide), ?_, ?_, by decide, fun i hi => ?_⟩, fun c hc => ?_, f3.2⟩
    · rw [f3.1 σ (by omega)]; exact r1
    · rw [f3.1 σ (by omega)]; exact r2
    · have hi : i < 30 := hi
      unfold kpS
      rw [show kpN 30 = 30 from rfl]
      by_cases z : i = 30 - 1
      · rw [if_pos z, show i = 29 by omega]; exact k3 A h1
      · rw [if_neg z, if_neg (by decide)]
        have hne : ¬ ((f + 1) % 30 + i) % 30 = ((f + 1) % 30 + 29) % 30 := by omega
        have heq : ((f + 1) % 30 + i) % 30 = (f + (i + 1)) % 30 := by omega
        have hmi : (f + (i + 1)) % 30 < 30 := Nat.mod_lt _ (by decide)
        rw [heq] at hne ⊢
        refine CP_e (hC (i + 1) (by omega)) (fun c h1 h2 => ?_)
        rw [f3.1 c (by omega)]
        exact funext fun b => by rw [rdI_wrI, if_neg (by omega)]
    · rw [f3.1 c (by omega)]
      exact funext fun b => by rw [rdI_wrI, if_neg (by omega)]
theorem undo_c {S : Mem} {σ t n : Nat} {St : Nat → AS} (hS : StC S σ n St) (hn0 : 0 < n) (hd : t + 7 ≤ σ ∨ σ + 212 ≤ t) (d : Nat) : ∃ S', cal (d + 2) 82 [vR 4 σ, vR 1 t] S = some (none, S') ∧ CP S' t (St (n - 1)) ∧ StC S' σ (n - 1) St ∧ (∀ c, ¬ c = σ → ¬ (t ≤ c ∧ c < t + 6) → rdI S' c = rdI S c) ∧ S'.2 = S.2 := by
  obtain ⟨f, hf, e1, e2, hn, hC⟩ := hS
  have hm : (f + (n - 1)) % 30 < 30 := Nat.mod_lt _ (by decide)
  have r1 : rdI (wrI S σ 2 (nI (n - 1))) σ 1 = nI f := by rw [rdI_wrI, if_neg (by omega)]; exact e1
  have r2 : rdI (wrI S σ 2 (nI (n - 1))) σ 2 = nI (n - 1) := by rw [rdI_wrI, if_pos ⟨rfl, rfl⟩]
  have hC' : ∀ i, i < n → CP (wrI S σ 2 (nI (n - 1))) (σ + 2 + 7 * ((f + i) % 30)) (St i) := fun i hi => CP_e (hC i hi) (fun c h1 h2 => funext fun b => by rw [rdI_wrI, if_neg (by omega)])
  obtain ⟨e3, f3, k3⟩ := copy_c (a := t) (b := σ + 2 + 7 * ((f + (n - 1)) % 30)) (by omega) d (wrI S σ 2 (nI (n - 1)))
  rw [B_X4_takeBack, e2, if_neg (nI_nle hn0 (by omega)), s1_sub hn0, r2, stepAt_c _ σ f (n - 1) (by omega) (by omega) r1, bR_s, e3, bV_s]
  refine ⟨_, rfl, k3 _ (hC' (n - 1) (by omega)), ⟨f, hf, ?_, ?_, by omega, fun i hi => ?_⟩, fun c hc ht => ?_, f3.2⟩
  · rw [f3.1 σ (by omega)]; exact r1
  · rw [f3.1 σ (by omega)]; exact r2
  · have hmi : (f + i) % 30 < 30 := Nat.mod_lt _ (by decide)
    exact CP_e (hC' i (by omega)) (fun c h1 h2 => f3.1 c (by omega))
  · rw [f3.1 c (by omega)]
    exact funext fun b => by rw [rdI_wrI, if_neg (fun z => hc z.1)]
/-- the reference's steps -/
theorem i13_2 : inb 2 13669 = true := i13 (k := 2) (by decide)
theorem i13_468 : inb 468 13669 = true := i13 (k := 468) (by decide)
theorem x13_2 : ix 2 = 2 := ix_nI (p := 2) (by decide)
theorem x13_468 : ix 468 = 468 := ix_nI (p := 468) (by decide)
theorem n440 {p : Nat} (h : p < 440) : ¬ (440 : Int32) ≤ nI p := nI_ge (b := 440) h (by decide)
theorem y440 : (440 : Int32) ≤ nI 440 := by decide
theorem stepAt_m (d f i : Nat) (hf : f < 1000) (hi : i < 1000) (S : Mem) : cal d 255 [vI (nI f), vI (nI i)] S = some (some (vI (nI (469 + 440 * ((f + i) % 30)))), S) := by
  have e : (469 : Int32) + 440 * nI ((f + i) % 30) = nI (469 + 440 * ((f + i) % 30)) := by
    show nI 469 + nI 440 * nI _ = _
    rw [pk_mul, nI_add]
  rw [B_X8_stepAt, gd_p (show nz 30 = true by decide), nI_add, rem30 (by omega), e]
theorem kl_m (d r x : Nat) (hx : x + 440 ≤ 13669) (S : Mem) : ev (d + 1) 256 62 [vR 8 r, vI (nI x), vI 0] [] S = ev (d + 1) 256 62 [vR 8 r, vI (nI x), vI (nI 440)] [] (mc (r + 1) 4 (r + 1) x 440 S) := by
  have key := loop_it (fun j (S : Mem) => ev (d + 1) 256 62 [vR 8 r, vI (nI x), vI (nI j)] [] S) 440 (fun j S => wrI S (r + 1) (x + j) (rdI S (r + 1) (4 + j))) (fun j S hj => by
    try dsimp only
    rw [B_X8_keep_62, if_neg (n440 hj), show (4 : Int32) + nI j = nI (4 + j) from nI_add 4 j, i13 (by omega), gd_t, nI_add, i13 (by omega), gd_t, nI_1, ix_nI (by omega), ix_nI (by omega)]) S
  exact key
theorem ul_m (d r x : Nat) (hx : x + 440 ≤ 13669) (S : Mem) : ev (d + 1) 257 41 [vR 8 r, vI (nI x), vI 0] [] S = ev (d + 1) 257 41 [vR 8 r, vI (nI x), vI (nI 440)] [] (mc (r + 1) x (r + 1) 4 440 S) := by
  have key := loop_it (fun j (S : Mem) => ev (d + 1) 257 41 [vR 8 r, vI (nI x), vI (nI j)] [] S) 440 (fun j S => wrI S (r + 1) (4 + j) (rdI S (r + 1) (x + j))) (fun j S hj => by
    try dsimp only
    rw [B_X8_undo_41, if_neg (n440 hj), show (4 : Int32) + nI j = nI (4 + j) from nI_add 4 j, nI_add, i13 (by omega), gd_t, i13 (by omega), gd_t, nI_1, ix_nI (by omega), ix_nI (by omega)]) S
  exact key
theorem keep_m {S : Mem} {r n : Nat} {St : Nat → AS} {A : AS} (h : RP S (r + 1) 4 A) (hS : StM S (r + 1) n St) (d : Nat) : ∃ S', cal (d + 1) 256 [vR 8 r] S = some (none, S') ∧ RP S' (r + 1) 4 A ∧ StM S' (r + 1) (kpN n) (kpS n St A) ∧ (∀ c i, ¬ (c = r + 1 ∧ (i = 2 ∨ 468 ≤ i)) → rdI S' c i = rdI S c i) ∧ S'.2 = S.2 := by
  obtain ⟨f, hf, e1, e2, hn, hC⟩ := hS
  have core : ∀ (f' n' : Nat) (S1 : Mem), f' < 30 → n' < 30 → rdI S1 (r + 1) 468 = nI f' → rdI S1 (r + 1) 2 = nI n' → (∀ c i, ¬ (c = r + 1 ∧ (i = 2 ∨ i = 468)) → rdI S1 c i = rdI S c i) → ∃ S', ev (d + 1) 256 62 [vR 8 r, vI (nI (469 + 440 * ((f' + n') % 30))), vI 0] [] S1 = some (none, S') ∧ RP S' (r + 1) 4 A ∧ rdI S' (r + 1) 468 = nI f' ∧ rdI S' (r + 1) 2 = nI (n' + 1) ∧ RP S' (r + 1) (469 + 440 * ((f' + n') % 30)) A ∧ (∀ c i, ¬ (c = r + 1 ∧ 469 + 440 * ((f' + n') % 30) ≤ i ∧ i < 469 + 440 * ((f' + n') % 30) + 440) → ¬ (c = r + 1 ∧ i = 2) → rdI S' c i = rdI S1 c i) ∧ S'.2 = S1.2 := by
    intro f' n' S1 hf' hn' g1 g2 g3
    have hm : (f' + n') % 30 < 30 := Nat.mod_lt _ (by decide)
    have h1 : RP S1 (r + 1) 4 A := RP_fr h (fun i h1 h2 => g3 _ _ (by omega))
    have q := rdI_mc (c := r + 1) (o := 4) (c' := r + 1) (o' := 469 + 440 * ((f' + n') % 30)) S1 440 (fun _ => by omega)
    have w := mc_RP (c := r + 1) (o := 4) (c' := r + 1) (o' := 469 + 440 * ((f' + n') % 30)) (S := S1) (fun _ => by omega) h1
    have q2 : rdI (mc (r + 1) 4 (r + 1) (469 + 440 * ((f' + n') % 30)) 440 S1) (r + 1) 2 = nI n' := by rw [q, if_neg (by omega)]; exact g2
    have ww : ∀ (T : Mem) (v : Int32) (o : Nat), 3 ≤ o → RP T (r + 1) o A → RP (wrI T (r + 1) 2 v) (r + 1) o A := fun T v o ho hT => RP_fr hT (fun i h1 h2 => by rw [rdI_wrI, if_neg (by omega)])
    rw [kl_m d r _ (by omega), B_X8_keep_62, if_pos y440, i13_2, gd_t, gd_t, x13_2, q2, nI_1]
    refine ⟨_, rfl, ww _ _ _ (by omega) (RP_fr h1 (fun i h1 h2 => by rw [q, if_neg (by omega)])), ?_, ?_, ww _ _ _ (by omega) w, fun c i hc h2 => ?_, (wr_2 _ _ _ _).trans (mc_2 _ _ _ _ S1 440)⟩
    · rw [rdI_wrI, if_neg (by omega), q, if_neg (by omega)]; exact g1
    · rw [rdI_wrI, if_pos ⟨rfl, rfl⟩]
    · rw [rdI_wrI, if_neg h2, q, if_neg hc]
  rw [B_X8_keep, i13_2, gd_t, x13_2, e2]
  by_cases h30 : n < 30
  · have hne : ¬ nI n = 30 := fun z => by have := (nI_eq (b := 30) (by omega) (by decide)).mp z; omega
    obtain ⟨S', e, k1, k2, k3, k4, k5', k6⟩ := core f n S hf h30 e1 e2 (fun _ _ _ => rfl)
    have hm : (f + n) % 30 < 30 := Nat.mod_lt _ (by decide)
    have ek : kpN n = n + 1 := if_pos h30
    rw [if_neg hne, i13_468, gd_t, gd_t, x13_468, e1, stepAt_m d f n (by omega) (by omega), bI_s, e]
    refine ⟨S', rfl, k1, ⟨f, hf, k2, by rw [ek]; exact k3, by rw [ek]; omega, fun i hi => ?_⟩, fun c i hc => k5' c i (by omega) (by omega), k6⟩
    rw [ek] at hi
    unfold kpS
    rw [ek]
    by_cases z : i = n + 1 - 1
    · rw [if_pos z, show i = n by omega]; exact k4
    · rw [if_neg z, if_pos h30]
      have hne : ¬ (f + i) % 30 = (f + n) % 30 := by omega
      exact RP_fr (hC i (by omega)) (fun j h1 h2 => k5' _ _ (by omega) (by omega))
  · have hn30 : n = 30 := by omega
    subst hn30
    have hm1 : (f + 1) % 30 < 30 := Nat.mod_lt _ (by decide)
    have g468 : rdI (wrI (wrI S (r + 1) 468 (nI ((f + 1) % 30))) (r + 1) 2 (nI 29)) (r + 1) 468 = nI ((f + 1) % 30) := by rw [rdI_wrI, if_neg (by omega), rdI_wrI, if_pos ⟨rfl, rfl⟩]
    have g2 : rdI (wrI (wrI S (r + 1) 468 (nI ((f + 1) % 30))) (r + 1) 2 (nI 29)) (r + 1) 2 = nI 29 := by rw [rdI_wrI, if_pos ⟨rfl, rfl⟩]
    have g20 : rdI (wrI S (r + 1) 468 (nI ((f + 1) % 30))) (r + 1) 2 = nI 30 := by rw [rdI_wrI, if_neg (by omega)]; exact e2
    obtain ⟨S', e, k1, k2, k3, k4, k5', k6⟩ := core ((f + 1) % 30) 29 _ hm1 (by decide) g468 g2 (fun c i hc => by rw [rdI_wrI, if_neg (by omega), rdI_wrI, if_neg (by omega)])
    have hm : ((f + 1) % 30 + 29) % 30 < 30 := Nat.mod_lt _ (by decide)
    rw [if_pos (show nI 30 = 30 from rfl), i13_468, gd_t, gd_p (show nz 30 = true by decide), gd_t, gd_t, gd_t, gd_t, gd_t, x13_468, e1, nI_1, rem30 (by omega), g20, show nI 30 - 1 = nI 29 by decide, g468, g2, stepAt_m d _ 29 (by omega) (by omega), bI_s, e]
    refine ⟨S', rfl, k1, ⟨(f + 1) % 30, hm1, k2, k3, by decide, fun i hi => ?_⟩, fun c i hc => ?_, k6⟩
    · have hi : i < 30 := hi
      unfold kpS
      rw [show kpN 30 = 30 from rfl]
      by_cases z : i = 30 - 1
      · rw [if_pos z, show i = 29 by omega]; exact k4
      · rw [if_neg z, if_neg (by decide)]
        have heq : ((f + 1) % 30 + i) % 30 = (f + (i + 1)) % 30 := by omega
        have hne : ¬ ((f + 1) % 30 + i) % 30 = ((f + 1) % 30 + 29) % 30 := by omega
        rw [heq] at hne ⊢
        refine RP_fr (hC (i + 1) (by omega)) (fun j h1 h2 => ?_)
        rw [k5' _ _ (by omega) (by omega), rdI_wrI, if_neg (by omega), rdI_wrI, if_neg (by omega)]
    · rw [k5' c i (by omega) (by omega), rdI_wrI, if_neg (by omega), rdI_wrI, if_neg (by omega)]
theorem undo_m {S : Mem} {r n : Nat} {St : Nat → AS} (hS : StM S (r + 1) n St) (d : Nat) : (n = 0 → cal (d + 1) 257 [vR 8 r] S = some (some (vI (-1)), S)) ∧ (0 < n → ∃ S', cal (d + 1) 257 [vR 8 r] S = some (some (vI (nI (n - 1))), S') ∧ RP S' (r + 1) 4 (St (n - 1)) ∧ StM S' (r + 1) (n - 1) St ∧ (∀ c i, ¬ (c = r + 1 ∧ (i = 2 ∨ (4 ≤ i ∧ i < 444))) → rdI S' c i = rdI S c i) ∧ S'.2 = S.2) := by
  obtain ⟨f, hf, e1, e2, hn, hC⟩ := hS
  rw [B_X8_undo, i13_2, gd_t, x13_2, e2]
  refine ⟨fun h => ?_, fun h => ?_⟩
  · rw [h, if_pos (show nI 0 = 0 from rfl)]
  · have hm : (f + (n - 1)) % 30 < 30 := Nat.mod_lt _ (by decide)
    have g468 : rdI (wrI S (r + 1) 2 (nI (n - 1))) (r + 1) 468 = nI f := by rw [rdI_wrI, if_neg (by omega)]; exact e1
    have g2 : rdI (wrI S (r + 1) 2 (nI (n - 1))) (r + 1) 2 = nI (n - 1) := by rw [rdI_wrI, if_pos ⟨rfl, rfl⟩]
    have q := rdI_mc (c := r + 1) (o := 469 + 440 * ((f + (n - 1)) % 30)) (c' := r + 1) (o' := 4) (wrI S (r + 1) 2 (nI (n - 1))) 440 (fun _ => by omega)
    have hC' : ∀ i, i < n → RP (wrI S (r + 1) 2 (nI (n - 1))) (r + 1) (469 + 440 * ((f + i) % 30)) (St i) := fun i hi => RP_fr (hC i hi) (fun j h1 h2 => by rw [rdI_wrI, if_neg (by omega)])
    have w := mc_RP (c := r + 1) (o := 469 + 440 * ((f + (n - 1)) % 30)) (c' := r + 1) (o' := 4) (fun _ => by omega) (hC' (n - 1) (by omega))
    have q2 : rdI (mc (r + 1) (469 + 440 * ((f + (n - 1)) % 30)) (r + 1) 4 440 (wrI S (r + 1) 2 (nI (n - 1)))) (r + 1) 2 = nI (n - 1) := by rw [q, if_neg (by omega)]; exact g2
    rw [if_neg (nI_ne0 h (by omega)), gd_t, gd_t, i13_468, gd_t, gd_t, x13_468, s1_sub h, g468, g2, stepAt_m d f (n - 1) (by omega) (by omega), bI_s, ul_m d r _ (by omega), B_X8_undo_41, if_pos y440, i13_2, gd_t, x13_2, q2]
    refine ⟨_, rfl, w, ⟨f, hf, by rw [q, if_neg (by omega)]; exact g468, q2, by omega, fun i hi => ?_⟩, fun c i hc => ?_, (mc_2 _ _ _ _ _ 440).trans (wr_2 _ _ _ _)⟩
    · exact RP_fr (hC' i (by omega)) (fun j h1 h2 => by rw [q, if_neg (by omega)])
    · rw [q, if_neg (by omega), rdI_wrI, if_neg (by omega)]
