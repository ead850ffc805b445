/-! SOUNDNESS of returns, switches, calls; every method meets what ev says of it -/
section SOC
variable {w : WT} {l : Launch} {hs : Bool} {mid pc : Nat}
theorem so_ret (hd : decode (cdB mid) pc = .ok (.return_, 1)) (hrt : rtM mid = none) : Snd w l hs mid pc opRet := by
  intro C0 N0 d hC hN lv st S R' h
  unfold opRet at h
  split at h
  next =>
    cases h
    exact ⟨rfl, fun p e R s m args below meth c cells slots Q A a b H locs ls r1 r2 r3 r4 => b H locs ls pc r1 (fun _ z => by cases z) hrt hd⟩
  next => cases h
theorem so_iret (hd : decode (cdB mid) pc = .ok (.ireturn, 1)) (hrt : rtM mid = some .int) : Snd w l hs mid pc opIret := by
  intro C0 N0 d hC hN lv st S R' h
  unfold opIret at h
  split at h
  next x =>
    cases h
    exact ⟨rfl, fun p e R s m args below meth c cells slots Q A a b H locs ls r1 r2 r3 r4 => b H locs ls pc r1 (fun v z => by cases z; exact VR_I) (Or.inl hrt) hd⟩
  next => cases h
theorem so_zret (hd : decode (cdB mid) pc = .ok (.ireturn, 1)) (hrt : rtM mid = some .boolean) : Snd w l hs mid pc opZret := by
  intro C0 N0 d hC hN lv st S R' h
  unfold opZret at h
  split at h
  next x =>
    replace h := gd_some h
    obtain ⟨hz, h⟩ := h
    cases h
    exact ⟨rfl, fun p e R s m args below meth c cells slots Q A a b H locs ls r1 r2 r3 r4 => b H locs ls pc r1 (fun v z => by cases z; exact VR_I) (Or.inr ⟨hrt, hz⟩) hd⟩
  next => cases h
theorem so_lret (hd : decode (cdB mid) pc = .ok (.lreturn, 1)) (hrt : rtM mid = some .long) : Snd w l hs mid pc opLret := by
  intro C0 N0 d hC hN lv st S R' h
  unfold opLret at h
  split at h
  next x =>
    cases h
    exact ⟨rfl, fun p e R s m args below meth c cells slots Q A a b H locs ls r1 r2 r3 r4 => b H locs ls pc r1 (fun v z => by cases z; exact VR_L) hrt hd⟩
  next => cases h
theorem so_aret {n : String} (hd : decode (cdB mid) pc = .ok (.areturn, 1)) (hrt : rtM mid = some (.object n)) : Snd w l hs mid pc opAret := by
  intro C0 N0 d hC hN lv st S R' h
  unfold opAret at h
  split at h
  next κ t =>
    replace h := cond_some h
    obtain ⟨hz, h⟩ := h
    cases h
    exact ⟨rfl, fun p e R s m args below meth c cells slots Q A a b H locs ls r1 r2 r3 r4 => b H locs ls pc r1 (fun v z => by cases z; exact VRs_hd r4) ⟨⟨n, hrt⟩, Nat.le_of_ble_eq_true hz⟩ hd⟩
  next => cases h
/-! switches -/
theorem swN_of {d : Nat} {x : Int32} {k : Nat → Option Res} {R' : Res} : ∀ {cs : List (Int32 × Nat)}, swN d x k cs = some R' → (∃ q ∈ cs, x = q.1 ∧ k q.2 = some R') ∨ ((∀ q ∈ cs, ¬ x = q.1) ∧ k d = some R')
  | [], h => Or.inr ⟨(fun _ z => by cases z), h⟩
  | (v, t) :: cs, h => by
    unfold swN at h
    by_cases hx : x = v
    · rw [if_pos hx] at h
      exact Or.inl ⟨(v, t), List.mem_cons_self, hx, h⟩
    · rw [if_neg hx] at h
      rcases swN_of h with ⟨q, h1, h2⟩ | ⟨h1, h2⟩
      · exact Or.inl ⟨q, List.mem_cons_of_mem _ h1, h2⟩
      · exact Or.inr ⟨fun q hq => by
          rcases List.mem_cons.mp hq with e | e
          · rw [e]; exact hx
          · exact h1 q e, h2⟩
def tswOk (pc : Nat) (dflt lo hi : Int) (offs : Array Int) (d : Nat) (cs : List (Int32 × Nat)) : Bool :=
  decide ((pc : Int) + dflt = (d : Int)) && cs.all (fun q => decide (lo ≤ q.1.toInt) && decide (q.1.toInt ≤ hi) && (match offs[(q.1.toInt - lo).toNat]? with
    | some off => decide ((pc : Int) + off = (q.2 : Int))
    | none => false)) && decide (offs.size = (hi - lo + 1).toNat) && decide (lo ≤ hi) && (List.range offs.size).all (fun j => cs.any (fun q => decide (q.1.toInt = lo + (j : Int))) || decide (offs[j]? = some dflt))
theorem so_tsw {dflt lo hi : Int} {offs : Array Int} {len d : Nat} {cs : List (Int32 × Nat)} (hd : decode (cdB mid) pc = .ok (.tableswitch dflt lo hi offs, len)) (hok : tswOk pc dflt lo hi offs d cs = true) : Snd w l hs mid pc (opSw d cs) := by
  unfold tswOk at hok
  simp only [Bool.and_eq_true, decide_eq_true_eq] at hok
  obtain ⟨⟨⟨⟨ho1, ho2⟩, ho3⟩, ho5⟩, ho4⟩ := hok
  intro C0 N0 dd hC hN lv st S R' h
  unfold opSw at h
  split at h
  next x r =>
    rcases swN_of h with ⟨q, h1, h2, h3⟩ | ⟨h1, h2⟩
    · have k := hN _ _ _ _ _ h3
      refine ⟨k.1, fun p e R s m args below meth c cells slots Q A a b H locs ls r1 r2 r3 r4 => ?_⟩
      have g := List.all_eq_true.mp ho2 q h1
      simp only [Bool.and_eq_true, decide_eq_true_eq] at g
      obtain ⟨⟨g1, g2⟩, g3⟩ := g
      cases hf : offs[(q.1.toInt - lo).toNat]? with
      | none => rw [hf] at g3; cases g3
      | some off =>
        rw [hf] at g3
        simp only [decide_eq_true_eq] at g3
        subst h2
        exact lv_tableIn a.1 a.2.1 hd (by omega) (by omega) hf g3 (k.2 p e R s m args below meth c cells slots Q A a b H locs ls r1 r2 r3 (VRs_tl r4))
    · have k := hN _ _ _ _ _ h2
      refine ⟨k.1, fun p e R s m args below meth c cells slots Q A a b H locs ls r1 r2 r3 r4 => ?_⟩
      have kk := k.2 p e R s m args below meth c cells slots Q A a b H locs ls r1 r2 r3 (VRs_tl r4)
      by_cases hr : x.toInt < lo ∨ hi < x.toInt
      · exact lv_tableOut a.1 a.2.1 hd hr ho1 kk
      · have hj : (x.toInt - lo).toNat < offs.size := by omega
        have g := List.all_eq_true.mp ho4 _ (List.mem_range.mpr hj)
        rw [Bool.or_eq_true] at g
        rcases g with g | g
        · obtain ⟨q, hq, hq2⟩ := List.any_eq_true.mp g
          have hq2 := of_decide_eq_true hq2
          exact absurd (Int32.toInt_inj.mp (by omega)) (h1 q hq)
        · exact lv_tableIn a.1 a.2.1 hd (by omega) (by omega) (of_decide_eq_true g) ho1 kk
  next => cases h
theorem lsw_out {dflt : Int} {x : Int32} {pc : Nat} : ∀ (cs : List (Int32 × Nat)), (∀ q ∈ cs, ¬ x = q.1) → Op.lookupswitch.offset (cs.map fun q => (q.1.toInt, (q.2 : Int) - (pc : Int))) dflt x.toInt = dflt
  | [], _ => by simp [Op.lookupswitch.offset]
  | q :: cs, h => by
    rw [List.map_cons, Op.lookupswitch.offset_cons, if_neg]
    · exact lsw_out cs (fun z hz => h z (List.mem_cons_of_mem _ hz))
    · intro e
      exact h q List.mem_cons_self (Int32.toInt_inj.mp e.symm)
theorem swN_first {d : Nat} {x : Int32} {k : Nat → Option Res} {R' : Res} {dflt : Int} {pc : Nat} (hdf : (pc : Int) + dflt = (d : Int)) : ∀ {cs : List (Int32 × Nat)}, swN d x k cs = some R' → ∃ t : Nat, k t = some R' ∧ (pc : Int) + Op.lookupswitch.offset (cs.map fun q => (q.1.toInt, (q.2 : Int) - (pc : Int))) dflt x.toInt = (t : Int)
  | [], h => ⟨d, h, by simpa [Op.lookupswitch.offset] using hdf⟩
  | (v, t) :: cs, h => by
    unfold swN at h
    by_cases hx : x = v
    · rw [if_pos hx] at h
      refine ⟨t, h, ?_⟩
      rw [List.map_cons, Op.lookupswitch.offset_cons, if_pos (by rw [hx])]
      dsimp only
      omega
    · rw [if_neg hx] at h
      obtain ⟨t', h1, h2⟩ := swN_first hdf h
      refine ⟨t', h1, ?_⟩
      rw [List.map_cons, Op.lookupswitch.offset_cons, if_neg (fun e => hx (Int32.toInt_inj.mp e.symm))]
      exact h2
theorem so_lsw {dflt : Int} {ps : Array (Int × Int)} {len d : Nat} {cs : List (Int32 × Nat)} (hd : decode (cdB mid) pc = .ok (.lookupswitch dflt ps, len)) (hp : (ps.toList.zip (ps.toList.drop 1)).all (fun (a, next) => a.1 < next.1) = true) (hps : ps.toList = cs.map fun q => (q.1.toInt, (q.2 : Int) - (pc : Int))) (hdf : (pc : Int) + dflt = (d : Int)) : Snd w l hs mid pc (opSw d cs) := by
  intro C0 N0 dd hC hN lv st S R' h
  unfold opSw at h
  split at h
  next x r =>
    obtain ⟨t, h1, h2⟩ := swN_first (pc := pc) hdf h
    have k := hN _ _ _ _ _ h1
    refine ⟨k.1, fun p e R s m args below meth c cells slots Q A a b H locs ls r1 r2 r3 r4 => ?_⟩
    exact lv_lookup a.1 a.2.1 hd hp (by rw [hps]) h2 (k.2 p e R s m args below meth c cells slots Q A a b H locs ls r1 r2 r3 (VRs_tl r4))
  next => cases h
theorem cats_map {r : List AV} : ((r.map (cv w)).map fun v => v.category).sum = catS r := by
  induction r with
  | nil => rfl
  | cons v r ih => rw [List.map_cons, List.map_cons, List.sum_cons, ih, catV_cv]; rfl
/-! arraycopy -/
theorem so_acp {idx : Nat} (hd : decode (cdB mid) pc = .ok (.invokestatic idx, 3)) (hl : Cond.methodLink (yM mid).cls idx arraycopyName ∈ lw_good) (h1 : Cond.native arraycopyName ∈ lw_good) (h2 : Cond.static arraycopyName ∈ lw_good) (h3 : Cond.initialized "java/lang/System" ∈ lw_good) : Snd w l hs mid pc (opAcp (pc + 3)) := by
  intro C0 N0 d hC hN lv st S R' h
  unfold opAcp at h
  split at h
  next z dp κ2 t2 sp κ1 t1 r =>
    replace h := cond_some h
    obtain ⟨hk0, h⟩ := h
    replace h := gd_some h
    obtain ⟨hg, h⟩ := h
    simp only [Bool.and_eq_true] at hk0
    obtain ⟨⟨⟨hk1, hk2⟩, hk3⟩, hk4⟩ := hk0
    unfold acg at hg
    simp only [Bool.and_eq_true, decide_eq_true_eq] at hg
    obtain ⟨⟨⟨⟨g1, g2⟩, g3⟩, g4⟩, g5⟩ := hg
    have kN := hN _ _ _ _ _ h
    refine ⟨kN.1, fun p ee R s m args below meth c cells slots Q A a b H locs ls r1 r2 r3 r4 => ?_⟩
    obtain ⟨ht2, hkt2, hcv2⟩ := recA (VRs_hd (VRs_tl (VRs_tl r4))) (by have := kAI_le hk2; omega)
    obtain ⟨ht1, hkt1, hcv1⟩ := recA (VRs_hd (VRs_tl (VRs_tl (VRs_tl (VRs_tl r4))))) (by have := kAI_le hk1; omega)
    obtain ⟨q1, hq1⟩ := WL_get (S := S) ht1
    obtain ⟨q2, hq2⟩ := WL_get (S := S) ht2
    have hq0 := hq2
    rw [hkt1, encK_I hk1] at hq1
    rw [hkt2, encK_I hk2] at hq2
    simp only [List.map_cons]
    rw [show cv w (Sum.inr (Sum.inr (κ1, t1))) = Value.ref (wb w + t1) from hcv1, show cv w (Sum.inr (Sum.inr (κ2, t2))) = Value.ref (wb w + t2) from hcv2]
    have hcs : ((r.map (cv w)).map fun v => v.category).sum ≤ 8 := by
      rw [cats_map]; exact Nat.le_of_ble_eq_true hk3
    have hrm := a.2.2.2.2.2.2.1
    have hd1 := Nat.le_of_ble_eq_true hk4
    have e18 : nativeFrameWords "java/lang/System" "arraycopy" 5 + 11 = 18 := by decide +kernel
    have hlo : ((r.map (cv w)).map fun v => v.category).sum + (nativeFrameWords "java/lang/System" "arraycopy" 5 + 11) ≤ R.locals := by rw [e18]; omega
    refine va_copyi a.1 a.2.1 (by rw [a.2.2.1]; exact r2.1.symm) a.2.2.2.1 (a.2.2.2.2.1 _ hl) (a.2.2.2.2.1 _ h1) (a.2.2.2.2.1 _ h2) (a.2.2.2.2.1 _ h3) a.2.2.2.2.2.1 r1.1 r1.2.1 r1.2.2.1 q1 q2 0 0 (ty := .int) hq1 hq2 rfl rfl rfl g1 g2 g3 g4 g5 (fun _ _ => rfl) (by omega) hlo hd (fun H1 locs1 p1 p2 p3 => ?_)
    have e : encK w (wk w t2) t2 (cpI S t1 (ix sp) t2 (ix dp) (ix z)) = .inl (w.2.1.1, κ2 - 100000, .inl (va_cpy (fun i => S.1 t1 i) (fun i => S.1 t2 i) sp.toNatClampNeg dp.toNatClampNeg z.toNatClampNeg)) := by
      rw [hkt2, encK_I hk2]
      congr 4
      funext j
      show (if t2 = t2 then va_cpy (S.1 t1) (S.1 t2) (ix sp) (ix dp) (ix z) j else S.1 t2 j) = _
      rw [if_pos rfl]; rfl
    rw [← e] at p1 p2
    refine kN.2 p ee R s m args below meth c cells slots Q A a b H1 locs1 ls (RHs_upd r1 a.2.2.2.2.2.2.2.2.2.1 hq0 (fun t' hne => ⟨fun i => by unfold cpI; dsimp only; rw [if_neg hne], fun i => rfl⟩) rfl (fun t' h1 h2 => ?_) p1 p2 p3) r2 r3 (VRs_tl (VRs_tl (VRs_tl (VRs_tl (VRs_tl r4)))))
    have hne : t' ≠ t2 := by
      intro q
      subst q
      have := kAI_le hk2
      omega
    rw [show rdI (cpI S t1 (ix sp) t2 (ix dp) (ix z)) t' 10 = rdI S t' 10 by unfold rdI cpI; dsimp only; rw [if_neg hne]]
    exact r1.2.2.2.1 t' h1 h2
  next => cases h
/-! calls -/
theorem popN_of : ∀ {n : Nat} {st as r : List AV}, popN n st = some (as, r) → st = as.reverse ++ r ∧ as.length = n
  | 0, st, as, r, h => by cases h; exact ⟨rfl, rfl⟩
  | n + 1, [], as, r, h => by cases h
  | n + 1, v :: st, as, r, h => by
    unfold popN at h
    cases hp : popN n st with
    | none => rw [hp] at h; cases h
    | some q =>
      obtain ⟨as', r'⟩ := q
      rw [hp] at h
      cases h
      obtain ⟨h1, h2⟩ := popN_of hp
      exact ⟨by rw [h1, List.reverse_append]; rfl, by rw [List.length_append, h2]; rfl⟩
theorem va_D_WL {w : WT} {A B : Nat → Prop} {S S' : Mem} (h : va_D A (WL w S)) (hAB : ∀ t ∈ wL w, A (wb w + t) → B (wb w + t)) : va_D B (WL w S') := by
  have key : ∀ (k : Nat) (q : Nat × va_E), (WL w S')[k]? = some q → ∃ t ∈ wL w, q.1 = wb w + t ∧ ∃ q0, (WL w S)[k]? = some q0 ∧ q0.1 = q.1 := by
    intro k q hk
    unfold WL at hk ⊢
    rw [List.getElem?_map] at hk ⊢
    cases ht : (wL w)[k]? with
    | none => rw [ht] at hk; cases hk
    | some t =>
      rw [ht] at hk
      cases hk
      exact ⟨t, List.mem_of_getElem? ht, rfl, _, rfl, rfl⟩
  refine ⟨fun i j p q hi hj e => ?_, fun k q hk => ?_⟩
  · obtain ⟨-, -, -, p0, h1, h2⟩ := key i p hi
    obtain ⟨-, -, -, q0, h3, h4⟩ := key j q hj
    exact h.1 i j p0 q0 h1 h3 (by rw [h2, h4, e])
  · obtain ⟨t, ht, e, q0, h1, h2⟩ := key k q hk
    have := h.2 k q0 h1
    rw [e]
    exact hAB t ht (by rw [← e, ← h2]; exact this)
theorem StrW_to {w : WT} {A : Nat → Prop} {s U : State} {H : Heap} {locs : List Loc} (h : StrW w A s s.heap) (hS : va_S A s.heap H locs) (hA : ∀ q, A1 w q → A q) (hU : U.heap = H) (hW : s.WarmedH U.vm) : StrW w (A1 w) U U.heap := by
  refine ⟨?_, vk_R.warm hW h.2.1, va_Nw.warmM hW h.2.2.1, by rw [hU]; exact ((h.2.2.2.1.kept hS.2.1).narrow hA).moved hW.alike, by rw [hU]; exact ((h.2.2.2.2.kept hS.2.1).narrow hA).moved hW.alike⟩
  have h1 := (h.1.kept hS.2.1).narrow hA
  rw [hU]
  exact h1.moved hW.alike
theorem PcM_blind {w : WT} {as : List AV} {S : Mem} : FrameBlind (PcM w as S) := by
  intro a U g mk h
  obtain ⟨h1, h2, h3, h4, h5, h6, h7⟩ := h
  refine ⟨h1, h2, va_K.moved (u := U) (U := U.calling g mk a) (Vm.Alike.refl U.vm) h3, h4, h5, ⟨?_, ?_, ?_, ?_, ?_⟩, h7⟩
  · exact vk_S.moved (u := U) (U := U.calling g mk a) (Vm.Alike.refl U.vm) h6.1
  · exact vk_R.same (u := U) (U := U.calling g mk a) rfl h6.2.1
  · exact va_Nw.same (u := U) (U := U.calling g mk a) rfl rfl h6.2.2.1
  · exact va_Z.moved (u := U) (U := U.calling g mk a) (Vm.Alike.refl U.vm) h6.2.2.2.1
  · exact va_Zq.moved (u := U) (U := U.calling g mk a) (Vm.Alike.refl U.vm) h6.2.2.2.2
def KOk (K : Option Res → (Option AV → Mem → Option Res) → Option Res) : Prop := ∀ o k R', K o k = some R' → ∃ R1 : Res, o = some R1 ∧ k R1.1 R1.2 = some R'
theorem kokV : KOk kV := by
  intro o k R' h
  unfold kV bV at h
  rcases o with _ | ⟨_ | x | x | ⟨a, b⟩, S⟩
  · cases h
  · exact ⟨_, rfl, h⟩
  · cases h
  · cases h
  · cases h
theorem kokI : KOk kI := by
  intro o k R' h
  unfold kI bI at h
  rcases o with _ | ⟨_ | x | x | ⟨a, b⟩, S⟩
  · cases h
  · cases h
  · exact ⟨_, rfl, h⟩
  · cases h
  · cases h
theorem kokL : KOk kL := by
  intro o k R' h
  unfold kL bL at h
  rcases o with _ | ⟨_ | x | x | ⟨a, b⟩, S⟩
  · cases h
  · cases h
  · cases h
  · exact ⟨_, rfl, h⟩
  · cases h
theorem kokR {κ' : Nat} : KOk (kR κ') := by
  intro o k R' h
  unfold kR bR at h
  rcases o with _ | ⟨_ | x | x | ⟨a, b⟩, S⟩
  · cases h
  · cases h
  · cases h
  · cases h
  · replace h := cond_some h
    obtain ⟨h1, h2⟩ := h
    rw [← Nat.eq_of_beq_eq_true h1] at h2
    exact ⟨_, rfl, h2⟩
/-- behind a call -/
theorem am_after {p : Program} {e : Env} {R : Room} {s : State} {m : MethodId} {args args1 : Array Value} {below : List Frame} {meth : Method} {c : Code} {H : Heap} {locs : List Loc} {cells slots : Nat} {Q : State → Prop} {A : Nat → Prop} {ls : Array Slot} {st0 rest : List Value} {S : Mem} {R1 : Res}
    (hr : va_Run p l e R s m args below meth c H locs cells slots 0 0 (F0 m pc ls st0) rest (QcM w R1 args1) (A1 w)) (r1 : RHs w hs A s S H locs) (hA : ∀ q, A1 w q → A q) (h2 : R1.2.2.2 = S.2.2)
    (kk : ∀ (H1 : Heap) (locs1 : List Loc), RHs w hs A s R1.2 H1 locs1 → (∀ v, R1.1 = some v → VR w hs v) → W p l e R s m args below meth c H1 locs1 cells slots Q (F0 m (pc + 3) ls ((R1.1.toList.map (cv w)) ++ rest))) : W p l e R s m args below meth c H locs cells slots Q (F0 m pc ls st0) := by
  intro T hT X
  obtain ⟨v, st₀, t, T', L, h0, X', hL, e1, e2, ⟨hv, hp, hsi, hvr, hz, hk⟩, st⟩ := hr T hT X
  have hv2 : v = R1.1.map (cv w) := by cases hv; rfl
  subst hv2
  rw [h0] at hz hk
  have hS := r1.2.2.1
  obtain ⟨t2, a1, b1⟩ := kk T'.heap (locs ++ L) ⟨by rw [e1]; exact hp, va_D_WL r1.2.1 (fun _ _ q => q), ⟨Nat.le_trans hS.1 (by rw [e1]; exact hz), fun q h1 h2 => by rw [e1, hk q (Nat.lt_of_lt_of_le h1 hS.1) (fun z => h2 (hA q z))]; exact hS.2.1 q h1 h2, fun q hq => by
      rcases List.mem_append.mp hq with h | h
      · exact hS.2.2 q h
      · exact hA _ (hL q h)⟩, hsi, fun z => by rw [h2]; exact r1.2.2.2.2 z⟩ (fun v hv => by
      have := hvr v hv
      revert this
      unfold VR
      split
      · rintro (z | ⟨-, z⟩ | z | z)
        · exact Or.inl z
        · cases z
        · exact Or.inr (Or.inr (Or.inl z))
        · exact Or.inr (Or.inr (Or.inr z))
      · exact fun _ => trivial) T' rfl X'
  refine ⟨t2, st t2 ?_, b1⟩
  have e : (Option.map (cv w) R1.1).toList = R1.1.toList.map (cv w) := by cases R1.1 <;> rfl
  rw [e]
  exact a1
theorem good_call {c' idx : Nat} {own C : String} {y : MethodName} (hy : yM c' = y) (h1 : Cond.methodLink own idx y ∈ lw_good) (h2 : Cond.instanceMethod y ∈ lw_good) (h3 : Cond.selects C y y ∈ lw_good) (h4 : Cond.initialized C ∈ lw_good) (h5 : Cond.code y (cdB c') (mxL c') (rtM c') ∈ lw_good) : GoodIn lw_good (wsV own idx C y (wsM c')) := by
  have hg : ∀ w ∈ lw_good, (w.onTables && w.keeps) = true ∨ ∃ ty, w = .arrayClass ty := fun w hw => good_of_word (List.mem_filter.mp hw).2
  intro x hx
  refine ⟨?_, ?_⟩
  all_goals (unfold wsV wsM at hx; rw [hy] at hx; simp only [List.mem_append, List.mem_cons, List.not_mem_nil, or_false] at hx)
  · rcases hx with (rfl | rfl | rfl | rfl) | rfl | hx
    · exact h1
    · exact h2
    · exact h3
    · exact h4
    · exact h5
    · exact hx
  · rcases hx with (rfl | rfl | rfl | rfl) | rfl | hx
    · exact hg _ h1
    · exact hg _ h2
    · exact hg _ h3
    · exact hg _ h4
    · exact hg _ h5
    · exact hg _ hx
theorem good_callS {c' : Nat} {y : MethodName} (hy : yM c' = y) (h2 : Cond.static y ∈ lw_good) (h5 : Cond.code y (cdB c') (mxL c') (rtM c') ∈ lw_good) : GoodIn lw_good (wsM c') := by
  have hg : ∀ w ∈ lw_good, (w.onTables && w.keeps) = true ∨ ∃ ty, w = .arrayClass ty := fun w hw => good_of_word (List.mem_filter.mp hw).2
  intro x hx
  refine ⟨?_, ?_⟩
  all_goals (unfold wsM at hx; rw [hy] at hx; simp only [List.mem_cons] at hx)
  · rcases hx with rfl | hx
    · exact h5
    · exact hx
  · rcases hx with rfl | hx
    · exact hg _ h5
    · exact hg _ hx
theorem VR_false {hs : Bool} {v : AV} (h : VR w hs v) (hn : ∀ a t, v = vR a t → ¬ a = 40) : VR w false v := by
  rcases v with x | x | ⟨κ, t⟩
  · trivial
  · trivial
  · rcases h with h | h | h | h
    · exact Or.inl h
    · exact absurd h.1 (hn κ t rfl)
    · exact Or.inr (Or.inr (Or.inl h))
    · exact Or.inr (Or.inr (Or.inr h))
theorem noS_of : ∀ {as : List AV}, noS as = true → ∀ v ∈ as, ∀ a t, v = vR a t → ¬ a = 40
  | [], _, v, hv, _, _, _ => by cases hv
  | v0 :: as, h, v, hv, a, t, e => by
    unfold noS at h
    rw [Bool.and_eq_true] at h
    rcases List.mem_cons.mp hv with q | q
    · subst q
      subst e
      intro z
      subst z
      have := h.1
      simp at this
    · exact noS_of h.2 v q a t e
theorem noS_U : ∀ {as : List AV}, noS as = true → ∀ v ∈ as, isU v = false
  | [], _, v, hv => by cases hv
  | v0 :: as, h, v, hv => by
    unfold noS at h
    rw [Bool.and_eq_true] at h
    rcases List.mem_cons.mp hv with q | q
    · subst q
      rcases v with x | x | ⟨κ, t⟩
      · rfl
      · rfl
      · have h1 := h.1
        dsimp only at h1
        rw [Bool.and_eq_true] at h1
        show Nat.beq κ 99 = false
        simpa using h1.2
    · exact noS_U h.2 v q
theorem so_callV {K : Option Res → (Option AV → Mem → Option Res) → Option Res} {c' n ci idx maxL : Nat} {y : MethodName} {C : String} {T : u_T} {NN : Nat} (hK : KOk K) (hd : decode (cdB mid) pc = .ok (.invokevirtual idx, 3)) (hy : yM c' = y) (hci : ci ≤ 8) (hc : vwCl[ci]? = some (C, T, NN)) (hmx : mxL c' = maxL ∧ maxL ≤ 45)
    (h1 : Cond.methodLink (yM mid).cls idx y ∈ lw_good) (h2 : Cond.instanceMethod y ∈ lw_good) (h3 : Cond.selects C y y ∈ lw_good) (h4 : Cond.initialized C ∈ lw_good) (h5 : Cond.code y (cdB c') (mxL c') (rtM c') ∈ lw_good)
    (hdd : y.cls = C ∧ y.cls ≠ "java/lang/invoke/MethodHandle" ∧ y.cls ≠ "java/lang/invoke/VarHandle" ∧ (parseMethodDescriptor y.desc).map (fun d => d.parameters.length) = some n) : Snd w l hs mid pc (opK K c' (n + 1) ci (pc + 3)) := by
  subst hy
  intro C0 N0 d hC hN lv st S R' h
  unfold opK at h
  cases hp : popN (n + 1) st with
  | none => rw [hp] at h; cases h
  | some q =>
    obtain ⟨as, r⟩ := q
    rw [hp] at h
    replace h := cond_some h
    obtain ⟨hg, h⟩ := h
    rw [Bool.and_eq_true] at hg
    obtain ⟨hg1, hg2⟩ := hg
    cases d with
    | zero => cases h
    | succ d' =>
      dsimp only at h
      obtain ⟨R1, hR1, h⟩ := hK _ _ _ h
      obtain ⟨hpre, hM⟩ := hC _ _ _ _ _ hR1
      obtain ⟨hst, hlen⟩ := popN_of hp
      have kN := hN _ _ _ _ _ h
      refine ⟨kN.1.trans hpre, fun p ee R s m args below meth c cells slots Q A a b H locs ls r1 r2 r3 r4 => ?_⟩
      subst hst
      have hvas : VRs w hs as := fun v hv => r4 v (List.mem_append_left _ (List.mem_reverse.mpr hv))
      have hvr : VRs w hs r := fun v hv => r4 v (List.mem_append_right _ hv)
      cases as with
      | nil => cases hlen
      | cons v0 as' =>
        unfold rcv at hg1
        rw [Bool.and_eq_true] at hg1
        obtain ⟨hgS, hg1⟩ := hg1
        have hne : Nat.beq ci 99 = false := Bool.eq_false_iff.mpr (fun z => by have := Nat.eq_of_beq_eq_true z; omega)
        rw [hne] at hg1
        rcases v0 with x0 | x0 | ⟨κ, t⟩
        · cases hg1
        · cases hg1
        · have hκ := Nat.eq_of_beq_eq_true hg1
          subst hκ
          obtain ⟨ht, hkt, hcv⟩ := recK (VRs_hd hvas) hci
          obtain ⟨q, hq⟩ := WL_get (S := S) ht
          rw [hkt, encK_8 hci] at hq
          have hlen' : as'.length = n := Nat.succ.inj hlen
          have hvF : VRs w false (Sum.inr (Sum.inr (κ, t)) :: as') := by
            intro v hv
            have h0 := hvas v hv
            exact VR_false h0 (noS_of hgS v hv)
          have hm := hM hgS hvF
          have hW : s.WarmedH s.vm := State.WarmedH.refl s
          have hpv : PreV s H C (wb w + t) (PcM w (Sum.inr (Sum.inr (κ, t)) :: as') S) (as'.map (cv w)) := by
            refine ⟨PcM_blind, ?_, fun U hU hW2 => ?_⟩
            · obtain ⟨cell, z1, z2, z3⟩ := va_recv a.2.2.2.2.2.1 r1.1 hc hq
              exact ⟨cell, z1, z2, z3⟩
            · refine ⟨by rw [List.map_cons, show cv w (Sum.inr (Sum.inr (κ, t))) = Value.ref (wb w + t) from hcv], by rw [hU]; exact r1.1, va_K.moved hW2.alike a.2.2.2.2.2.1, va_D_WL r1.2.1 (fun t ht _ => ⟨t, ht, rfl⟩), r1.2.2.2.1, StrW_to a.2.2.2.2.2.2.2.2.1 r1.2.2.1 a.2.2.2.2.2.2.2.2.2.2 hU hW2, a.2.2.2.2.2.2.2.2.2.1⟩
          have hrm := a.2.2.2.2.2.2.1
          have hrun : va_Run p l ee R s m args below meth c H locs cells slots 0 0 (F0 m pc ls ((as'.map (cv w)).reverse ++ .ref (wb w + t) :: r.map (cv w))) (r.map (cv w)) (QcM w R1 (Value.ref (wb w + t) :: as'.map (cv w)).toArray) (A1 w) := va_runV (As := as'.map (cv w)) (rest := r.map (cv w)) ⟨a.1, a.2.1, a.2.2.1, a.2.2.2.1, a.2.2.2.2.1⟩ hm (cwV n a.2.2.2.2.1 (good_call rfl h1 h2 h3 h4 h5) rfl rfl rfl (hdd) ⟨by show d' + 1 ≤ R.frames; omega, by show 8 + (mxL c' + 11) + 64 * d' ≤ R.locals; omega⟩) hpv rfl (by rw [List.length_map]; exact hlen') r2.1 rfl (lv_room (by rw [cats_map]; exact Nat.le_of_ble_eq_true hg2)) hd (g := F0 m pc ls ((as'.map (cv w)).reverse ++ .ref (wb w + t) :: r.map (cv w))) ⟨by have := a.2.2.2.2.2.2.2.1; omega, by have := a.2.2.2.2.2.2.2.1; omega⟩
          have e : ((Sum.inr (Sum.inr (κ, t)) :: as').reverse ++ r).map (cv w) = (as'.map (cv w)).reverse ++ .ref (wb w + t) :: r.map (cv w) := by
            rw [List.map_append, List.map_reverse, List.map_cons, show cv w (Sum.inr (Sum.inr (κ, t))) = Value.ref (wb w + t) from hcv, List.reverse_cons, List.append_assoc]; rfl
          rw [e]
          refine am_after hrun r1 a.2.2.2.2.2.2.2.2.2.2 hpre (fun H1 locs1 q1 q2 => ?_)
          have kk := kN.2 p ee R s m args below meth c cells slots Q A a b H1 locs1 ls q1 r2 r3 (fun v hv => by
            rcases List.mem_append.mp hv with z | z
            · exact q2 v (Option.mem_toList.mp z)
            · exact hvr v z)
          rw [List.map_append] at kk
          exact kk
theorem so_callS {K : Option Res → (Option AV → Mem → Option Res) → Option Res} {c' n idx maxL : Nat} {y : MethodName} (hK : KOk K) (hd : decode (cdB mid) pc = .ok (.invokestatic idx, 3)) (hy : yM c' = y) (hmx : mxL c' = maxL ∧ maxL ≤ 45)
    (h1 : (Cond.methodLink (yM mid).cls idx y ∈ lw_good) ∨ ((yM mid).cls = "MeshedPages$Pages" ∧ idx = 122 ∧ y = yX7_isPage)) (h2 : Cond.static y ∈ lw_good) (h4 : Cond.initialized y.cls ∈ lw_good) (h5 : Cond.code y (cdB c') (mxL c') (rtM c') ∈ lw_good)
    (hdd : y.cls ≠ "java/lang/invoke/MethodHandle" ∧ y.cls ≠ "java/lang/invoke/VarHandle" ∧ (parseMethodDescriptor y.desc).map (fun d => d.parameters.length) = some n) : Snd w l hs mid pc (opK K c' n 99 (pc + 3)) := by
  subst hy
  intro C0 N0 d hC hN lv st S R' h
  unfold opK at h
  cases hp : popN n st with
  | none => rw [hp] at h; cases h
  | some q =>
    obtain ⟨as, r⟩ := q
    rw [hp] at h
    replace h := cond_some h
    obtain ⟨hg, h⟩ := h
    rw [Bool.and_eq_true] at hg
    obtain ⟨hg1, hg2⟩ := hg
    unfold rcv at hg1
    rw [Bool.and_eq_true] at hg1
    obtain ⟨hgS, hg1⟩ := hg1
    cases d with
    | zero => cases h
    | succ d' =>
      dsimp only at h
      obtain ⟨R1, hR1, h⟩ := hK _ _ _ h
      obtain ⟨hpre, hM⟩ := hC _ _ _ _ _ hR1
      obtain ⟨hst, hlen⟩ := popN_of hp
      have kN := hN _ _ _ _ _ h
      refine ⟨kN.1.trans hpre, fun p ee R s m args below meth c cells slots Q A a b H locs ls r1 r2 r3 r4 => ?_⟩
      subst hst
      have hvas : VRs w hs as := fun v hv => r4 v (List.mem_append_left _ (List.mem_reverse.mpr hv))
      have hvr : VRs w hs r := fun v hv => r4 v (List.mem_append_right _ hv)
      have hvF : VRs w false as := fun v hv => VR_false (hvas v hv) (noS_of hgS v hv)
      have hm := hM hgS hvF
      have hps : PreS s H (PcM w as S) (as.map (cv w)) := ⟨PcM_blind, fun U hU hW2 => ⟨rfl, by rw [hU]; exact r1.1, va_K.moved hW2.alike a.2.2.2.2.2.1, va_D_WL r1.2.1 (fun t ht _ => ⟨t, ht, rfl⟩), r1.2.2.2.1, StrW_to a.2.2.2.2.2.2.2.2.1 r1.2.2.1 a.2.2.2.2.2.2.2.2.2.2 hU hW2, a.2.2.2.2.2.2.2.2.2.1⟩⟩
      have hrm := a.2.2.2.2.2.2.1
      have hR : (rmD d').frames + 1 ≤ R.frames ∧ 8 + (mxL c' + 11) + (rmD d').locals ≤ R.locals := ⟨by show d' + 1 ≤ R.frames; omega, by show 8 + (mxL c' + 11) + 64 * d' ≤ R.locals; omega⟩
      have hGs := good_callS rfl h2 h5
      have hrun : va_Run p l ee R s m args below meth c H locs cells slots 0 0 (F0 m pc ls ((as.map (cv w)).reverse ++ r.map (cv w))) (r.map (cv w)) (QcM w R1 (as.map (cv w)).toArray) (A1 w) := by
        rcases h1 with h1 | ⟨n1, n2, n3⟩
        · exact va_runS (As := as.map (cv w)) (rest := r.map (cv w)) ⟨a.1, a.2.1, a.2.2.1, a.2.2.2.1, a.2.2.2.2.1⟩ hm ⟨callB_of n a.2.2.2.2.1 hGs rfl rfl rfl (a.2.2.2.2.1 _ h4) (a.2.2.2.2.1 _ h1) (hdd) hR, a.2.2.2.2.1 _ h2⟩ hps rfl (by rw [List.length_map]; exact hlen) r2.1 rfl (lv_room (by rw [cats_map]; exact Nat.le_of_ble_eq_true hg2)) hd ⟨by have := a.2.2.2.2.2.2.2.1; omega, by have := a.2.2.2.2.2.2.2.1; omega⟩
        · have hnest : va_Nw (.methodLinkNest (yM mid).cls idx (yM c') "MeshedPages") s := by rw [n1, n2, n3]; exact a.2.2.2.2.2.2.2.2.1.2.2.1
          exact va_runSN (As := as.map (cv w)) (rest := r.map (cv w)) ⟨a.1, a.2.1, a.2.2.1, a.2.2.2.1, a.2.2.2.2.1⟩ hm ⟨va_cnB n a.2.2.2.2.1 hGs rfl rfl rfl hnest (a.2.2.2.2.1 _ h4) (hdd) hR, a.2.2.2.2.1 _ h2, trivial⟩ hps rfl (by rw [List.length_map]; exact hlen) r2.1 rfl (lv_room (by rw [cats_map]; exact Nat.le_of_ble_eq_true hg2)) hd ⟨by have := a.2.2.2.2.2.2.2.1; omega, by have := a.2.2.2.2.2.2.2.1; omega⟩
      have e : (as.reverse ++ r).map (cv w) = (as.map (cv w)).reverse ++ r.map (cv w) := by
        rw [List.map_append, List.map_reverse]
      rw [e]
      refine am_after hrun r1 a.2.2.2.2.2.2.2.2.2.2 hpre (fun H1 locs1 q1 q2 => ?_)
      have kk := kN.2 p ee R s m args below meth c cells slots Q A a b H1 locs1 ls q1 r2 r3 (fun v hv => by
        rcases List.mem_append.mp hv with z | z
        · exact q2 v (Option.mem_toList.mp z)
        · exact hvr v z)
      rw [List.map_append] at kk
      exact kk
end SOC
