/-! CONSTRUCTORS: the pages -/
theorem arrV_c (cI : ClassId) (N : Nat) {f g : Nat → Value} (h : ∀ j, j < N → f j = g j) : arrV cI N f = arrV cI N g := by
  have e : (fun j : Fin N => f j.val) = (fun j : Fin N => g j.val) := funext fun j => h j.1 j.2
  unfold arrV
  rw [e]
def g12 (i : Nat) : Int32 := if i < 12 then 0 else -1
theorem g12_0 (cA : ClassId) : vp_cell cA (12, .inl g12) = arrV cA 12 (fun _ => defaultValue .int) := arrV_c cA 12 (f := fun j => .int (g12 j)) (g := fun _ => defaultValue .int) (fun j hj => by
  show Value.int (g12 j) = Value.int 0
  unfold g12
  rw [if_pos hj])
def wS (w : WT) (u κ : Nat) : WT := (w.1, (w.2.1, ((wb w, ([u], fun _ => κ)), w.2.2.2)))
section FL
variable {p : Program} {l : Launch} {e : Jvm.Env} {R : Room} {s : State} {m : MethodId} {args : Array Value} {below : List Frame} {meth : Method} {c : Code} {H : Heap} {locs : List Loc} {cells slots : Nat} {Q : State → Prop}
variable {cc : ByteArray} {pc : Nat} {ls : Array Slot} {rest : List Value} {A : Nat → Prop} {ws : va_W}
def SF : Mem := (fun _ i => g12 i, (fun _ _ => 0, (0, fun _ => 0)))
theorem fil_g (u : Nat) : (fun i => (filI SF u 12 (-1)).1 u i) = fun _ => (-1 : Int32) := funext fun i => by
  have h := rdI_fil SF u 12 (-1) u i
  show rdI (filI SF u 12 (-1)) u i = -1
  rw [h]
  by_cases z : i < 12
  · rw [if_pos ⟨rfl, z⟩]
  · rw [if_neg (fun y => z y.2)]
    show g12 i = -1
    unfold g12
    rw [if_neg z]
theorem WOK_s (w : WT) {u : Nat} (hu : u < 2 ^ 31) : WOK (wS w u 100012) := by
  refine ⟨List.nodup_cons.mpr ⟨List.not_mem_nil, List.nodup_nil⟩, fun t ht => ?_, fun t ht k off κ' h => ?_, fun t ht h => ?_, fun t ht h => ?_, fun t ht => Or.inr (Or.inr (Or.inr (Or.inl (show kAI 100012 = true by decide))))⟩
  · rw [List.mem_singleton.mp ht]; exact hu
  · have h0 : (fdl 100012)[k]? = some (2, off, κ') := h
    cases h0
  · exact absurd (show (100012 : Nat) = 20 from h) (by decide)
  · exact absurd (show (100012 : Nat) = 21 from h) (by decide)
theorem vn_fill {w : WT} {u idx k nL : Nat} {own : String} (hexec : p.tables.exec = Jvm.exec) (hb : c.code = cc) (hml : c.maxLocals = nL) (hls : ls.size = nL) (hown : s.vm.findClass own = some m.cls) (hts : ∀ w ∈ lw_good, w.before args s = true) (hK : va_K (wD w) vwCl (wty w) s) (hStr : StrW w A s s.heap) (hu : u < 2 ^ 31) (hP : va_P (wD w) vwCl ws H) (hD : va_D A ws) (hS : va_S A s.heap H locs) (hk : ws[k]? = some (wb w + u, .inl (w.2.1.1, 12, .inl g12))) (hlink : Cond.methodLink own idx (yM 319) ∈ lw_good) (h2 : Cond.static (yM 319) ∈ lw_good) (h4 : Cond.initialized (yM 319).cls ∈ lw_good) (h5 : Cond.code (yM 319) (cdB 319) (mxL 319) (rtM 319) ∈ lw_good) (hd : decode cc pc = .ok (.invokestatic idx, 3)) (hfr : 1 ≤ R.frames) (hlo : 64 ≤ R.locals) (hcells : cells ≤ R.cells) (hslots : slots ≤ R.slots) (hst : (rest.map fun v => v.category).sum ≤ 8)
    (kk : ∀ (H1 : Heap) (locs1 : List Loc), va_P (wD w) vwCl (ws.set k (wb w + u, .inl (w.2.1.1, 12, .inl (fun _ => -1)))) H1 → va_D A (ws.set k (wb w + u, .inl (w.2.1.1, 12, .inl (fun _ => -1)))) → va_S A s.heap H1 locs1 → W p l e R s m args below meth c H1 locs1 cells slots Q (F0 m (pc + 3) ls rest)) : W p l e R s m args below meth c H locs cells slots Q (F0 m pc ls (.int (-1) :: .ref (wb w + u) :: rest)) := by
  have hR := cal_met (w := wS w u 100012) (l := l) (d := 0) (mid := 319) (sp_fill 0 12 u (by decide) (-1) SF)
  have hm := hR.2 rfl (fun v hv => by
    rcases List.mem_cons.mp hv with rfl | hv
    · exact Or.inr (Or.inr (Or.inr ⟨List.mem_singleton.mpr rfl, rfl⟩))
    · rcases List.mem_cons.mp hv with rfl | hv
      · trivial
      · exact absurd hv List.not_mem_nil)
  have hA1 : ∀ q, A1 (wS w u 100012) q → q = wb w + u := fun q ⟨t, ht, hq⟩ => by rw [hq, List.mem_singleton.mp ht]; rfl
  have hAu : A (wb w + u) := hD.2 k _ hk
  have hA : ∀ q, A1 (wS w u 100012) q → A q := fun q h => by rw [hA1 q h]; exact hAu
  have hps : PreS s H (PcM (wS w u 100012) [vR (100000 + 12) u, vI (-1)] SF) [.ref (wb w + u), .int (-1)] := ⟨PcM_blind, fun U hU hW2 => ⟨rfl, (by
      rw [hU]
      intro j q hq
      cases j with
      | zero =>
        cases hq
        show va_at (wD w) vwCl (wb w + u, encK (wS w u 100012) 100012 u SF) H
        rw [encK_I (show kAI 100012 = true by decide)]
        exact hP k _ hk
      | succ j => cases hq), va_K.moved hW2.alike hK, ⟨fun i j x y hi hj _ => by
        have h1 := (List.getElem?_eq_some_iff.mp hi).1
        have h2 := (List.getElem?_eq_some_iff.mp hj).1
        have h1 : i < 1 := h1
        have h2 : j < 1 := h2
        omega, fun j q hq => by
        cases j with
        | zero => cases hq; exact ⟨u, List.mem_singleton.mpr rfl, rfl⟩
        | succ j => cases hq⟩, fun t ht h => absurd (show (100012 : Nat) = 3 from h) (by decide), StrW_to (w := wS w u 100012) (s := s) hStr hS hA hU hW2, WOK_s w hu⟩⟩
  have hGs := good_callS (c' := 319) rfl h2 h5
  have hRm : (rmD 0).frames + 1 ≤ R.frames ∧ 8 + (mxL 319 + 11) + (rmD 0).locals ≤ R.locals := ⟨hfr, Nat.le_trans (show 8 + (mxL 319 + 11) + (rmD 0).locals ≤ 64 by decide +kernel) hlo⟩
  have hrun : va_Run p l e R s m args below meth c H locs cells slots 0 0 (F0 m pc ls (.int (-1) :: .ref (wb w + u) :: rest)) rest (QcM (wS w u 100012) (none, filI SF u 12 (-1)) ([.ref (wb w + u), .int (-1)] : List Value).toArray) (A1 (wS w u 100012)) :=
    va_runS (As := [.ref (wb w + u), .int (-1)]) (rest := rest) ⟨hexec, hb, hml, hown, hts⟩ hm ⟨callB_of 2 hts hGs rfl rfl rfl (hts _ h4) (hts _ hlink) ⟨by decide +kernel, by decide +kernel, by decide +kernel⟩ hRm, hts _ h2⟩ hps rfl rfl hls rfl (lv_room hst) hd ⟨by omega, by omega⟩
  intro T hT X
  obtain ⟨v, st₀, t, T', L, h0, X', hL, e1, e2, ⟨hv, hp, hsi, hvr, hz, hkk⟩, st⟩ := hrun T hT X
  have hv2 : v = none := by cases hv; rfl
  subst hv2
  rw [h0] at hz hkk
  have hat : va_at (wD w) vwCl (wb w + u, .inl (w.2.1.1, 12, .inl (fun _ => -1))) T'.heap := by
    have h8 := hp 0 (wb w + u, encK (wS w u 100012) 100012 u (filI SF u 12 (-1))) rfl
    rw [encK_I (show kAI 100012 = true by decide)] at h8
    rw [e1]
    have h9 : va_at (wD w) vwCl (wb w + u, .inl (w.2.1.1, 12, .inl (fun i => (filI SF u 12 (-1)).1 u i))) t.heap := h8
    rw [fil_g u] at h9
    exact h9
  have hP1 : va_P (wD w) vwCl (ws.set k (wb w + u, .inl (w.2.1.1, 12, .inl (fun _ => -1)))) T'.heap := by
    intro j q hq
    by_cases z : j = k
    · subst z
      rw [List.getElem?_set_self (List.getElem?_eq_some_iff.mp hk).1] at hq
      cases hq
      exact hat
    · rw [List.getElem?_set_ne (Ne.symm z)] at hq
      exact (hP j q hq).kept (by rw [e1]; exact hkk q.1 ((hP j q hq).lt) (fun y => z (hD.1 j k q _ hq hk (hA1 _ y))))
  obtain ⟨t2, a1, b1⟩ := kk T'.heap (locs ++ L) hP1 (hD.set hk) ⟨Nat.le_trans hS.1 (by rw [e1]; exact hz), fun q h1 h2 => by rw [e1, hkk q (Nat.lt_of_lt_of_le h1 hS.1) (fun z => h2 (hA q z))]; exact hS.2.1 q h1 h2, fun q hq => by
      rcases List.mem_append.mp hq with h | h
      · exact hS.2.2 q h
      · exact hA _ (hL q h)⟩ T' rfl X'
  exact ⟨t2, st t2 a1, b1⟩
end FL
/-! the pages' block -/
set_option maxRecDepth 100000 in
theorem pg_k : ∀ t : Fin 541, isPG t.1 = true → (K0 t.1 = 1 ∧ K0 (t.1 + 1) = 100012 ∧ K0 (t.1 + 2) = 100012 ∧ K0 (t.1 + 3) = 100192 ∧ K0 (t.1 + 4) = 100192 ∧ K0 (t.1 + 5) = 100025 ∧ K0 (t.1 + 6) = 100012) ∧ ∀ j : Fin 6, isPG (t.1 + 1 + j.1) = false ∧ ¬ t.1 + 1 + j.1 = 1 ∧ ¬ (t.1 + 1 + j.1 = 27 ∨ t.1 + 1 + j.1 = 248) ∧ ¬ t.1 + 1 + j.1 = 524 ∧ ¬ (t.1 + 1 + j.1 = 525 ∨ t.1 + 1 + j.1 = 526) := by decide +kernel
theorem isPG_lt {t : Nat} (h : isPG t = true) : t < 541 := by
  unfold isPG at h
  simp only [Bool.or_eq_true, Bool.and_eq_true, Nat.beq_eq, Nat.ble_eq] at h
  omega
theorem S0_pg {t : Nat} (h : isPG t = true) : S0c t 0 = 0 ∧ S0c t 1 = 503 ∧ S0c t 2 = 0 ∧ S0c t 3 = -1 ∧ S0c t 4 = -1 ∧ S0c t 5 = 0 ∧ S0c t 6 = 0 := by
  unfold S0c
  rw [if_pos h, if_pos h, if_pos h, if_pos h, if_pos h, if_pos h, if_pos h]
  exact ⟨rfl, rfl, rfl, rfl, rfl, rfl, rfl⟩
theorem S0_p1 {t : Nat} (h : isPG t = true) : S0c (t + 1) = fun _ => -1 := funext fun i => by
  have k := (pg_k ⟨t, isPG_lt h⟩ h).2 ⟨0, by decide⟩
  have k1 : isPG (t + 1) = false := k.1
  unfold S0c
  rw [k1, if_neg (by decide), Nat.add_sub_cancel, if_pos h]
theorem S0_pj {t : Nat} (h : isPG t = true) {j : Nat} (h2 : 2 ≤ j) (h6 : j ≤ 6) : S0c (t + j) = fun _ => 0 := funext fun i => by
  have k := (pg_k ⟨t, isPG_lt h⟩ h).2 ⟨j - 1, by omega⟩
  have k' := (pg_k ⟨t, isPG_lt h⟩ h).2 ⟨j - 2, by omega⟩
  dsimp only at k k'
  rw [show t + 1 + (j - 1) = t + j by omega] at k
  rw [show t + 1 + (j - 2) = t + j - 1 by omega] at k'
  unfold S0c
  rw [k.1, k'.1, if_neg (by decide), if_neg (by decide), if_neg k.2.1, if_neg k.2.2.1, if_neg k.2.2.2.1, if_neg k.2.2.2.2]
theorem blk_X1 (w : WT) {t : Nat} (ht : isPG t = true) : blk w t 7 = [(wb w + t, .inr (1, [.int (0), .int (503), .int (0), .int (-1), .int (-1), .int (0), .int (0), .ref (wb w + (t + 1)), .ref (wb w + (t + 2)), .ref (wb w + (t + 3)), .ref (wb w + (t + 4)), .ref (wb w + (t + 5)), .ref (wb w + (t + 6))])), (wb w + (t + 1), .inl (w.2.1.1, 12, .inl (fun _ => -1))), (wb w + (t + 2), .inl (w.2.1.1, 12, .inl (fun _ => 0))), (wb w + (t + 3), .inl (w.2.1.1, 192, .inl (fun _ => 0))), (wb w + (t + 4), .inl (w.2.1.1, 192, .inl (fun _ => 0))), (wb w + (t + 5), .inl (w.2.1.1, 25, .inl (fun _ => 0))), (wb w + (t + 6), .inl (w.2.1.1, 12, .inl (fun _ => 0)))] := by
  obtain ⟨k0, k1, k2, k3, k4, k5, k6⟩ := (pg_k ⟨t, isPG_lt ht⟩ ht).1
  obtain ⟨s0, s1, s2, s3, s4, s5, s6⟩ := S0_pg ht
  dsimp only at k0 k1 k2 k3 k4 k5 k6
  show [(wb w + t, encK w (K0 t) t S00), (wb w + (t + 1), encK w (K0 (t + 1)) (t + 1) S00), (wb w + (t + 2), encK w (K0 (t + 2)) (t + 2) S00), (wb w + (t + 3), encK w (K0 (t + 3)) (t + 3) S00), (wb w + (t + 4), encK w (K0 (t + 4)) (t + 4) S00), (wb w + (t + 5), encK w (K0 (t + 5)) (t + 5) S00), (wb w + (t + 6), encK w (K0 (t + 6)) (t + 6) S00)] = _
  have f0 : flds (wb w) t S00 1 = [.int (S0c t 0), .int (S0c t 1), .int (S0c t 2), .int (S0c t 3), .int (S0c t 4), .int (S0c t 5), .int (S0c t 6), .ref (wb w + (t + 1)), .ref (wb w + (t + 2)), .ref (wb w + (t + 3)), .ref (wb w + (t + 4)), .ref (wb w + (t + 5)), .ref (wb w + (t + 6))] := rfl
  have e : ∀ j, (fun i => S00.1 (t + j) i) = S0c (t + j) := fun j => rfl
  rw [k0, k1, k2, k3, k4, k5, k6, encK_8 (by decide), f0, encK_I (by decide), encK_I (by decide), encK_I (by decide), encK_I (by decide), encK_I (by decide), encK_I (by decide), e 1, e 2, e 3, e 4, e 5, e 6, S0_p1 ht, S0_pj ht (j := 2) (by omega) (by omega), S0_pj ht (j := 3) (by omega) (by omega), S0_pj ht (j := 4) (by omega) (by omega), S0_pj ht (j := 5) (by omega) (by omega), S0_pj ht (j := 6) (by omega) (by omega), s0, s1, s2, s3, s4, s5, s6]
/-! the pages, made -/
theorem wz6 : (Jvm.Cond.initialized "java/util/Arrays") ∈ lw_good := wt_1 (i := 6) (by decide +kernel) rfl
theorem wz129 : (Jvm.Cond.methodLink "MeshedPages$Pages" (3 : Nat) ({ cls := "java/lang/Object", name := "<init>", desc := "()V" } : Jvm.MethodName)) ∈ lw_good := wt_1 (i := 129) (by decide +kernel) rfl
theorem wz130 : (Jvm.Cond.methodLink "MeshedPages$Pages" (52 : Nat) ({ cls := "java/util/Arrays", name := "fill", desc := "([II)V" } : Jvm.MethodName)) ∈ lw_good := wt_1 (i := 130) (by decide +kernel) rfl
theorem wz131 : (Jvm.Cond.static ({ cls := "java/util/Arrays", name := "fill", desc := "([II)V" } : Jvm.MethodName)) ∈ lw_good := wt_1 (i := 131) (by decide +kernel) rfl
theorem wz132 : (Jvm.Cond.code ({ cls := "java/util/Arrays", name := "fill", desc := "([II)V" } : Jvm.MethodName) prog_17_method_103_code (4 : Nat) (Option.none : Option Jvm.ClassFile.FieldType)) ∈ lw_good := wt_1 (i := 132) (by decide +kernel) rfl
theorem wz133 : (Jvm.Cond.fieldLink "MeshedPages$Pages" (9 : Nat) "MeshedPages$Pages" "day" "I") ∈ lw_good := wt_1 (i := 133) (by decide +kernel) rfl
theorem wz136 : (Jvm.Cond.fieldLink "MeshedPages$Pages" (15 : Nat) "MeshedPages$Pages" "x" "I") ∈ lw_good := wt_1 (i := 136) (by decide +kernel) rfl
theorem wz138 : (Jvm.Cond.fieldLink "MeshedPages$Pages" (18 : Nat) "MeshedPages$Pages" "meshed" "I") ∈ lw_good := wt_1 (i := 138) (by decide +kernel) rfl
theorem wz140 : (Jvm.Cond.fieldLink "MeshedPages$Pages" (21 : Nat) "MeshedPages$Pages" "goes" "I") ∈ lw_good := wt_1 (i := 140) (by decide +kernel) rfl
theorem wz142 : (Jvm.Cond.fieldLink "MeshedPages$Pages" (24 : Nat) "MeshedPages$Pages" "stays" "I") ∈ lw_good := wt_1 (i := 142) (by decide +kernel) rfl
theorem wz143 : (Jvm.Cond.fieldLink "MeshedPages$Pages" (27 : Nat) "MeshedPages$Pages" "moved" "I") ∈ lw_good := wt_1 (i := 143) (by decide +kernel) rfl
theorem wz144 : (Jvm.Cond.fieldLink "MeshedPages$Pages" (30 : Nat) "MeshedPages$Pages" "lines" "I") ∈ lw_good := wt_1 (i := 144) (by decide +kernel) rfl
theorem wz146 : (Jvm.Cond.fieldLink "MeshedPages$Pages" (33 : Nat) "MeshedPages$Pages" "frameOf" "[I") ∈ lw_good := wt_1 (i := 146) (by decide +kernel) rfl
theorem wz149 : (Jvm.Cond.fieldLink "MeshedPages$Pages" (37 : Nat) "MeshedPages$Pages" "live" "[I") ∈ lw_good := wt_1 (i := 149) (by decide +kernel) rfl
theorem wz152 : (Jvm.Cond.fieldLink "MeshedPages$Pages" (40 : Nat) "MeshedPages$Pages" "vectors" "[I") ∈ lw_good := wt_1 (i := 152) (by decide +kernel) rfl
theorem wz154 : (Jvm.Cond.fieldLink "MeshedPages$Pages" (43 : Nat) "MeshedPages$Pages" "values" "[I") ∈ lw_good := wt_1 (i := 154) (by decide +kernel) rfl
theorem wz155 : (Jvm.Cond.fieldLink "MeshedPages$Pages" (46 : Nat) "MeshedPages$Pages" "book" "[I") ∈ lw_good := wt_1 (i := 155) (by decide +kernel) rfl
theorem wz157 : (Jvm.Cond.fieldLink "MeshedPages$Pages" (49 : Nat) "MeshedPages$Pages" "row" "[I") ∈ lw_good := wt_1 (i := 157) (by decide +kernel) rfl
set_option maxHeartbeats 4000000 in
set_option maxRecDepth 100000 in
theorem ct_X1 (w : WT) (l : Launch) (t : Nat) (ht : isPG t = true) : Met l yX1_init (wsJ yX1_init cX1_init 1 none) (rmI 3 6 445) (PcI w t 1 [.int 0, .int 0, .int 0, .int 0, .int 0, .int 0, .int 0, .null, .null, .null, .null, .null, .null]) (QcI w t 7) 6 445 (fun q => wb w + t ≤ q) := by
  refine Met.ofW (cc := cX1_init) (maxL := 1) (ret := none) (by decide +kernel) rfl ?_
  intro p e s m args below meth c s₁ B hml hv
  obtain ⟨rfl, hsz, hP, hK, hNW, hStr⟩ := hv
  have hx := B.exec
  have hb := B.bytes
  have hr := B.returns
  have hlocks : meth.locks = false := B.notSynchronized
  have hown : s.vm.findClass RX1 = some m.cls := findClass_of_methodNamed B.named
  have hin : meth.name = "<init>" := (name_of_methodNamed B.named B.method).1
  have hts0 := atoms_spec (ws := wsJ yX1_init cX1_init 1 none) B.pre
  have hts : ∀ x ∈ lw_good, x.before ([.ref (wb w + t)] : List Value).toArray s = true := fun x hx => hts0 x (List.mem_cons_of_mem _ hx)
  generalize hAe : (fun q : Nat => wb w + t ≤ q) = A at hStr ⊢
  have hA : ∀ q : Nat, s.heap.size ≤ q → A q := fun q h => by rw [← hAe]; dsimp only; omega
  have hA0 : A (wb w + t) := by rw [← hAe]; exact Nat.le_refl _
  have hS : va_S A s.heap s.heap [] := va_S.rf
  have hD : va_D A ([(wb w + t, .inr (1, [.int 0, .int 0, .int 0, .int 0, .int 0, .int 0, .int 0, .null, .null, .null, .null, .null, .null]))]) := ⟨fun i j p q hi hj _ => by
    have h1 := (List.getElem?_eq_some_iff.mp hi).1
    have h2 := (List.getElem?_eq_some_iff.mp hj).1
    simp only [List.length_cons, List.length_nil] at h1 h2
    omega, fun k q hk => by
    have h1 := (List.getElem?_eq_some_iff.mp hk).1
    simp only [List.length_cons, List.length_nil] at h1
    rw [show k = 0 by omega] at hk
    cases hk
    exact hA0⟩
  have hl := lv_entry ([.ref (wb w + t)]) (n := 1) (Nat.le_of_ble_eq_true rfl)
  rw [lg_entry_eq]
  generalize (lg_sl ([.ref (wb w + t)]) ++ List.replicate (1 - (lg_sl ([.ref (wb w + t)])).length) Slot.unset).toArray = ls at hl ⊢
  have hl : lv_has ls 1 [(0, .ref (wb w + t))] := hl
  generalize hH0 : s.heap = H at hP ⊢
  have hS : va_S A s.heap H [] := by
    have h9 := hS
    rw [hH0] at h9 ⊢
    exact h9
  refine lv_aload_n hx hb (show decode cX1_init 0 = .ok (.aload_n 0, 1) by decide +kernel) rfl (lv_at hl 0 rfl) ?_
  refine W.objInit hx hb hown (hts _ wz129) (hts _ wz24) (hts _ wz25) rfl (by rw [hml]; exact hl.1) rfl (show decode cX1_init 1 = .ok (.invokespecial 3, 3) by decide +kernel) (Nat.le_of_ble_eq_true rfl) (Nat.le_of_ble_eq_true rfl) ?_
  refine W.eq (g2 := F0 m 4 ls []) rfl ?_
  refine lv_aload_n hx hb (show decode cX1_init 4 = .ok (.aload_n 0, 1) by decide +kernel) rfl (lv_at hl 0 rfl) ?_
  refine lv_iconst (v := 0) hx hb (show decode cX1_init 5 = .ok (.iconst 0, 1) by decide +kernel) (by decide) ?_
  refine va_put (D := wD w) (ci := 1) (v := .int (0)) (ty := .int) (C := RX1) (T := TX1) (N := 13) hx hb hts inX1g tyX1 tyX1_ok nmX1 hown hK hP hD hS 0 rfl rfl 0 (by decide) (hts _ wz133) (fun _ h9 => h9) rfl (by decide +kernel) rfl rfl (Nat.le_of_ble_eq_true rfl) (show decode cX1_init 6 = .ok (.putfield 9, 3) by decide +kernel) (fun H locs hP hD hS => ?_)
  have hP : va_P (wD w) vwCl ([(wb w + t, .inr (1, [.int (0), .int 0, .int 0, .int 0, .int 0, .int 0, .int 0, .null, .null, .null, .null, .null, .null]))]) H := hP
  have hD : va_D A ([(wb w + t, .inr (1, [.int (0), .int 0, .int 0, .int 0, .int 0, .int 0, .int 0, .null, .null, .null, .null, .null, .null]))]) := hD
  refine lv_aload_n hx hb (show decode cX1_init 9 = .ok (.aload_n 0, 1) by decide +kernel) rfl (lv_at hl 0 rfl) ?_
  refine lv_sipush (v := 503) hx hb (show decode cX1_init 10 = .ok (.sipush 503, 3) by decide +kernel) (by decide) ?_
  refine va_put (D := wD w) (ci := 1) (v := .int (503)) (ty := .int) (C := RX1) (T := TX1) (N := 13) hx hb hts inX1g tyX1 tyX1_ok nmX1 hown hK hP hD hS 0 rfl rfl 1 (by decide) (hts _ wz136) (fun _ h9 => h9) rfl (by decide +kernel) rfl rfl (Nat.le_of_ble_eq_true rfl) (show decode cX1_init 13 = .ok (.putfield 15, 3) by decide +kernel) (fun H locs hP hD hS => ?_)
  have hP : va_P (wD w) vwCl ([(wb w + t, .inr (1, [.int (0), .int (503), .int 0, .int 0, .int 0, .int 0, .int 0, .null, .null, .null, .null, .null, .null]))]) H := hP
  have hD : va_D A ([(wb w + t, .inr (1, [.int (0), .int (503), .int 0, .int 0, .int 0, .int 0, .int 0, .null, .null, .null, .null, .null, .null]))]) := hD
  refine lv_aload_n hx hb (show decode cX1_init 16 = .ok (.aload_n 0, 1) by decide +kernel) rfl (lv_at hl 0 rfl) ?_
  refine lv_iconst (v := 0) hx hb (show decode cX1_init 17 = .ok (.iconst 0, 1) by decide +kernel) (by decide) ?_
  refine va_put (D := wD w) (ci := 1) (v := .int (0)) (ty := .int) (C := RX1) (T := TX1) (N := 13) hx hb hts inX1g tyX1 tyX1_ok nmX1 hown hK hP hD hS 0 rfl rfl 2 (by decide) (hts _ wz138) (fun _ h9 => h9) rfl (by decide +kernel) rfl rfl (Nat.le_of_ble_eq_true rfl) (show decode cX1_init 18 = .ok (.putfield 18, 3) by decide +kernel) (fun H locs hP hD hS => ?_)
  have hP : va_P (wD w) vwCl ([(wb w + t, .inr (1, [.int (0), .int (503), .int (0), .int 0, .int 0, .int 0, .int 0, .null, .null, .null, .null, .null, .null]))]) H := hP
  have hD : va_D A ([(wb w + t, .inr (1, [.int (0), .int (503), .int (0), .int 0, .int 0, .int 0, .int 0, .null, .null, .null, .null, .null, .null]))]) := hD
  refine lv_aload_n hx hb (show decode cX1_init 21 = .ok (.aload_n 0, 1) by decide +kernel) rfl (lv_at hl 0 rfl) ?_
  refine lv_iconst (v := -1) hx hb (show decode cX1_init 22 = .ok (.iconst (-1), 1) by decide +kernel) (by decide) ?_
  refine va_put (D := wD w) (ci := 1) (v := .int (-1)) (ty := .int) (C := RX1) (T := TX1) (N := 13) hx hb hts inX1g tyX1 tyX1_ok nmX1 hown hK hP hD hS 0 rfl rfl 3 (by decide) (hts _ wz140) (fun _ h9 => h9) rfl (by decide +kernel) rfl rfl (Nat.le_of_ble_eq_true rfl) (show decode cX1_init 23 = .ok (.putfield 21, 3) by decide +kernel) (fun H locs hP hD hS => ?_)
  have hP : va_P (wD w) vwCl ([(wb w + t, .inr (1, [.int (0), .int (503), .int (0), .int (-1), .int 0, .int 0, .int 0, .null, .null, .null, .null, .null, .null]))]) H := hP
  have hD : va_D A ([(wb w + t, .inr (1, [.int (0), .int (503), .int (0), .int (-1), .int 0, .int 0, .int 0, .null, .null, .null, .null, .null, .null]))]) := hD
  refine lv_aload_n hx hb (show decode cX1_init 26 = .ok (.aload_n 0, 1) by decide +kernel) rfl (lv_at hl 0 rfl) ?_
  refine lv_iconst (v := -1) hx hb (show decode cX1_init 27 = .ok (.iconst (-1), 1) by decide +kernel) (by decide) ?_
  refine va_put (D := wD w) (ci := 1) (v := .int (-1)) (ty := .int) (C := RX1) (T := TX1) (N := 13) hx hb hts inX1g tyX1 tyX1_ok nmX1 hown hK hP hD hS 0 rfl rfl 4 (by decide) (hts _ wz142) (fun _ h9 => h9) rfl (by decide +kernel) rfl rfl (Nat.le_of_ble_eq_true rfl) (show decode cX1_init 28 = .ok (.putfield 24, 3) by decide +kernel) (fun H locs hP hD hS => ?_)
  have hP : va_P (wD w) vwCl ([(wb w + t, .inr (1, [.int (0), .int (503), .int (0), .int (-1), .int (-1), .int 0, .int 0, .null, .null, .null, .null, .null, .null]))]) H := hP
  have hD : va_D A ([(wb w + t, .inr (1, [.int (0), .int (503), .int (0), .int (-1), .int (-1), .int 0, .int 0, .null, .null, .null, .null, .null, .null]))]) := hD
  refine lv_aload_n hx hb (show decode cX1_init 31 = .ok (.aload_n 0, 1) by decide +kernel) rfl (lv_at hl 0 rfl) ?_
  refine lv_iconst (v := 0) hx hb (show decode cX1_init 32 = .ok (.iconst 0, 1) by decide +kernel) (by decide) ?_
  refine va_put (D := wD w) (ci := 1) (v := .int (0)) (ty := .int) (C := RX1) (T := TX1) (N := 13) hx hb hts inX1g tyX1 tyX1_ok nmX1 hown hK hP hD hS 0 rfl rfl 5 (by decide) (hts _ wz143) (fun _ h9 => h9) rfl (by decide +kernel) rfl rfl (Nat.le_of_ble_eq_true rfl) (show decode cX1_init 33 = .ok (.putfield 27, 3) by decide +kernel) (fun H locs hP hD hS => ?_)
  have hP : va_P (wD w) vwCl ([(wb w + t, .inr (1, [.int (0), .int (503), .int (0), .int (-1), .int (-1), .int (0), .int 0, .null, .null, .null, .null, .null, .null]))]) H := hP
  have hD : va_D A ([(wb w + t, .inr (1, [.int (0), .int (503), .int (0), .int (-1), .int (-1), .int (0), .int 0, .null, .null, .null, .null, .null, .null]))]) := hD
  refine lv_aload_n hx hb (show decode cX1_init 36 = .ok (.aload_n 0, 1) by decide +kernel) rfl (lv_at hl 0 rfl) ?_
  refine lv_iconst (v := 0) hx hb (show decode cX1_init 37 = .ok (.iconst 0, 1) by decide +kernel) (by decide) ?_
  refine va_put (D := wD w) (ci := 1) (v := .int (0)) (ty := .int) (C := RX1) (T := TX1) (N := 13) hx hb hts inX1g tyX1 tyX1_ok nmX1 hown hK hP hD hS 0 rfl rfl 6 (by decide) (hts _ wz144) (fun _ h9 => h9) rfl (by decide +kernel) rfl rfl (Nat.le_of_ble_eq_true rfl) (show decode cX1_init 38 = .ok (.putfield 30, 3) by decide +kernel) (fun H locs hP hD hS => ?_)
  have hP : va_P (wD w) vwCl ([(wb w + t, .inr (1, [.int (0), .int (503), .int (0), .int (-1), .int (-1), .int (0), .int (0), .null, .null, .null, .null, .null, .null]))]) H := hP
  have hD : va_D A ([(wb w + t, .inr (1, [.int (0), .int (503), .int (0), .int (-1), .int (-1), .int (0), .int (0), .null, .null, .null, .null, .null, .null]))]) := hD
  refine lv_aload_n hx hb (show decode cX1_init 41 = .ok (.aload_n 0, 1) by decide +kernel) rfl (lv_at hl 0 rfl) ?_
  refine lv_bipush (v := 12) hx hb (show decode cX1_init 42 = .ok (.bipush 12, 2) by decide +kernel) (by decide) ?_
  have hlow : s.heap.size + 0 ≤ H.size := hS.1
  refine W_size hlow (fun hz => ?_)
  refine vn_newa (atype := .int) (a0 := (12, .inl g12)) (cA := w.2.1.1) (N' := 12) (ty := .int) hx hb (hts _ wz77) rfl hP hD hS hA (hK.2 0 _ rfl).2 (g12_0 _) (by decide) (by decide) (by decide) (Nat.le_of_ble_eq_true rfl) (Nat.le_of_ble_eq_true rfl) (show decode cX1_init 44 = .ok (.newarray .int, 2) by decide +kernel) (z := wb w + (t + 1)) (by omega) (fun H hP hD hS hz1 => ?_)
  have hP : va_P (wD w) vwCl ([(wb w + t, .inr (1, [.int (0), .int (503), .int (0), .int (-1), .int (-1), .int (0), .int (0), .null, .null, .null, .null, .null, .null])), (wb w + (t + 1), .inl (w.2.1.1, 12, .inl g12))]) H := hP
  have hD : va_D A ([(wb w + t, .inr (1, [.int (0), .int (503), .int (0), .int (-1), .int (-1), .int (0), .int (0), .null, .null, .null, .null, .null, .null])), (wb w + (t + 1), .inl (w.2.1.1, 12, .inl g12))]) := hD
  clear hlow hz hz1
  refine W.widen (k := 1) (n := 12) (by omega) (by omega) ?_
  refine va_putF (D := wD w) (ci := 1) (v := .ref (wb w + (t + 1))) (ty := .array .int) (C := RX1) (T := TX1) (N := 13) hx hb hts inX1g tyX1 tyX1_ok nmX1 hown hK hP hD hS 0 rfl rfl 7 (by decide) (hts _ wz146) (fun _ h9 => h9) rfl hin rfl (by decide +kernel) rfl rfl (Nat.le_of_ble_eq_true rfl) (show decode cX1_init 46 = .ok (.putfield 33, 3) by decide +kernel) (fun H locs hP hD hS => ?_)
  have hP : va_P (wD w) vwCl ([(wb w + t, .inr (1, [.int (0), .int (503), .int (0), .int (-1), .int (-1), .int (0), .int (0), .ref (wb w + (t + 1)), .null, .null, .null, .null, .null])), (wb w + (t + 1), .inl (w.2.1.1, 12, .inl g12))]) H := hP
  have hD : va_D A ([(wb w + t, .inr (1, [.int (0), .int (503), .int (0), .int (-1), .int (-1), .int (0), .int (0), .ref (wb w + (t + 1)), .null, .null, .null, .null, .null])), (wb w + (t + 1), .inl (w.2.1.1, 12, .inl g12))]) := hD
  refine lv_aload_n hx hb (show decode cX1_init 49 = .ok (.aload_n 0, 1) by decide +kernel) rfl (lv_at hl 0 rfl) ?_
  refine lv_bipush (v := 12) hx hb (show decode cX1_init 50 = .ok (.bipush 12, 2) by decide +kernel) (by decide) ?_
  have hlow : s.heap.size + 1 ≤ H.size := by have := (hP 1 _ rfl).lt; dsimp only at this; omega
  refine W_size hlow (fun hz => ?_)
  refine vn_newa (atype := .int) (a0 := (12, .inl (fun _ => 0))) (cA := w.2.1.1) (N' := 12) (ty := .int) hx hb (hts _ wz77) rfl hP hD hS hA (hK.2 0 _ rfl).2 rfl (by decide) (by decide) (by decide) (Nat.le_of_ble_eq_true rfl) (Nat.le_of_ble_eq_true rfl) (show decode cX1_init 52 = .ok (.newarray .int, 2) by decide +kernel) (z := wb w + (t + 2)) (by omega) (fun H hP hD hS hz1 => ?_)
  have hP : va_P (wD w) vwCl ([(wb w + t, .inr (1, [.int (0), .int (503), .int (0), .int (-1), .int (-1), .int (0), .int (0), .ref (wb w + (t + 1)), .null, .null, .null, .null, .null])), (wb w + (t + 1), .inl (w.2.1.1, 12, .inl g12)), (wb w + (t + 2), .inl (w.2.1.1, 12, .inl (fun _ => 0)))]) H := hP
  have hD : va_D A ([(wb w + t, .inr (1, [.int (0), .int (503), .int (0), .int (-1), .int (-1), .int (0), .int (0), .ref (wb w + (t + 1)), .null, .null, .null, .null, .null])), (wb w + (t + 1), .inl (w.2.1.1, 12, .inl g12)), (wb w + (t + 2), .inl (w.2.1.1, 12, .inl (fun _ => 0)))]) := hD
  clear hlow hz hz1
  refine W.widen (k := 2) (n := 24) (by omega) (by omega) ?_
  refine va_putF (D := wD w) (ci := 1) (v := .ref (wb w + (t + 2))) (ty := .array .int) (C := RX1) (T := TX1) (N := 13) hx hb hts inX1g tyX1 tyX1_ok nmX1 hown hK hP hD hS 0 rfl rfl 8 (by decide) (hts _ wz149) (fun _ h9 => h9) rfl hin rfl (by decide +kernel) rfl rfl (Nat.le_of_ble_eq_true rfl) (show decode cX1_init 54 = .ok (.putfield 37, 3) by decide +kernel) (fun H locs hP hD hS => ?_)
  have hP : va_P (wD w) vwCl ([(wb w + t, .inr (1, [.int (0), .int (503), .int (0), .int (-1), .int (-1), .int (0), .int (0), .ref (wb w + (t + 1)), .ref (wb w + (t + 2)), .null, .null, .null, .null])), (wb w + (t + 1), .inl (w.2.1.1, 12, .inl g12)), (wb w + (t + 2), .inl (w.2.1.1, 12, .inl (fun _ => 0)))]) H := hP
  have hD : va_D A ([(wb w + t, .inr (1, [.int (0), .int (503), .int (0), .int (-1), .int (-1), .int (0), .int (0), .ref (wb w + (t + 1)), .ref (wb w + (t + 2)), .null, .null, .null, .null])), (wb w + (t + 1), .inl (w.2.1.1, 12, .inl g12)), (wb w + (t + 2), .inl (w.2.1.1, 12, .inl (fun _ => 0)))]) := hD
  refine lv_aload_n hx hb (show decode cX1_init 57 = .ok (.aload_n 0, 1) by decide +kernel) rfl (lv_at hl 0 rfl) ?_
  refine lv_sipush (v := 192) hx hb (show decode cX1_init 58 = .ok (.sipush 192, 3) by decide +kernel) (by decide) ?_
  have hlow : s.heap.size + 2 ≤ H.size := by have := (hP 2 _ rfl).lt; dsimp only at this; omega
  refine W_size hlow (fun hz => ?_)
  refine vn_newa (atype := .int) (a0 := (192, .inl (fun _ => 0))) (cA := w.2.1.1) (N' := 192) (ty := .int) hx hb (hts _ wz77) rfl hP hD hS hA (hK.2 0 _ rfl).2 rfl (by decide) (by decide) (by decide) (Nat.le_of_ble_eq_true rfl) (Nat.le_of_ble_eq_true rfl) (show decode cX1_init 61 = .ok (.newarray .int, 2) by decide +kernel) (z := wb w + (t + 3)) (by omega) (fun H hP hD hS hz1 => ?_)
  have hP : va_P (wD w) vwCl ([(wb w + t, .inr (1, [.int (0), .int (503), .int (0), .int (-1), .int (-1), .int (0), .int (0), .ref (wb w + (t + 1)), .ref (wb w + (t + 2)), .null, .null, .null, .null])), (wb w + (t + 1), .inl (w.2.1.1, 12, .inl g12)), (wb w + (t + 2), .inl (w.2.1.1, 12, .inl (fun _ => 0))), (wb w + (t + 3), .inl (w.2.1.1, 192, .inl (fun _ => 0)))]) H := hP
  have hD : va_D A ([(wb w + t, .inr (1, [.int (0), .int (503), .int (0), .int (-1), .int (-1), .int (0), .int (0), .ref (wb w + (t + 1)), .ref (wb w + (t + 2)), .null, .null, .null, .null])), (wb w + (t + 1), .inl (w.2.1.1, 12, .inl g12)), (wb w + (t + 2), .inl (w.2.1.1, 12, .inl (fun _ => 0))), (wb w + (t + 3), .inl (w.2.1.1, 192, .inl (fun _ => 0)))]) := hD
  clear hlow hz hz1
  refine W.widen (k := 3) (n := 216) (by omega) (by omega) ?_
  refine va_putF (D := wD w) (ci := 1) (v := .ref (wb w + (t + 3))) (ty := .array .int) (C := RX1) (T := TX1) (N := 13) hx hb hts inX1g tyX1 tyX1_ok nmX1 hown hK hP hD hS 0 rfl rfl 9 (by decide) (hts _ wz152) (fun _ h9 => h9) rfl hin rfl (by decide +kernel) rfl rfl (Nat.le_of_ble_eq_true rfl) (show decode cX1_init 63 = .ok (.putfield 40, 3) by decide +kernel) (fun H locs hP hD hS => ?_)
  have hP : va_P (wD w) vwCl ([(wb w + t, .inr (1, [.int (0), .int (503), .int (0), .int (-1), .int (-1), .int (0), .int (0), .ref (wb w + (t + 1)), .ref (wb w + (t + 2)), .ref (wb w + (t + 3)), .null, .null, .null])), (wb w + (t + 1), .inl (w.2.1.1, 12, .inl g12)), (wb w + (t + 2), .inl (w.2.1.1, 12, .inl (fun _ => 0))), (wb w + (t + 3), .inl (w.2.1.1, 192, .inl (fun _ => 0)))]) H := hP
  have hD : va_D A ([(wb w + t, .inr (1, [.int (0), .int (503), .int (0), .int (-1), .int (-1), .int (0), .int (0), .ref (wb w + (t + 1)), .ref (wb w + (t + 2)), .ref (wb w + (t + 3)), .null, .null, .null])), (wb w + (t + 1), .inl (w.2.1.1, 12, .inl g12)), (wb w + (t + 2), .inl (w.2.1.1, 12, .inl (fun _ => 0))), (wb w + (t + 3), .inl (w.2.1.1, 192, .inl (fun _ => 0)))]) := hD
  refine lv_aload_n hx hb (show decode cX1_init 66 = .ok (.aload_n 0, 1) by decide +kernel) rfl (lv_at hl 0 rfl) ?_
  refine lv_sipush (v := 192) hx hb (show decode cX1_init 67 = .ok (.sipush 192, 3) by decide +kernel) (by decide) ?_
  have hlow : s.heap.size + 3 ≤ H.size := by have := (hP 3 _ rfl).lt; dsimp only at this; omega
  refine W_size hlow (fun hz => ?_)
  refine vn_newa (atype := .int) (a0 := (192, .inl (fun _ => 0))) (cA := w.2.1.1) (N' := 192) (ty := .int) hx hb (hts _ wz77) rfl hP hD hS hA (hK.2 0 _ rfl).2 rfl (by decide) (by decide) (by decide) (Nat.le_of_ble_eq_true rfl) (Nat.le_of_ble_eq_true rfl) (show decode cX1_init 70 = .ok (.newarray .int, 2) by decide +kernel) (z := wb w + (t + 4)) (by omega) (fun H hP hD hS hz1 => ?_)
  have hP : va_P (wD w) vwCl ([(wb w + t, .inr (1, [.int (0), .int (503), .int (0), .int (-1), .int (-1), .int (0), .int (0), .ref (wb w + (t + 1)), .ref (wb w + (t + 2)), .ref (wb w + (t + 3)), .null, .null, .null])), (wb w + (t + 1), .inl (w.2.1.1, 12, .inl g12)), (wb w + (t + 2), .inl (w.2.1.1, 12, .inl (fun _ => 0))), (wb w + (t + 3), .inl (w.2.1.1, 192, .inl (fun _ => 0))), (wb w + (t + 4), .inl (w.2.1.1, 192, .inl (fun _ => 0)))]) H := hP
  have hD : va_D A ([(wb w + t, .inr (1, [.int (0), .int (503), .int (0), .int (-1), .int (-1), .int (0), .int (0), .ref (wb w + (t + 1)), .ref (wb w + (t + 2)), .ref (wb w + (t + 3)), .null, .null, .null])), (wb w + (t + 1), .inl (w.2.1.1, 12, .inl g12)), (wb w + (t + 2), .inl (w.2.1.1, 12, .inl (fun _ => 0))), (wb w + (t + 3), .inl (w.2.1.1, 192, .inl (fun _ => 0))), (wb w + (t + 4), .inl (w.2.1.1, 192, .inl (fun _ => 0)))]) := hD
  clear hlow hz hz1
  refine W.widen (k := 4) (n := 408) (by omega) (by omega) ?_
  refine va_putF (D := wD w) (ci := 1) (v := .ref (wb w + (t + 4))) (ty := .array .int) (C := RX1) (T := TX1) (N := 13) hx hb hts inX1g tyX1 tyX1_ok nmX1 hown hK hP hD hS 0 rfl rfl 10 (by decide) (hts _ wz154) (fun _ h9 => h9) rfl hin rfl (by decide +kernel) rfl rfl (Nat.le_of_ble_eq_true rfl) (show decode cX1_init 72 = .ok (.putfield 43, 3) by decide +kernel) (fun H locs hP hD hS => ?_)
  have hP : va_P (wD w) vwCl ([(wb w + t, .inr (1, [.int (0), .int (503), .int (0), .int (-1), .int (-1), .int (0), .int (0), .ref (wb w + (t + 1)), .ref (wb w + (t + 2)), .ref (wb w + (t + 3)), .ref (wb w + (t + 4)), .null, .null])), (wb w + (t + 1), .inl (w.2.1.1, 12, .inl g12)), (wb w + (t + 2), .inl (w.2.1.1, 12, .inl (fun _ => 0))), (wb w + (t + 3), .inl (w.2.1.1, 192, .inl (fun _ => 0))), (wb w + (t + 4), .inl (w.2.1.1, 192, .inl (fun _ => 0)))]) H := hP
  have hD : va_D A ([(wb w + t, .inr (1, [.int (0), .int (503), .int (0), .int (-1), .int (-1), .int (0), .int (0), .ref (wb w + (t + 1)), .ref (wb w + (t + 2)), .ref (wb w + (t + 3)), .ref (wb w + (t + 4)), .null, .null])), (wb w + (t + 1), .inl (w.2.1.1, 12, .inl g12)), (wb w + (t + 2), .inl (w.2.1.1, 12, .inl (fun _ => 0))), (wb w + (t + 3), .inl (w.2.1.1, 192, .inl (fun _ => 0))), (wb w + (t + 4), .inl (w.2.1.1, 192, .inl (fun _ => 0)))]) := hD
  refine lv_aload_n hx hb (show decode cX1_init 75 = .ok (.aload_n 0, 1) by decide +kernel) rfl (lv_at hl 0 rfl) ?_
  refine lv_bipush (v := 25) hx hb (show decode cX1_init 76 = .ok (.bipush 25, 2) by decide +kernel) (by decide) ?_
  have hlow : s.heap.size + 4 ≤ H.size := by have := (hP 4 _ rfl).lt; dsimp only at this; omega
  refine W_size hlow (fun hz => ?_)
  refine vn_newa (atype := .int) (a0 := (25, .inl (fun _ => 0))) (cA := w.2.1.1) (N' := 25) (ty := .int) hx hb (hts _ wz77) rfl hP hD hS hA (hK.2 0 _ rfl).2 rfl (by decide) (by decide) (by decide) (Nat.le_of_ble_eq_true rfl) (Nat.le_of_ble_eq_true rfl) (show decode cX1_init 78 = .ok (.newarray .int, 2) by decide +kernel) (z := wb w + (t + 5)) (by omega) (fun H hP hD hS hz1 => ?_)
  have hP : va_P (wD w) vwCl ([(wb w + t, .inr (1, [.int (0), .int (503), .int (0), .int (-1), .int (-1), .int (0), .int (0), .ref (wb w + (t + 1)), .ref (wb w + (t + 2)), .ref (wb w + (t + 3)), .ref (wb w + (t + 4)), .null, .null])), (wb w + (t + 1), .inl (w.2.1.1, 12, .inl g12)), (wb w + (t + 2), .inl (w.2.1.1, 12, .inl (fun _ => 0))), (wb w + (t + 3), .inl (w.2.1.1, 192, .inl (fun _ => 0))), (wb w + (t + 4), .inl (w.2.1.1, 192, .inl (fun _ => 0))), (wb w + (t + 5), .inl (w.2.1.1, 25, .inl (fun _ => 0)))]) H := hP
  have hD : va_D A ([(wb w + t, .inr (1, [.int (0), .int (503), .int (0), .int (-1), .int (-1), .int (0), .int (0), .ref (wb w + (t + 1)), .ref (wb w + (t + 2)), .ref (wb w + (t + 3)), .ref (wb w + (t + 4)), .null, .null])), (wb w + (t + 1), .inl (w.2.1.1, 12, .inl g12)), (wb w + (t + 2), .inl (w.2.1.1, 12, .inl (fun _ => 0))), (wb w + (t + 3), .inl (w.2.1.1, 192, .inl (fun _ => 0))), (wb w + (t + 4), .inl (w.2.1.1, 192, .inl (fun _ => 0))), (wb w + (t + 5), .inl (w.2.1.1, 25, .inl (fun _ => 0)))]) := hD
  clear hlow hz hz1
  refine W.widen (k := 5) (n := 433) (by omega) (by omega) ?_
  refine va_putF (D := wD w) (ci := 1) (v := .ref (wb w + (t + 5))) (ty := .array .int) (C := RX1) (T := TX1) (N := 13) hx hb hts inX1g tyX1 tyX1_ok nmX1 hown hK hP hD hS 0 rfl rfl 11 (by decide) (hts _ wz155) (fun _ h9 => h9) rfl hin rfl (by decide +kernel) rfl rfl (Nat.le_of_ble_eq_true rfl) (show decode cX1_init 80 = .ok (.putfield 46, 3) by decide +kernel) (fun H locs hP hD hS => ?_)
  have hP : va_P (wD w) vwCl ([(wb w + t, .inr (1, [.int (0), .int (503), .int (0), .int (-1), .int (-1), .int (0), .int (0), .ref (wb w + (t + 1)), .ref (wb w + (t + 2)), .ref (wb w + (t + 3)), .ref (wb w + (t + 4)), .ref (wb w + (t + 5)), .null])), (wb w + (t + 1), .inl (w.2.1.1, 12, .inl g12)), (wb w + (t + 2), .inl (w.2.1.1, 12, .inl (fun _ => 0))), (wb w + (t + 3), .inl (w.2.1.1, 192, .inl (fun _ => 0))), (wb w + (t + 4), .inl (w.2.1.1, 192, .inl (fun _ => 0))), (wb w + (t + 5), .inl (w.2.1.1, 25, .inl (fun _ => 0)))]) H := hP
  have hD : va_D A ([(wb w + t, .inr (1, [.int (0), .int (503), .int (0), .int (-1), .int (-1), .int (0), .int (0), .ref (wb w + (t + 1)), .ref (wb w + (t + 2)), .ref (wb w + (t + 3)), .ref (wb w + (t + 4)), .ref (wb w + (t + 5)), .null])), (wb w + (t + 1), .inl (w.2.1.1, 12, .inl g12)), (wb w + (t + 2), .inl (w.2.1.1, 12, .inl (fun _ => 0))), (wb w + (t + 3), .inl (w.2.1.1, 192, .inl (fun _ => 0))), (wb w + (t + 4), .inl (w.2.1.1, 192, .inl (fun _ => 0))), (wb w + (t + 5), .inl (w.2.1.1, 25, .inl (fun _ => 0)))]) := hD
  refine lv_aload_n hx hb (show decode cX1_init 83 = .ok (.aload_n 0, 1) by decide +kernel) rfl (lv_at hl 0 rfl) ?_
  refine lv_bipush (v := 12) hx hb (show decode cX1_init 84 = .ok (.bipush 12, 2) by decide +kernel) (by decide) ?_
  have hlow : s.heap.size + 5 ≤ H.size := by have := (hP 5 _ rfl).lt; dsimp only at this; omega
  refine W_size hlow (fun hz => ?_)
  refine vn_newa (atype := .int) (a0 := (12, .inl (fun _ => 0))) (cA := w.2.1.1) (N' := 12) (ty := .int) hx hb (hts _ wz77) rfl hP hD hS hA (hK.2 0 _ rfl).2 rfl (by decide) (by decide) (by decide) (Nat.le_of_ble_eq_true rfl) (Nat.le_of_ble_eq_true rfl) (show decode cX1_init 86 = .ok (.newarray .int, 2) by decide +kernel) (z := wb w + (t + 6)) (by omega) (fun H hP hD hS hz1 => ?_)
  have hP : va_P (wD w) vwCl ([(wb w + t, .inr (1, [.int (0), .int (503), .int (0), .int (-1), .int (-1), .int (0), .int (0), .ref (wb w + (t + 1)), .ref (wb w + (t + 2)), .ref (wb w + (t + 3)), .ref (wb w + (t + 4)), .ref (wb w + (t + 5)), .null])), (wb w + (t + 1), .inl (w.2.1.1, 12, .inl g12)), (wb w + (t + 2), .inl (w.2.1.1, 12, .inl (fun _ => 0))), (wb w + (t + 3), .inl (w.2.1.1, 192, .inl (fun _ => 0))), (wb w + (t + 4), .inl (w.2.1.1, 192, .inl (fun _ => 0))), (wb w + (t + 5), .inl (w.2.1.1, 25, .inl (fun _ => 0))), (wb w + (t + 6), .inl (w.2.1.1, 12, .inl (fun _ => 0)))]) H := hP
  have hD : va_D A ([(wb w + t, .inr (1, [.int (0), .int (503), .int (0), .int (-1), .int (-1), .int (0), .int (0), .ref (wb w + (t + 1)), .ref (wb w + (t + 2)), .ref (wb w + (t + 3)), .ref (wb w + (t + 4)), .ref (wb w + (t + 5)), .null])), (wb w + (t + 1), .inl (w.2.1.1, 12, .inl g12)), (wb w + (t + 2), .inl (w.2.1.1, 12, .inl (fun _ => 0))), (wb w + (t + 3), .inl (w.2.1.1, 192, .inl (fun _ => 0))), (wb w + (t + 4), .inl (w.2.1.1, 192, .inl (fun _ => 0))), (wb w + (t + 5), .inl (w.2.1.1, 25, .inl (fun _ => 0))), (wb w + (t + 6), .inl (w.2.1.1, 12, .inl (fun _ => 0)))]) := hD
  clear hlow hz hz1
  refine W.widen (k := 6) (n := 445) (by omega) (by omega) ?_
  refine va_putF (D := wD w) (ci := 1) (v := .ref (wb w + (t + 6))) (ty := .array .int) (C := RX1) (T := TX1) (N := 13) hx hb hts inX1g tyX1 tyX1_ok nmX1 hown hK hP hD hS 0 rfl rfl 12 (by decide) (hts _ wz157) (fun _ h9 => h9) rfl hin rfl (by decide +kernel) rfl rfl (Nat.le_of_ble_eq_true rfl) (show decode cX1_init 88 = .ok (.putfield 49, 3) by decide +kernel) (fun H locs hP hD hS => ?_)
  have hP : va_P (wD w) vwCl ([(wb w + t, .inr (1, [.int (0), .int (503), .int (0), .int (-1), .int (-1), .int (0), .int (0), .ref (wb w + (t + 1)), .ref (wb w + (t + 2)), .ref (wb w + (t + 3)), .ref (wb w + (t + 4)), .ref (wb w + (t + 5)), .ref (wb w + (t + 6))])), (wb w + (t + 1), .inl (w.2.1.1, 12, .inl g12)), (wb w + (t + 2), .inl (w.2.1.1, 12, .inl (fun _ => 0))), (wb w + (t + 3), .inl (w.2.1.1, 192, .inl (fun _ => 0))), (wb w + (t + 4), .inl (w.2.1.1, 192, .inl (fun _ => 0))), (wb w + (t + 5), .inl (w.2.1.1, 25, .inl (fun _ => 0))), (wb w + (t + 6), .inl (w.2.1.1, 12, .inl (fun _ => 0)))]) H := hP
  have hD : va_D A ([(wb w + t, .inr (1, [.int (0), .int (503), .int (0), .int (-1), .int (-1), .int (0), .int (0), .ref (wb w + (t + 1)), .ref (wb w + (t + 2)), .ref (wb w + (t + 3)), .ref (wb w + (t + 4)), .ref (wb w + (t + 5)), .ref (wb w + (t + 6))])), (wb w + (t + 1), .inl (w.2.1.1, 12, .inl g12)), (wb w + (t + 2), .inl (w.2.1.1, 12, .inl (fun _ => 0))), (wb w + (t + 3), .inl (w.2.1.1, 192, .inl (fun _ => 0))), (wb w + (t + 4), .inl (w.2.1.1, 192, .inl (fun _ => 0))), (wb w + (t + 5), .inl (w.2.1.1, 25, .inl (fun _ => 0))), (wb w + (t + 6), .inl (w.2.1.1, 12, .inl (fun _ => 0)))]) := hD
  refine lv_aload_n hx hb (show decode cX1_init 91 = .ok (.aload_n 0, 1) by decide +kernel) rfl (lv_at hl 0 rfl) ?_
  refine va_get (D := wD w) (Ts := lw_good) (C := RX1) (T := TX1) (N := 13) (ci := 1) (v := .ref (wb w + (t + 1))) hx hb hts inX1g hown hK hP 0 rfl rfl 7 (by decide) (hts _ wz146) (fun _ h9 => h9) rfl (show decode cX1_init 92 = .ok (.getfield 33, 3) by decide +kernel) ?_
  refine lv_iconst (v := -1) hx hb (show decode cX1_init 95 = .ok (.iconst (-1), 1) by decide +kernel) (by decide) ?_
  refine vn_fill (w := w) (u := t + 1) (k := 1) hx hb hml hl.1 hown hts hK hStr (by have := isPG_lt ht; omega) hP hD hS rfl wz130 wz131 wz6 wz132 (show decode cX1_init 96 = .ok (.invokestatic 52, 3) by decide +kernel) (Nat.le_of_ble_eq_true rfl) (Nat.le_of_ble_eq_true rfl) (Nat.le_of_ble_eq_true rfl) (Nat.le_of_ble_eq_true rfl) (Nat.le_of_ble_eq_true rfl) (fun H locs hP hD hS => ?_)
  have hP : va_P (wD w) vwCl ([(wb w + t, .inr (1, [.int (0), .int (503), .int (0), .int (-1), .int (-1), .int (0), .int (0), .ref (wb w + (t + 1)), .ref (wb w + (t + 2)), .ref (wb w + (t + 3)), .ref (wb w + (t + 4)), .ref (wb w + (t + 5)), .ref (wb w + (t + 6))])), (wb w + (t + 1), .inl (w.2.1.1, 12, .inl (fun _ => -1))), (wb w + (t + 2), .inl (w.2.1.1, 12, .inl (fun _ => 0))), (wb w + (t + 3), .inl (w.2.1.1, 192, .inl (fun _ => 0))), (wb w + (t + 4), .inl (w.2.1.1, 192, .inl (fun _ => 0))), (wb w + (t + 5), .inl (w.2.1.1, 25, .inl (fun _ => 0))), (wb w + (t + 6), .inl (w.2.1.1, 12, .inl (fun _ => 0)))]) H := hP
  have hD : va_D A ([(wb w + t, .inr (1, [.int (0), .int (503), .int (0), .int (-1), .int (-1), .int (0), .int (0), .ref (wb w + (t + 1)), .ref (wb w + (t + 2)), .ref (wb w + (t + 3)), .ref (wb w + (t + 4)), .ref (wb w + (t + 5)), .ref (wb w + (t + 6))])), (wb w + (t + 1), .inl (w.2.1.1, 12, .inl (fun _ => -1))), (wb w + (t + 2), .inl (w.2.1.1, 12, .inl (fun _ => 0))), (wb w + (t + 3), .inl (w.2.1.1, 192, .inl (fun _ => 0))), (wb w + (t + 4), .inl (w.2.1.1, 192, .inl (fun _ => 0))), (wb w + (t + 5), .inl (w.2.1.1, 25, .inl (fun _ => 0))), (wb w + (t + 6), .inl (w.2.1.1, 12, .inl (fun _ => 0)))]) := hD
  have hF : va_P (wD w) vwCl (blk w t 7) H := by rw [blk_X1 w ht]; exact hP
  refine W.widen (k := 6) (n := 445) (Nat.le_of_ble_eq_true rfl) (Nat.le_of_ble_eq_true rfl) ?_
  exact W.vret hx hb hr (fun u hu hW => ⟨rfl, by rw [hu]; exact hF, by rw [hAe]; exact hS.F hu⟩) (fun q hq => hS.2.2 q hq) (show decode cX1_init 99 = .ok (.return_, 1) by decide +kernel)
