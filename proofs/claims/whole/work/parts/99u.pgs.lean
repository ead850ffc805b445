/-! CONSTRUCTORS: the pages -/
theorem arrV_c (cI : ClassId) (N : Nat) {f g : Nat → Value} (h : ∀ j, j < N → f j = g j) : arrV cI N f = arrV cI N g := by
  have e : (fun j : Fin N => f j.val) = (fun j : Fin N => g j.val) := funext fun j => h j.1 j.2
  unfold arrV
  rw [e]
def g12 (i : Nat) : Int32 := if i < 12 then 0 else -1
theorem g12_0 (cA : ClassId) : vp_cell cA (12, .inl g12) = arrV cA 12 (fun _ => defaultValue .int) := arrV_c cA 12 (f := fun j => .int (g12 j)) (g := fun _ => defaultValue .int) (fun j hj => by
  show Value.int (g12 j) = Value.int 0
  unfold g12
  rw [if_pos hj])
def wS (w : WT) (u κ : Nat) : WT := (w.1, (w.2.1, ((wb w, ([u], fun _ => κ)), w.2.2.2)))
section FL
variable {p : Program} {l : Launch} {e : Jvm.Env} {R : Room} {s : State} {m : MethodId} {args : Array Value} {below : List Frame} {meth : Method} {c : Code} {H : Heap} {locs : List Loc} {cells slots : Nat} {Q : State → Prop}
variable {cc : ByteArray} {pc : Nat} {ls : Array Slot} {rest : List Value} {A : Nat → Prop} {ws : va_W}
def SF : Mem := (fun _ i => g12 i, (fun _ _ => 0, (0, fun _ => 0)))
theorem fil_g (u : Nat) : (fun i => (filI SF u 12 (-1)).1 u i) = fun _ => (-1 : Int32) := funext fun i => by
  have h := rdI_fil SF u 12 (-1) u i
  show rdI (filI SF u 12 (-1)) u i = -1
  rw [h]
  by_cases z : i < 12
  · rw [if_pos ⟨rfl, z⟩]
  · rw [if_neg (fun y => z y.2)]
    show g12 i = -1
    unfold g12
    rw [if_neg z]
theorem WOK_s (w : WT) {u : Nat} (hu : u < 2 ^ 31) : WOK (wS w u 100012) := by
  refine ⟨List.nodup_cons.mpr ⟨List.not_mem_nil, List.nodup_nil⟩, fun t ht => ?_, fun t ht k off κ' h => ?_, fun t ht h => ?_, fun t ht h => ?_, fun t ht => Or.inr (Or.inr (Or.inr (Or.inl (show kAI 100012 = true by decide))))⟩
  · rw [List.mem_singleton.mp ht]; exact hu
  · have h0 : (fdl 100012)[k]? = some (2, off, κ') := h
    cases h0
  · exact absurd (show (100012 : Nat) = 20 from h) (by decide)
  · exact absurd (show (100012 : Nat) = 21 from h) (by decide)
theorem vn_fill {w : WT} {u idx k nL : Nat} {own : String} (hexec : p.tables.exec = Jvm.exec) (hb : c.code = cc) (hml : c.maxLocals = nL) (hls : ls.size = nL) (hown : s.vm.findClass own = some m.cls) (hts : ∀ w ∈ lw_good, w.before args s = true) (hK : va_K (wD w) vwCl (wty w) s) (hStr : StrW w A s s.heap) (hu : u < 2 ^ 31) (hP : va_P (wD w) vwCl ws H) (hD : va_D A ws) (hS : va_S A s.heap H locs) (hk : ws[k]? = some (wb w + u, .inl (w.2.1.1, 12, .inl g12))) (hlink : Cond.methodLink own idx (yM 319) ∈ lw_good) (h2 : Cond.static (yM 319) ∈ lw_good) (h4 : Cond.initialized (yM 319).cls ∈ lw_good) (h5 : Cond.code (yM 319) (cdB 319) (mxL 319) (rtM 319) ∈ lw_good) (hd : decode cc pc = .ok (.invokestatic idx, 3)) (hfr : 1 ≤ R.frames) (hlo : 64 ≤ R.locals) (hcells : cells ≤ R.cells) (hslots : slots ≤ R.slots) (hst : (rest.map fun v => v.category).sum ≤ 8)
    (kk : ∀ (H1 : Heap) (locs1 : List Loc), va_P (wD w) vwCl (ws.set k (wb w + u, .inl (w.2.1.1, 12, .inl (fun _ => -1)))) H1 → va_D A (ws.set k (wb w + u, .inl (w.2.1.1, 12, .inl (fun _ => -1)))) → va_S A s.heap H1 locs1 → W p l e R s m args below meth c H1 locs1 cells slots Q (F0 m (pc + 3) ls rest)) : W p l e R s m args below meth c H locs cells slots Q (F0 m pc ls (.int (-1) :: .ref (wb w + u) :: rest)) := by
  have hR := cal_met (w := wS w u 100012) (l := l) (d := 0) (mid := 319) (sp_fill 0 12 u (by decide) (-1) SF)
  have hm := hR.2 rfl (fun v hv => by
    rcases List.mem_cons.mp hv with rfl | hv
    · exact Or.inr (Or.inr (Or.inr ⟨List.mem_singleton.mpr rfl, rfl⟩))
    · rcases List.mem_cons.mp hv with rfl | hv
      · trivial
      · exact absurd hv List.not_mem_nil)
  have hA1 : ∀ q, A1 (wS w u 100012) q → q = wb w + u := fun q ⟨t, ht, hq⟩ => by rw [hq, List.mem_singleton.mp ht]; rfl
  have hAu : A (wb w + u) := hD.2 k _ hk
  have hA : ∀ q, A1 (wS w u 100012) q → A q := fun q h => by rw [hA1 q h]; exact hAu
  have hps : PreS s H (PcM (wS w u 100012) [vR (100000 + 12) u, vI (-1)] SF) [.ref (wb w + u), .int (-1)] := ⟨PcM_blind, fun U hU hW2 => ⟨rfl, (by
      rw [hU]
      intro j q hq
      cases j with
      | zero =>
        cases hq
        show va_at (wD w) vwCl (wb w + u, encK (wS w u 100012) 100012 u SF) H
        rw [encK_I (show kAI 100012 = true by decide)]
        exact hP k _ hk
      | succ j => cases hq), va_K.moved hW2.alike hK, ⟨fun i j x y hi hj _ => by
        have h1 := (List.getElem?_eq_some_iff.mp hi).1
        have h2 := (List.getElem?_eq_some_iff.mp hj).1
        have h1 : i < 1 := h1
        have h2 : j < 1 := h2
        omega, fun j q hq => by
        cases j with
        | zero => cases hq; exact ⟨u, List.mem_singleton.mpr rfl, rfl⟩
        | succ j => cases hq⟩, fun t ht h => absurd (show (100012 : Nat) = 3 from h) (by decide), StrW_to (w := wS w u 100012) (s := s) hStr hS hA hU hW2, WOK_s w hu⟩⟩
  have hGs := good_callS (c' := 319) rfl h2 h5
  have hRm : (rmD 0).frames + 1 ≤ R.frames ∧ 8 + (mxL 319 + 11) + (rmD 0).locals ≤ R.locals := ⟨hfr, Nat.le_trans (show 8 + (mxL 319 + 11) + (rmD 0).locals ≤ 64 by decide +kernel) hlo⟩
  have hrun : va_Run p l e R s m args below meth c H locs cells slots 0 0 (F0 m pc ls (.int (-1) :: .ref (wb w + u) :: rest)) rest (QcM (wS w u 100012) (none, filI SF u 12 (-1)) ([.ref (wb w + u), .int (-1)] : List Value).toArray) (A1 (wS w u 100012)) :=
    va_runS (As := [.ref (wb w + u), .int (-1)]) (rest := rest) ⟨hexec, hb, hml, hown, hts⟩ hm ⟨callB_of 2 hts hGs rfl rfl rfl (hts _ h4) (hts _ hlink) ⟨by decide +kernel, by decide +kernel, by decide +kernel⟩ hRm, hts _ h2⟩ hps rfl rfl hls rfl (lv_room hst) hd ⟨by omega, by omega⟩
  intro T hT X
  obtain ⟨v, st₀, t, T', L, h0, X', hL, e1, e2, ⟨hv, hp, hsi, hvr, hz, hkk⟩, st⟩ := hrun T hT X
  have hv2 : v = none := by cases hv; rfl
  subst hv2
  rw [h0] at hz hkk
  have hat : va_at (wD w) vwCl (wb w + u, .inl (w.2.1.1, 12, .inl (fun _ => -1))) T'.heap := by
    have h8 := hp 0 (wb w + u, encK (wS w u 100012) 100012 u (filI SF u 12 (-1))) rfl
    rw [encK_I (show kAI 100012 = true by decide)] at h8
    rw [e1]
    have h9 : va_at (wD w) vwCl (wb w + u, .inl (w.2.1.1, 12, .inl (fun i => (filI SF u 12 (-1)).1 u i))) t.heap := h8
    rw [fil_g u] at h9
    exact h9
  have hP1 : va_P (wD w) vwCl (ws.set k (wb w + u, .inl (w.2.1.1, 12, .inl (fun _ => -1)))) T'.heap := by
    intro j q hq
    by_cases z : j = k
    · subst z
      rw [List.getElem?_set_self (List.getElem?_eq_some_iff.mp hk).1] at hq
      cases hq
      exact hat
    · rw [List.getElem?_set_ne (Ne.symm z)] at hq
      exact (hP j q hq).kept (by rw [e1]; exact hkk q.1 ((hP j q hq).lt) (fun y => z (hD.1 j k q _ hq hk (hA1 _ y))))
  obtain ⟨t2, a1, b1⟩ := kk T'.heap (locs ++ L) hP1 (hD.set hk) ⟨Nat.le_trans hS.1 (by rw [e1]; exact hz), fun q h1 h2 => by rw [e1, hkk q (Nat.lt_of_lt_of_le h1 hS.1) (fun z => h2 (hA q z))]; exact hS.2.1 q h1 h2, fun q hq => by
      rcases List.mem_append.mp hq with h | h
      · exact hS.2.2 q h
      · exact hA _ (hL q h)⟩ T' rfl X'
  exact ⟨t2, st t2 a1, b1⟩
end FL
/-- the pages' block -/
set_option maxRecDepth 100000 in
theorem pg_k : ∀ t : Fin 541, isPG t.1 = true → (K0 t.1 = 1 ∧ K0 (t.1 + 1) = 100012 ∧ K0 (t.1 + 2) = 100012 ∧ K0 (t.1 + 3) = 100192 ∧ K0 (t.1 + 4) = 100192 ∧ K0 (t.1 + 5) = 100025 ∧ K0 (t.1 + 6) = 100012) ∧ ∀ j : Fin 6, isPG (t.1 + 1 + j.1) = false ∧ ¬ t.1 + 1 + j.1 = 1 ∧ ¬ (t.1 + 1 + j.1 = 27 ∨ t.1 + 1 + j.1 = 248) ∧ ¬ t.1 + 1 + j.1 = 524 ∧ ¬ (t.1 + 1 + j.1 = 525 ∨ t.1 + 1 + j.1 = 526) := by decide +kernel
theorem isPG_lt {t : Nat} (h : isPG t = true) : t < 541 := by
  unfold isPG at h
  simp only [Bool.or_eq_true, Bool.and_eq_true, Nat.beq_eq, Nat.ble_eq] at h
  omega
theorem S0_pg {t : Nat} (h : isPG t = true) : S0c t 0 = 0 ∧ S0c t 1 = 503 ∧ S0c t 2 = 0 ∧ S0c t 3 = -1 ∧ S0c t 4 = -1 ∧ S0c t 5 = 0 ∧ S0c t 6 = 0 := by
  unfold S0c
  rw [if_pos h, if_pos h, if_pos h, if_pos h, if_pos h, if_pos h, if_pos h]
  exact ⟨rfl, rfl, rfl, rfl, rfl, rfl, rfl⟩
theorem S0_p1 {t : Nat} (h : isPG t = true) : S0c (t + 1) = fun _ => -1 := funext fun i => by
  have k := (pg_k ⟨t, isPG_lt h⟩ h).2 ⟨0, by decide⟩
  have k1 : isPG (t + 1) = false := k.1
  unfold S0c
  rw [k1, if_neg (by decide), Nat.add_sub_cancel, if_pos h]
theorem S0_pj {t : Nat} (h : isPG t = true) {j : Nat} (h2 : 2 ≤ j) (h6 : j ≤ 6) : S0c (t + j) = fun _ => 0 := funext fun i => by
  have k := (pg_k ⟨t, isPG_lt h⟩ h).2 ⟨j - 1, by omega⟩
  have k' := (pg_k ⟨t, isPG_lt h⟩ h).2 ⟨j - 2, by omega⟩
  dsimp only at k k'
  rw [show t + 1 + (j - 1) = t + j by omega] at k
  rw [show t + 1 + (j - 2) = t + j - 1 by omega] at k'
  unfold S0c
  rw [k.1, k'.1, if_neg (by decide), if_neg (by decide), if_neg k.2.1, if_neg k.2.2.1, if_neg k.2.2.2.1, if_neg k.2.2.2.2]
theorem blk_X1 (w : WT) {t : Nat} (ht : isPG t = true) : blk w t 7 = [(wb w + t, .inr (1, [.int (0), .int (503), .int (0), .int (-1), .int (-1), .int (0), .int (0), .ref (wb w + (t + 1)), .ref (wb w + (t + 2)), .ref (wb w + (t + 3)), .ref (wb w + (t + 4)), .ref (wb w + (t + 5)), .ref (wb w + (t + 6))])), (wb w + (t + 1), .inl (w.2.1.1, 12, .inl (fun _ => -1))), (wb w + (t + 2), .inl (w.2.1.1, 12, .inl (fun _ => 0))), (wb w + (t + 3), .inl (w.2.1.1, 192, .inl (fun _ => 0))), (wb w + (t + 4), .inl (w.2.1.1, 192, .inl (fun _ => 0))), (wb w + (t + 5), .inl (w.2.1.1, 25, .inl (fun _ => 0))), (wb w + (t + 6), .inl (w.2.1.1, 12, .inl (fun _ => 0)))] := by
  obtain ⟨k0, k1, k2, k3, k4, k5, k6⟩ := (pg_k ⟨t, isPG_lt ht⟩ ht).1
  obtain ⟨s0, s1, s2, s3, s4, s5, s6⟩ := S0_pg ht
  dsimp only at k0 k1 k2 k3 k4 k5 k6
  show [(wb w + t, encK w (K0 t) t S00), (wb w + (t + 1), encK w (K0 (t + 1)) (t + 1) S00), (wb w + (t + 2), encK w (K0 (t + 2)) (t + 2) S00), (wb w + (t + 3), encK w (K0 (t + 3)) (t + 3) S00), (wb w + (t + 4), encK w (K0 (t + 4)) (t + 4) S00), (wb w + (t + 5), encK w (K0 (t + 5)) (t + 5) S00), (wb w + (t + 6), encK w (K0 (t + 6)) (t + 6) S00)] = _
  have f0 : flds (wb w) t S00 1 = [.int (S0c t 0), .int (S0c t 1), .int (S0c t 2), .int (S0c t 3), .int (S0c t 4), .int (S0c t 5), .int (S0c t 6), .ref (wb w + (t + 1)), .ref (wb w + (t + 2)), .ref (wb w + (t + 3)), .ref (wb w + (t + 4)), .ref (wb w + (t + 5)), .ref (wb w + (t + 6))] := rfl
  have e : ∀ j, (fun i => S00.1 (t + j) i) = S0c (t + j) := fun j => rfl
  rw [k0, k1, k2, k3, k4, k5, k6, encK_8 (by decide), f0, encK_I (by decide), encK_I (by decide), encK_I (by decide), encK_I (by decide), encK_I (by decide), encK_I (by decide), e 1, e 2, e 3, e 4, e 5, e 6, S0_p1 ht, S0_pj ht (j := 2) (by omega) (by omega), S0_pj ht (j := 3) (by omega) (by omega), S0_pj ht (j := 4) (by omega) (by omega), S0_pj ht (j := 5) (by omega) (by omega), S0_pj ht (j := 6) (by omega) (by omega), s0, s1, s2, s3, s4, s5, s6]
