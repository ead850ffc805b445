/-! SOUNDNESS: what an op of the tables says is what the machine does. -/
/-- a world: classes' numbers; arrays' classes (int, boolean, long, Text[], Pages[]); the base, the cells, their kinds; the script; the String's cell and its bytes -/
abbrev WT : Type := va_G × (ClassId × ClassId × ClassId × ClassId × ClassId) × (Nat × List Nat × (Nat → Nat)) × (Nat × (Nat → Nat) × (Nat → Nat))
abbrev wD (w : WT) : va_G := w.1
abbrev wb (w : WT) : Nat := w.2.2.1.1
abbrev wL (w : WT) : List Nat := w.2.2.1.2.1
abbrev wk (w : WT) : Nat → Nat := w.2.2.1.2.2
abbrev wsc (w : WT) : Nat := w.2.2.2.1
abbrev wK (w : WT) : Nat → Nat := w.2.2.2.2.1
abbrev wV (w : WT) : Nat → Nat := w.2.2.2.2.2
abbrev wty (w : WT) : List (ClassId × FieldType) := [(w.2.1.1, .int), (w.2.1.2.1, .boolean), (w.2.1.2.2.1, .long), (w.2.1.2.2.2.1, .object "MeshedPages$Text"), (w.2.1.2.2.2.2, .object "MeshedPages$Pages")]
/-- fields of a class in the order of the slots: 0 int or boolean, 1 long, 2 a reference to a cell so far on, of a kind, 3 a reference that changes -/
def fdl : Nat → List (Nat × Nat × Nat) := fun ci => match ci with
  | 0 => [(0, 0, 0), (0, 0, 0), (0, 0, 0), (2, 1, 100012), (2, 2, 100012), (2, 3, 100012)]
  | 1 => [(0, 0, 0), (0, 0, 0), (0, 0, 0), (0, 0, 0), (0, 0, 0), (0, 0, 0), (0, 0, 0), (2, 1, 100012), (2, 2, 100012), (2, 3, 100192), (2, 4, 100192), (2, 5, 100025), (2, 6, 100012)]
  | 2 => [(0, 0, 0), (2, 1, 100012), (2, 2, 100012), (2, 3, 104096)]
  | 3 => [(2, 1, 100300), (0, 0, 0), (0, 0, 0), (0, 0, 0), (2, 2, 100300), (2, 3, 100300), (2, 4, 100300), (0, 0, 0), (0, 0, 0), (0, 0, 0), (3, 0, 5)]
  | 4 => [(2, 1, 21), (0, 0, 0), (0, 0, 0)]
  | 5 => [(0, 0, 0), (2, 1, 100024), (2, 2, 100024), (2, 3, 100024), (2, 4, 100002), (2, 5, 100002), (0, 0, 0), (2, 6, 100300), (2, 7, 100300), (2, 8, 100006), (2, 9, 100064)]
  | 6 => [(2, 1, 1), (2, 8, 4), (2, 220, 100008), (0, 0, 0), (0, 0, 0), (0, 0, 0)]
  | 7 => [(2, 1, 3), (2, 16, 20), (2, 17, 5), (2, 27, 6), (2, 248, 6), (2, 469, 1), (2, 476, 2), (2, 480, 0)]
  | 8 => [(2, 1, 113669), (2, 2, 113669), (2, 3, 102724), (2, 4, 100300), (0, 0, 0), (0, 0, 0), (0, 0, 0), (0, 0, 0), (0, 0, 0), (0, 0, 0), (0, 0, 0), (1, 0, 0), (0, 0, 0), (0, 0, 0), (0, 0, 0), (2, 5, 100160), (0, 0, 0), (0, 0, 0), (0, 0, 0), (0, 0, 0), (2, 6, 100006), (2, 7, 300330), (2, 8, 200330), (2, 9, 100012), (2, 10, 200012), (0, 0, 0), (2, 11, 100440), (2, 12, 100012), (2, 13, 104096), (2, 14, 104096), (2, 15, 104096), (2, 16, 100012)]
  | _ => []
def fvl (b0 t : Nat) (S : Mem) (k : Nat) (c : Nat × Nat × Nat) : Value := match c.1 with
  | 0 => .int (rdI S t k)
  | 1 => .long (rdJ S t k)
  | 2 => .ref (b0 + (t + c.2.1))
  | _ => .ref (b0 + ix (rdI S t k))
def flds (b0 t : Nat) (S : Mem) (ci : Nat) : List Value := (List.range (fdl ci).length).map (fun k => fvl b0 t S k ((fdl ci).getD k (0, 0, 0)))
def encK (w : WT) (κ t : Nat) (S : Mem) : va_E :=
  if κ ≤ 8 then .inr (κ, flds (wb w) t S κ)
  else if κ = 20 then .inl (w.2.1.2.2.2.1, 4, .inr (.inr (.inr (.inr (fun i => some (wb w + (t + 468 + 10 * i)))))))
  else if κ = 21 then .inl (w.2.1.2.2.2.2, 30, .inr (.inr (.inr (.inr (fun i => some (wb w + (t + 1 + 7 * i)))))))
  else if kAI κ = true then .inl (w.2.1.1, κ - 100000, .inl (fun i => S.1 t i))
  else if kAZ κ = true then .inl (w.2.1.2.1, κ - 200000, .inl (fun i => S.1 t i))
  else .inl (w.2.1.2.2.1, κ - 300000, .inr (.inl (fun i => S.2.1 t i)))
def WL (w : WT) (S : Mem) : va_W := (wL w).map (fun t => (wb w + t, encK w (wk w t) t S))
/-- what a world's layout keeps -/
def WOK (w : WT) : Prop :=
  (wL w).Nodup ∧ (∀ t ∈ wL w, t < 2 ^ 31) ∧
  (∀ t ∈ wL w, ∀ k off κ' : Nat, (fdl (wk w t))[k]? = some (2, off, κ') → t + off ∈ wL w ∧ wk w (t + off) = κ') ∧
  (∀ t ∈ wL w, wk w t = 20 → ∀ i, i < 4 → t + 468 + 10 * i ∈ wL w ∧ wk w (t + 468 + 10 * i) = 5) ∧
  (∀ t ∈ wL w, wk w t = 21 → ∀ i, i < 30 → t + 1 + 7 * i ∈ wL w ∧ wk w (t + 1 + 7 * i) = 1) ∧
  (∀ t ∈ wL w, wk w t ≤ 8 ∨ wk w t = 20 ∨ wk w t = 21 ∨ kAI (wk w t) = true ∨ kAZ (wk w t) = true ∨ kAJ (wk w t) = true)
def SInv (w : WT) (S : Mem) : Prop := ∀ t ∈ wL w, wk w t = 3 → ix (rdI S t 10) ∈ wL w ∧ wk w (ix (rdI S t 10)) = 5
def A1 (w : WT) : Nat → Prop := fun q => ∃ t ∈ wL w, q = wb w + t
def RH (w : WT) (A : Nat → Prop) (H0 : Heap) (S : Mem) (H : Heap) (locs : List Loc) : Prop := va_P (wD w) vwCl (WL w S) H ∧ va_D A (WL w S) ∧ va_S A H0 H locs ∧ SInv w S
/-- a value of ours, in the machine -/
def cv (w : WT) (v : AV) : Value := match v with
  | .inl x => .int x
  | .inr (.inl x) => .long x
  | .inr (.inr (κ, t)) => if κ = 40 then .ref (wsc w) else if κ = 30 then .ref (wK w 0) else .ref (wb w + t)
def VR (w : WT) (hs : Bool) (v : AV) : Prop := match v with
  | .inr (.inr (κ, t)) => κ = 99 ∨ (κ = 40 ∧ hs = true) ∨ κ = 30 ∨ (t ∈ wL w ∧ wk w t = κ)
  | _ => True
def isU (v : AV) : Bool := match v with
  | .inr (.inr (κ, _)) => Nat.beq κ 99
  | _ => false
def LR (w : WT) (ls : Array Slot) (nL : Nat) (l : List AV) : Prop := ls.size = nL ∧ lv_wf ls ∧ l.length = nL ∧ ∀ (i : Nat) (v : AV), l[i]? = some v → isU v = false → ls[i]? = some (.val (cv w v))
def lenum (w : WT) (l : List AV) : List (Nat × Value) := (List.range l.length).filterMap (fun i => match l[i]? with
  | some v => if isU v = true then none else some (i, cv w v)
  | none => none)
theorem lenum_mem {w : WT} {l : List AV} {i : Nat} {v : AV} (h : l[i]? = some v) (hu : isU v = false) : (i, cv w v) ∈ lenum w l := by
  refine List.mem_filterMap.mpr ⟨i, List.mem_range.mpr (List.getElem?_eq_some_iff.mp h).1, ?_⟩
  simp [h, hu]
theorem lenum_of {w : WT} {l : List AV} {q : Nat × Value} (h : q ∈ lenum w l) : ∃ v, l[q.1]? = some v ∧ isU v = false ∧ q.2 = cv w v := by
  obtain ⟨i, -, hi⟩ := List.mem_filterMap.mp h
  cases hl : l[i]? with
  | none => rw [hl] at hi; cases hi
  | some v =>
    rw [hl] at hi
    dsimp only at hi
    split at hi
    · cases hi
    next hu =>
      cases hi
      exact ⟨v, hl, by simpa using hu, rfl⟩
theorem LR.has {w : WT} {ls : Array Slot} {nL : Nat} {l : List AV} (h : LR w ls nL l) : lv_has ls nL (lenum w l) :=
  ⟨h.1, h.2.1, fun q hq => by
    obtain ⟨v, h1, h2, h3⟩ := lenum_of hq
    rw [h3]; exact h.2.2.2 q.1 v h1 h2⟩
theorem LR.at {w : WT} {ls : Array Slot} {nL : Nat} {l : List AV} (h : LR w ls nL l) {i : Nat} {v : AV} (hv : lg l i = v) (hu : isU v = false) : ls[i]? = some (.val (cv w v)) := by
  unfold lg at hv
  rw [List.getD_eq_getElem?_getD] at hv
  cases hl : l[i]? with
  | none => rw [hl] at hv; subst hv; exact absurd hu (by decide)
  | some v' => rw [hl] at hv; subst hv; exact h.2.2.2 i _ hl hu
theorem isU_I {x : Int32} : isU (vI x) = false := rfl
theorem isU_L {x : Int64} : isU (vL x) = false := rfl
theorem isU_R {a t : Nat} (h : Nat.beq a 99 = false) : isU (vR a t) = false := h
theorem lset_get {l : List AV} {i j : Nat} {v : AV} : (l.set i v)[j]? = if i = j then (if i < l.length then some v else none) else l[j]? := by
  by_cases h : i = j
  · subst h
    rw [if_pos rfl]
    by_cases h2 : i < l.length
    · rw [if_pos h2, List.getElem?_set_self h2]
    · rw [if_neg h2, List.getElem?_eq_none (by rw [List.length_set]; omega)]
  · rw [if_neg h, List.getElem?_set_ne h]
theorem kil_len {l : List AV} {k : Nat} : (kil l k).length = l.length := by
  unfold kil
  split
  · rfl
  · split
    · exact List.length_set
    · rfl
theorem kil_get {l : List AV} {k j : Nat} {v : AV} (h : (kil l k)[j]? = some v) (hu : isU v = false) : l[j]? = some v ∧ (j + 1 = k → catV v = 1) := by
  unfold kil at h
  split at h
  next => exact ⟨h, fun q => by omega⟩
  next j' =>
    split at h
    next x hx =>
      rw [lset_get] at h
      split at h
      next e =>
        split at h
        · cases h; exact absurd hu (by decide)
        · cases h
      next e => exact ⟨h, fun q => absurd (by omega) e⟩
    next hx =>
      refine ⟨h, fun q => ?_⟩
      have hj : j = j' := by omega
      subst hj
      have hg : lg l j = v := by unfold lg; rw [List.getD_eq_getElem?_getD, h]; rfl
      unfold catV
      split
      next z => exact absurd hg (hx z)
      next => rfl
theorem cat_cv {w : WT} {v : AV} (h : catV v = 1) : (cv w v).category = 1 := by
  unfold cv
  split
  · rfl
  next => simp [catV] at h
  · split
    · rfl
    · split <;> rfl
theorem catV_cv (w : WT) (v : AV) : (cv w v).category = catV v := by
  unfold cv catV
  split
  · rfl
  · rfl
  · split
    · rfl
    · split <;> rfl
theorem LR.st1 {w : WT} {ls ls' : Array Slot} {nL i : Nat} {l : List AV} {v : AV} (h : LR w ls nL l) (h' : lv_has ls' nL ((i, cv w v) :: (lenum w l).filter (fun q => !(q.1 == i) && !(q.1 + 1 == i && q.2.category == 2)))) : LR w ls' nL (ls1 l i v) := by
  refine ⟨h'.1, h'.2.1, by unfold ls1; rw [List.length_set, kil_len]; exact h.2.2.1, fun j x hx hu => ?_⟩
  unfold ls1 at hx
  rw [lset_get] at hx
  split at hx
  next e =>
    split at hx
    · cases hx; rw [← e]; exact h'.2.2 _ List.mem_cons_self
    · cases hx
  next e =>
    obtain ⟨h1, h2⟩ := kil_get hx hu
    refine h'.2.2 (j, cv w x) (List.mem_cons_of_mem _ (List.mem_filter.mpr ⟨lenum_mem h1 hu, ?_⟩))
    by_cases hj : j + 1 = i
    · have hc := cat_cv (w := w) (h2 hj)
      simp [hc, Ne.symm e]
    · simp [hj, Ne.symm e]
theorem LR.st2 {w : WT} {ls ls' : Array Slot} {nL i : Nat} {l : List AV} {v : AV} (h : LR w ls nL l) (h' : lv_has ls' nL ((i, cv w v) :: (lenum w l).filter (fun q => !(q.1 == i) && (!(q.1 == i + 1) && !(q.1 + 1 == i && q.2.category == 2))))) : LR w ls' nL (ls2 l i v) := by
  refine ⟨h'.1, h'.2.1, by unfold ls2; rw [List.length_set, List.length_set, kil_len]; exact h.2.2.1, fun j x hx hu => ?_⟩
  unfold ls2 at hx
  rw [lset_get] at hx
  split at hx
  next e =>
    split at hx
    · cases hx; exact absurd hu (by decide)
    · cases hx
  next e1 =>
    rw [lset_get] at hx
    split at hx
    next e =>
      split at hx
      · cases hx; rw [← e]; exact h'.2.2 _ List.mem_cons_self
      · cases hx
    next e =>
      obtain ⟨h1, h2⟩ := kil_get hx hu
      refine h'.2.2 (j, cv w x) (List.mem_cons_of_mem _ (List.mem_filter.mpr ⟨lenum_mem h1 hu, ?_⟩))
      have e1' : ¬ j = i + 1 := fun q => e1 q.symm
      by_cases hj : j + 1 = i
      · have hc := cat_cv (w := w) (h2 hj)
        simp [hc, Ne.symm e, e1']
      · simp [hj, Ne.symm e, e1']
theorem LR.mask {w : WT} {ls : Array Slot} {nL : Nat} (ks : List Nat) : ∀ {l : List AV}, LR w ls nL l → LR w ls nL (lmask ks l) := by
  induction ks with
  | nil => intro l h; exact h
  | cons k r ih =>
    intro l h
    refine ih (l := l.set k vU) ⟨h.1, h.2.1, by rw [List.length_set]; exact h.2.2.1, fun j x hx hu => ?_⟩
    rw [lset_get] at hx
    split at hx
    · split at hx
      · cases hx; exact absurd hu (by decide)
      · cases hx
    · exact h.2.2.2 j x hx hu
def VRs (w : WT) (hs : Bool) (l : List AV) : Prop := ∀ v ∈ l, VR w hs v
theorem VR_U {w : WT} {hs : Bool} : VR w hs vU := Or.inl rfl
theorem VR_I {w : WT} {hs : Bool} {x : Int32} : VR w hs (vI x) := trivial
theorem VR_L {w : WT} {hs : Bool} {x : Int64} : VR w hs (vL x) := trivial
theorem VRs_set {w : WT} {hs : Bool} {l : List AV} (h : VRs w hs l) {i : Nat} {v : AV} (hv : VR w hs v) : VRs w hs (l.set i v) := fun x hx => by
  rcases List.mem_or_eq_of_mem_set hx with q | q
  · exact h x q
  · rw [q]; exact hv
theorem VRs_kil {w : WT} {hs : Bool} {l : List AV} (h : VRs w hs l) {i : Nat} : VRs w hs (kil l i) := by
  unfold kil
  split
  · exact h
  · split
    · exact VRs_set h VR_U
    · exact h
theorem VRs_ls1 {w : WT} {hs : Bool} {l : List AV} (h : VRs w hs l) {i : Nat} {v : AV} (hv : VR w hs v) : VRs w hs (ls1 l i v) := VRs_set (VRs_kil h) hv
theorem VRs_ls2 {w : WT} {hs : Bool} {l : List AV} (h : VRs w hs l) {i : Nat} {v : AV} (hv : VR w hs v) : VRs w hs (ls2 l i v) := VRs_set (VRs_set (VRs_kil h) hv) VR_U
theorem VRs_mask {w : WT} {hs : Bool} (ks : List Nat) : ∀ {l : List AV}, VRs w hs l → VRs w hs (lmask ks l) := by
  induction ks with
  | nil => intro l h; exact h
  | cons k r ih => intro l h; exact ih (VRs_set h VR_U)
theorem VRs_lg {w : WT} {hs : Bool} {l : List AV} (h : VRs w hs l) {i : Nat} : VR w hs (lg l i) := by
  unfold lg
  rw [List.getD_eq_getElem?_getD]
  cases hl : l[i]? with
  | none => exact VR_U
  | some v => exact h v (List.mem_of_getElem? hl)
theorem VRs_hd {w : WT} {hs : Bool} {v : AV} {l : List AV} (h : VRs w hs (v :: l)) : VR w hs v := h v List.mem_cons_self
theorem VRs_tl {w : WT} {hs : Bool} {v : AV} {l : List AV} (h : VRs w hs (v :: l)) : VRs w hs l := fun x hx => h x (List.mem_cons_of_mem _ hx)
theorem VRs_cons {w : WT} {hs : Bool} {v : AV} {l : List AV} (hv : VR w hs v) (h : VRs w hs l) : VRs w hs (v :: l) := fun x hx => by
  rcases List.mem_cons.mp hx with q | q
  · rw [q]; exact hv
  · exact h x q
theorem VR_in {w : WT} {hs : Bool} {a t : Nat} (h : VR w hs (vR a t)) (h9 : ¬ a = 99) (h4 : ¬ a = 40) (h3 : ¬ a = 30) : t ∈ wL w ∧ wk w t = a := by
  rcases h with h | h | h | h
  · exact absurd h h9
  · exact absurd h.1 h4
  · exact absurd h h3
  · exact h
theorem cv_R {w : WT} {a t : Nat} (h4 : ¬ a = 40) (h3 : ¬ a = 30) : cv w (vR a t) = .ref (wb w + t) := by
  show (if a = 40 then _ else if a = 30 then _ else _) = _
  rw [if_neg h4, if_neg h3]
/-! a cell of the world, read and changed -/
theorem WL_get {w : WT} {S : Mem} {t : Nat} (h : t ∈ wL w) : ∃ q : Nat, (WL w S)[q]? = some (wb w + t, encK w (wk w t) t S) := by
  apply List.getElem?_of_mem
  exact List.mem_map.mpr ⟨t, h, rfl⟩
theorem WL_set {w : WT} {S S' : Mem} {t q : Nat} {e0 : va_E} (hn : (wL w).Nodup) (hq : (WL w S)[q]? = some (wb w + t, e0)) (ho : ∀ t' ∈ wL w, t' ≠ t → encK w (wk w t') t' S' = encK w (wk w t') t' S) : (WL w S).set q (wb w + t, encK w (wk w t) t S') = WL w S' := by
  have hl := (List.getElem?_eq_some_iff.mp hq).1
  apply List.ext_getElem?
  intro j
  have hj : ∀ j : Nat, (WL w S)[j]? = (wL w)[j]?.map (fun t => (wb w + t, encK w (wk w t) t S)) := fun j => by unfold WL; rw [List.getElem?_map]
  have hj' : ∀ j : Nat, (WL w S')[j]? = (wL w)[j]?.map (fun t => (wb w + t, encK w (wk w t) t S')) := fun j => by unfold WL; rw [List.getElem?_map]
  rw [hj] at hq
  cases hb : (wL w)[q]? with
  | none => rw [hb] at hq; cases hq
  | some b =>
    rw [hb] at hq
    have hbt : b = t := by
      have := congrArg Prod.fst (Option.some.inj hq)
      dsimp only at this
      omega
    subst hbt
    by_cases h : j = q
    · subst h
      rw [List.getElem?_set_self hl, hj', hb]; rfl
    · rw [List.getElem?_set_ne (Ne.symm h), hj, hj']
      cases hc : (wL w)[j]? with
      | none => rfl
      | some c =>
        have hne : c ≠ b := by
          intro e
          subst e
          have h1 := (List.getElem?_eq_some_iff.mp hb)
          have h2 := (List.getElem?_eq_some_iff.mp hc)
          exact h ((List.getElem?_inj h2.1 hn).mp (hc.trans hb.symm))
        simp [ho c (List.mem_of_getElem? hc) hne]
