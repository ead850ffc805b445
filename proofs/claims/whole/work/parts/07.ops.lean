/-! SOUNDNESS of the ops, one row each -/
def lw_good : List Cond := lw_tbl.filter goodWord
def wTxl : List Int32 := [109, 101, 115, 104, 101, 115, 32, 112, 114, 111, 98, 101, 115, 32, 103, 105, 118, 101, 32, 102, 114, 101, 101, 32, 119, 114, 105, 116, 101, 32, 109, 101, 115, 104, 32, 99, 111, 109, 112, 97, 99, 116, 32, 100, 97, 121, 32, 97, 116, 32, 119, 105, 116, 104, 32, 108, 105, 118, 101, 32, 112, 108, 97, 99, 101, 32, 105, 102, 32, 116, 104, 101, 110, 32, 101, 108, 115, 101, 32, 101, 110, 100, 32, 111, 114, 32, 97, 110, 100, 32, 110, 111, 116, 32, 116, 105, 109, 101, 32, 112, 97, 103, 101, 115, 32, 102, 114, 97, 109, 101, 115, 32, 111, 110, 101, 32, 111, 116, 104, 101, 114, 32, 115, 112, 97, 114, 115, 101, 32]
def StrW (w : WT) (A : Nat → Prop) (U : State) (H : Heap) : Prop := vk_S 1 [129] [wTxl] (wK w) (wV w) A U H ∧ vk_R "MeshedPages$Reader" 99 "meshes probes give free write mesh compact day at with live place if then else end or and not time pages frames one other sparse " (wK w 0) U ∧ va_Nw (.methodLinkNest "MeshedPages$Pages" 122 yX7_isPage "MeshedPages") U ∧ va_Z "java/lang/String" "COMPACT_STRINGS" "Z" (.int 1) A U H ∧ va_Zq "jdk/internal/util/Preconditions" "SIOOBE_FORMATTER" "Ljava/util/function/BiFunction;" A U H
def rtOk (rt : Option FieldType) (v : Option AV) : Prop := match v with
  | none => rt = none
  | some (.inl x) => rt = some .int ∨ (rt = some .boolean ∧ isZ x = true)
  | some (.inr (.inl _)) => rt = some .long
  | some (.inr (.inr (κ, _))) => (∃ n, rt = some (.object n)) ∧ κ ≤ 8
def rDec (bs : ByteArray) (pc : Nat) (v : Option AV) : Prop := match v with
  | none => decode bs pc = .ok (.return_, 1)
  | some (.inl _) => decode bs pc = .ok (.ireturn, 1)
  | some (.inr (.inl _)) => decode bs pc = .ok (.lreturn, 1)
  | some (.inr (.inr _)) => decode bs pc = .ok (.areturn, 1)
def Act (w : WT) (mid d : Nat) (p : Program) (R : Room) (s : State) (m : MethodId) (args : Array Value) (c : Code) (A : Nat → Prop) (cells slots : Nat) : Prop :=
  p.tables.exec = Jvm.exec ∧ c.code = cdB mid ∧ c.maxLocals = mxL mid ∧ s.vm.findClass (yM mid).cls = some m.cls ∧ (∀ w ∈ lw_good, w.before args s = true) ∧ va_K (wD w) vwCl (wty w) s ∧ (d ≤ R.frames ∧ 64 * d ≤ R.locals) ∧ (cells ≤ R.cells ∧ slots ≤ R.slots) ∧ StrW w A s s.heap ∧ WOK w ∧ (∀ q, A1 w q → A q)
def RHs (w : WT) (hs : Bool) (A : Nat → Prop) (s : State) (S : Mem) (H : Heap) (locs : List Loc) : Prop := va_P (wD w) vwCl (WL w S) H ∧ va_D A (WL w S) ∧ va_S A s.heap H locs ∧ SInv w S ∧ (hs = true → va_X (wsc w) S.2.2.1 S.2.2.2 s s.heap ∧ wsc w < s.heap.size ∧ ¬ A (wsc w))
def Hnd (w : WT) (hs : Bool) (mid : Nat) (R' : Res) (p : Program) (l : Launch) (e : Env) (R : Room) (s : State) (m : MethodId) (args : Array Value) (below : List Frame) (meth : Method) (c : Code) (cells slots : Nat) (Q : State → Prop) (A : Nat → Prop) : Prop :=
  ∀ (H : Heap) (locs : List Loc) (ls : Array Slot) (pc : Nat), RHs w hs A s R'.2 H locs → (∀ v, R'.1 = some v → VR w hs v) → rtOk (rtM mid) R'.1 → rDec (cdB mid) pc R'.1 → W p l e R s m args below meth c H locs cells slots Q (F0 m pc ls (R'.1.toList.map (cv w)))
def Wg (w : WT) (l : Launch) (hs : Bool) (mid d pc : Nat) (lv st : List AV) (S : Mem) (R' : Res) : Prop :=
  ∀ (p : Program) (e : Env) (R : Room) (s : State) (m : MethodId) (args : Array Value) (below : List Frame) (meth : Method) (c : Code) (cells slots : Nat) (Q : State → Prop) (A : Nat → Prop),
    Act w mid d p R s m args c A cells slots → Hnd w hs mid R' p l e R s m args below meth c cells slots Q A →
    ∀ (H : Heap) (locs : List Loc) (ls : Array Slot), RHs w hs A s S H locs → LR w ls (mxL mid) lv → VRs w hs lv → VRs w hs st → W p l e R s m args below meth c H locs cells slots Q (F0 m pc ls (st.map (cv w)))
def Gd (w : WT) (l : Launch) (hs : Bool) (mid d pc : Nat) (lv st : List AV) (S : Mem) (R' : Res) : Prop := R'.2.2.2 = S.2.2 ∧ Wg w l hs mid d pc lv st S R'
/-! a method's contract -/
def rmD (d : Nat) : Room := { frames := d, cells := 0, slots := 0, locals := 64 * d }
def wsM (mid : Nat) : List Cond := .code (yM mid) (cdB mid) (mxL mid) (rtM mid) :: lw_good
def PcM (w : WT) (as : List AV) (S : Mem) : Array Value → State → Prop := fun v U => v = (as.map (cv w)).toArray ∧ va_P (wD w) vwCl (WL w S) U.heap ∧ va_K (wD w) vwCl (wty w) U ∧ va_D (A1 w) (WL w S) ∧ SInv w S ∧ StrW w (A1 w) U U.heap ∧ WOK w
def QcM (w : WT) (R' : Res) : Array Value → State → Outcome → State → Prop := fun _ st oc t => oc = .returned (R'.1.map (cv w)) ∧ va_P (wD w) vwCl (WL w R'.2) t.heap ∧ SInv w R'.2 ∧ (∀ v, R'.1 = some v → VR w false v) ∧ va_F (A1 w) st t
def GoodC (w : WT) (l : Launch) (C : Cf) : Prop := ∀ (d mid : Nat) (as : List AV) (S : Mem) (R' : Res), C d mid as S = some R' → R'.2.2.2 = S.2.2 ∧ (noS as = true → VRs w false as → Met l (yM mid) (wsM mid) (rmD d) (PcM w as S) (QcM w R') 0 0 (A1 w))
def Snd (w : WT) (l : Launch) (hs : Bool) (mid pc : Nat) (o : Op_) : Prop := ∀ (C : Cf) (N : Nf) (d : Nat), GoodC w l C → (∀ (pc' : Nat) (lv st : List AV) (S : Mem) (R' : Res), N pc' lv st S = some R' → Gd w l hs mid d pc' lv st S R') → ∀ (lv st : List AV) (S : Mem) (R' : Res), o C N d lv st S = some R' → Gd w l hs mid d pc lv st S R'
theorem so_X {w : WT} {l : Launch} {hs : Bool} {mid pc : Nat} : Snd w l hs mid pc opX := fun _ _ _ _ _ _ _ _ _ h => by cases h
theorem so_mask {w : WT} {l : Launch} {hs : Bool} {mid pc : Nat} {ks : List Nat} {o : Op_} (h0 : Snd w l hs mid pc o) : Snd w l hs mid pc (opMask ks o) := by
  intro C N d hC hN lv st S R' h
  obtain ⟨k1, k2⟩ := h0 C N d hC hN _ _ _ _ h
  exact ⟨k1, fun p e R s m args below meth c cells slots Q A a b H locs ls r1 r2 r3 r4 => k2 p e R s m args below meth c cells slots Q A a b H locs ls r1 (r2.mask ks) (VRs_mask ks r3) r4⟩
theorem so_ble {w : WT} {l : Launch} {hs : Bool} {mid pc k : Nat} {a b : Op_} (ha : Snd w l hs mid pc a) (hb : Snd w l hs mid pc b) : Snd w l hs mid pc (cond (Nat.ble k pc) a b) := by
  cases Nat.ble k pc
  · exact hb
  · exact ha
theorem so_leaf {w : WT} {l : Launch} {hs : Bool} {mid pc k : Nat} {a : Op_} (ha : Snd w l hs mid k a) : Snd w l hs mid pc (cond (Nat.beq pc k) a opX) := by
  cases h : Nat.beq pc k
  · exact so_X
  · rw [Nat.eq_of_beq_eq_true h]; exact ha
section SOP
variable {w : WT} {l : Launch} {hs : Bool} {mid pc : Nat}
theorem so_iconst {n : Int} (hd : decode (cdB mid) pc = .ok (.iconst n, 1)) {v : Int32} (hv : Int32.ofInt n = v) : Snd w l hs mid pc (opC (vI v) (pc + 1)) := by
  intro C N d hC hN lv st S R' h
  have k := hN _ _ _ _ _ h
  refine ⟨k.1, fun p e R s m args below meth c cells slots Q A a b H locs ls r1 r2 r3 r4 => ?_⟩
  exact lv_iconst a.1 a.2.1 hd hv (k.2 p e R s m args below meth c cells slots Q A a b H locs ls r1 r2 r3 (VRs_cons VR_I r4))
theorem so_bipush {n : Int} (hd : decode (cdB mid) pc = .ok (.bipush n, 2)) {v : Int32} (hv : (Int8.ofInt n).toInt32 = v) : Snd w l hs mid pc (opC (vI v) (pc + 2)) := by
  intro C N d hC hN lv st S R' h
  have k := hN _ _ _ _ _ h
  refine ⟨k.1, fun p e R s m args below meth c cells slots Q A a b H locs ls r1 r2 r3 r4 => ?_⟩
  exact lv_bipush a.1 a.2.1 hd hv (k.2 p e R s m args below meth c cells slots Q A a b H locs ls r1 r2 r3 (VRs_cons VR_I r4))
theorem so_sipush {n : Int} (hd : decode (cdB mid) pc = .ok (.sipush n, 3)) {v : Int32} (hv : (Int16.ofInt n).toInt32 = v) : Snd w l hs mid pc (opC (vI v) (pc + 3)) := by
  intro C N d hC hN lv st S R' h
  have k := hN _ _ _ _ _ h
  refine ⟨k.1, fun p e R s m args below meth c cells slots Q A a b H locs ls r1 r2 r3 r4 => ?_⟩
  exact lv_sipush a.1 a.2.1 hd hv (k.2 p e R s m args below meth c cells slots Q A a b H locs ls r1 r2 r3 (VRs_cons VR_I r4))
theorem so_lconst {n : Fin 2} {v : Int64} (hd : decode (cdB mid) pc = .ok (.lconst n, 1)) (hv : Int64.ofNat (n : Nat) = v) : Snd w l hs mid pc (opC (vL v) (pc + 1)) := by
  intro C N d hC hN lv st S R' h
  have k := hN _ _ _ _ _ h
  refine ⟨k.1, fun p e R s m args below meth c cells slots Q A a b H locs ls r1 r2 r3 r4 => ?_⟩
  exact lv_lconst a.1 a.2.1 hd hv (k.2 p e R s m args below meth c cells slots Q A a b H locs ls r1 r2 r3 (VRs_cons VR_L r4))
theorem so_ldc {idx : Nat} {v : Int32} (hd : decode (cdB mid) pc = .ok (.ldc idx, 2)) (hw : Cond.constant (yM mid).cls idx v ∈ lw_good) : Snd w l hs mid pc (opC (vI v) (pc + 2)) := by
  intro C N d hC hN lv st S R' h
  have k := hN _ _ _ _ _ h
  refine ⟨k.1, fun p e R s m args below meth c cells slots Q A a b H locs ls r1 r2 r3 r4 => ?_⟩
  exact lv_ldc a.1 a.2.1 a.2.2.2.1 (a.2.2.2.2.1 _ hw) hd (k.2 p e R s m args below meth c cells slots Q A a b H locs ls r1 r2 r3 (VRs_cons VR_I r4))
theorem so_ldcw {idx : Nat} {v : Int32} (hd : decode (cdB mid) pc = .ok (.ldc_w idx, 3)) (hw : Cond.constant (yM mid).cls idx v ∈ lw_good) : Snd w l hs mid pc (opC (vI v) (pc + 3)) := by
  intro C N d hC hN lv st S R' h
  have k := hN _ _ _ _ _ h
  refine ⟨k.1, fun p e R s m args below meth c cells slots Q A a b H locs ls r1 r2 r3 r4 => ?_⟩
  exact lv_ldcw a.1 a.2.1 a.2.2.2.1 (a.2.2.2.2.1 _ hw) hd (k.2 p e R s m args below meth c cells slots Q A a b H locs ls r1 r2 r3 (VRs_cons VR_I r4))
theorem so_ldc2 {idx : Nat} {v : Int64} (hd : decode (cdB mid) pc = .ok (.ldc2_w idx, 3)) (hw : Cond.constantLong (yM mid).cls idx v ∈ lw_good) : Snd w l hs mid pc (opC (vL v) (pc + 3)) := by
  intro C N d hC hN lv st S R' h
  have k := hN _ _ _ _ _ h
  refine ⟨k.1, fun p e R s m args below meth c cells slots Q A a b H locs ls r1 r2 r3 r4 => ?_⟩
  exact lv_ldc2 a.1 a.2.1 a.2.2.2.1 (a.2.2.2.2.1 _ hw) hd (k.2 p e R s m args below meth c cells slots Q A a b H locs ls r1 r2 r3 (VRs_cons VR_L r4))
theorem so_ldcS (hd : decode (cdB mid) pc = .ok (.ldc 99, 2)) (hy : (yM mid).cls = "MeshedPages$Reader") : Snd w l hs mid pc (opC (vR 30 0) (pc + 2)) := by
  intro C N d hC hN lv st S R' h
  have k := hN _ _ _ _ _ h
  refine ⟨k.1, fun p e R s m args below meth c cells slots Q A a b H locs ls r1 r2 r3 r4 => ?_⟩
  have ho := a.2.2.2.1
  rw [hy] at ho
  exact va_ldcS a.1 a.2.1 ho a.2.2.2.2.2.2.2.2.1.2.1 hd (k.2 p e R s m args below meth c cells slots Q A a b H locs ls r1 r2 r3 (VRs_cons (Or.inr (Or.inr (Or.inl rfl))) r4))
theorem so_iload_n {i : Fin 4} (hd : decode (cdB mid) pc = .ok (.iload_n i, 1)) : Snd w l hs mid pc (opIld (i : Nat) (pc + 1)) := by
  intro C N d hC hN lv st S R' h
  unfold opIld at h
  split at h
  next x hx =>
    have k := hN _ _ _ _ _ h
    refine ⟨k.1, fun p e R s m args below meth c cells slots Q A a b H locs ls r1 r2 r3 r4 => ?_⟩
    exact lv_iload_n a.1 a.2.1 hd rfl (r2.at hx rfl) (k.2 p e R s m args below meth c cells slots Q A a b H locs ls r1 r2 r3 (VRs_cons VR_I r4))
  next => cases h
theorem so_iload {i : Nat} (hd : decode (cdB mid) pc = .ok (.iload i, 2)) : Snd w l hs mid pc (opIld i (pc + 2)) := by
  intro C N d hC hN lv st S R' h
  unfold opIld at h
  split at h
  next x hx =>
    have k := hN _ _ _ _ _ h
    refine ⟨k.1, fun p e R s m args below meth c cells slots Q A a b H locs ls r1 r2 r3 r4 => ?_⟩
    exact lv_iload a.1 a.2.1 hd (r2.at hx rfl) (k.2 p e R s m args below meth c cells slots Q A a b H locs ls r1 r2 r3 (VRs_cons VR_I r4))
  next => cases h
theorem so_lload_n {i : Fin 4} (hd : decode (cdB mid) pc = .ok (.lload_n i, 1)) : Snd w l hs mid pc (opLld (i : Nat) (pc + 1)) := by
  intro C N d hC hN lv st S R' h
  unfold opLld at h
  split at h
  next x hx =>
    have k := hN _ _ _ _ _ h
    refine ⟨k.1, fun p e R s m args below meth c cells slots Q A a b H locs ls r1 r2 r3 r4 => ?_⟩
    exact lv_lload_n a.1 a.2.1 hd rfl (r2.at hx rfl) (k.2 p e R s m args below meth c cells slots Q A a b H locs ls r1 r2 r3 (VRs_cons VR_L r4))
  next => cases h
theorem so_lload {i : Nat} (hd : decode (cdB mid) pc = .ok (.lload i, 2)) : Snd w l hs mid pc (opLld i (pc + 2)) := by
  intro C N d hC hN lv st S R' h
  unfold opLld at h
  split at h
  next x hx =>
    have k := hN _ _ _ _ _ h
    refine ⟨k.1, fun p e R s m args below meth c cells slots Q A a b H locs ls r1 r2 r3 r4 => ?_⟩
    exact lv_lload a.1 a.2.1 hd (r2.at hx rfl) (k.2 p e R s m args below meth c cells slots Q A a b H locs ls r1 r2 r3 (VRs_cons VR_L r4))
  next => cases h
theorem so_aload_n {i : Fin 4} (hd : decode (cdB mid) pc = .ok (.aload_n i, 1)) : Snd w l hs mid pc (opAld (i : Nat) (pc + 1)) := by
  intro C N d hC hN lv st S R' h
  unfold opAld at h
  split at h
  next κ t hx =>
    cases hk : Nat.beq κ 99
    next =>
      rw [hk] at h
      have k := hN _ _ _ _ _ h
      refine ⟨k.1, fun p e R s m args below meth c cells slots Q A a b H locs ls r1 r2 r3 r4 => ?_⟩
      obtain ⟨q, hq⟩ : ∃ q, cv w (vR κ t) = .ref q := by
        show ∃ q, (if κ = 40 then Value.ref (wsc w) else if κ = 30 then Value.ref (wK w 0) else Value.ref (wb w + t)) = .ref q
        split
        · exact ⟨_, rfl⟩
        · split <;> exact ⟨_, rfl⟩
      have hl : ls[(i : Nat)]? = some (.val (.ref q)) := by rw [← hq]; exact r2.at hx (isU_R hk)
      have hv : VR w hs (vR κ t) := by
        have z : VR w hs (lg lv (i : Nat)) := VRs_lg r3
        rw [hx] at z; exact z
      have kk := k.2 p e R s m args below meth c cells slots Q A a b H locs ls r1 r2 r3 (VRs_cons hv r4)
      rw [List.map_cons, hq] at kk
      exact lv_aload_n a.1 a.2.1 hd rfl hl kk
    next => rw [hk] at h; cases h
  next => cases h
theorem so_aload {i : Nat} (hd : decode (cdB mid) pc = .ok (.aload i, 2)) : Snd w l hs mid pc (opAld i (pc + 2)) := by
  intro C N d hC hN lv st S R' h
  unfold opAld at h
  split at h
  next κ t hx =>
    cases hk : Nat.beq κ 99
    next =>
      rw [hk] at h
      have k := hN _ _ _ _ _ h
      refine ⟨k.1, fun p e R s m args below meth c cells slots Q A a b H locs ls r1 r2 r3 r4 => ?_⟩
      obtain ⟨q, hq⟩ : ∃ q, cv w (vR κ t) = .ref q := by
        show ∃ q, (if κ = 40 then Value.ref (wsc w) else if κ = 30 then Value.ref (wK w 0) else Value.ref (wb w + t)) = .ref q
        split
        · exact ⟨_, rfl⟩
        · split <;> exact ⟨_, rfl⟩
      have hl : ls[i]? = some (.val (.ref q)) := by rw [← hq]; exact r2.at hx (isU_R hk)
      have hv : VR w hs (vR κ t) := by
        have z : VR w hs (lg lv i) := VRs_lg r3
        rw [hx] at z; exact z
      have kk := k.2 p e R s m args below meth c cells slots Q A a b H locs ls r1 r2 r3 (VRs_cons hv r4)
      rw [List.map_cons, hq] at kk
      exact lv_aload a.1 a.2.1 hd hl kk
    next => rw [hk] at h; cases h
  next => cases h
theorem so_istore_n {i : Fin 4} (hd : decode (cdB mid) pc = .ok (.istore_n i, 1)) : Snd w l hs mid pc (opIst (i : Nat) (pc + 1)) := by
  intro C N d hC hN lv st S R' h
  unfold opIst at h
  split at h
  next x r =>
    cases hk : Nat.ble ((i : Nat) + 1) lv.length
    next => rw [hk] at h; cases h
    next =>
      rw [hk] at h
      have k := hN _ _ _ _ _ h
      refine ⟨k.1, fun p e R s m args below meth c cells slots Q A a b H locs ls r1 r2 r3 r4 => ?_⟩
      have hlt := Nat.le_of_ble_eq_true hk
      rw [r2.2.2.1] at hlt
      exact lv_istore_n a.1 a.2.1 hd rfl r2.has (by omega) rfl (fun ls' h' => k.2 p e R s m args below meth c cells slots Q A a b H locs ls' r1 (r2.st1 h') (VRs_ls1 r3 VR_I) (VRs_tl r4))
  next => cases h
theorem so_istore {i : Nat} (hd : decode (cdB mid) pc = .ok (.istore i, 2)) : Snd w l hs mid pc (opIst i (pc + 2)) := by
  intro C N d hC hN lv st S R' h
  unfold opIst at h
  split at h
  next x r =>
    cases hk : Nat.ble (i + 1) lv.length
    next => rw [hk] at h; cases h
    next =>
      rw [hk] at h
      have k := hN _ _ _ _ _ h
      refine ⟨k.1, fun p e R s m args below meth c cells slots Q A a b H locs ls r1 r2 r3 r4 => ?_⟩
      have hlt := Nat.le_of_ble_eq_true hk
      rw [r2.2.2.1] at hlt
      exact lv_istore a.1 a.2.1 hd r2.has (by omega) rfl (fun ls' h' => k.2 p e R s m args below meth c cells slots Q A a b H locs ls' r1 (r2.st1 h') (VRs_ls1 r3 VR_I) (VRs_tl r4))
  next => cases h
theorem so_lstore_n {i : Fin 4} (hd : decode (cdB mid) pc = .ok (.lstore_n i, 1)) : Snd w l hs mid pc (opLst (i : Nat) (pc + 1)) := by
  intro C N d hC hN lv st S R' h
  unfold opLst at h
  split at h
  next x r =>
    cases hk : Nat.ble ((i : Nat) + 2) lv.length
    next => rw [hk] at h; cases h
    next =>
      rw [hk] at h
      have k := hN _ _ _ _ _ h
      refine ⟨k.1, fun p e R s m args below meth c cells slots Q A a b H locs ls r1 r2 r3 r4 => ?_⟩
      have hlt := Nat.le_of_ble_eq_true hk
      rw [r2.2.2.1] at hlt
      exact lv_lstore_n a.1 a.2.1 hd rfl r2.has (by omega) rfl (fun ls' h' => k.2 p e R s m args below meth c cells slots Q A a b H locs ls' r1 (r2.st2 h') (VRs_ls2 r3 VR_L) (VRs_tl r4))
  next => cases h
theorem so_lstore {i : Nat} (hd : decode (cdB mid) pc = .ok (.lstore i, 2)) : Snd w l hs mid pc (opLst i (pc + 2)) := by
  intro C N d hC hN lv st S R' h
  unfold opLst at h
  split at h
  next x r =>
    cases hk : Nat.ble (i + 2) lv.length
    next => rw [hk] at h; cases h
    next =>
      rw [hk] at h
      have k := hN _ _ _ _ _ h
      refine ⟨k.1, fun p e R s m args below meth c cells slots Q A a b H locs ls r1 r2 r3 r4 => ?_⟩
      have hlt := Nat.le_of_ble_eq_true hk
      rw [r2.2.2.1] at hlt
      exact lv_lstore a.1 a.2.1 hd r2.has (by omega) rfl (fun ls' h' => k.2 p e R s m args below meth c cells slots Q A a b H locs ls' r1 (r2.st2 h') (VRs_ls2 r3 VR_L) (VRs_tl r4))
  next => cases h
theorem so_iinc {i : Nat} {n : Int} {cst : Int32} (hd : decode (cdB mid) pc = .ok (.iinc i n, 3)) (hv : Int32.ofInt n = cst) : Snd w l hs mid pc (opInc i cst (pc + 3)) := by
  intro C N d hC hN lv st S R' h
  unfold opInc at h
  split at h
  next x hx =>
    cases hk : Nat.ble (i + 1) lv.length
    next => rw [hk] at h; cases h
    next =>
      rw [hk] at h
      have k := hN _ _ _ _ _ h
      refine ⟨k.1, fun p e R s m args below meth c cells slots Q A a b H locs ls r1 r2 r3 r4 => ?_⟩
      have hlt := Nat.le_of_ble_eq_true hk
      have hm : (i, Value.int x) ∈ lenum w lv := by
        have h0 : lv[i]? = some (vI x) := by
          unfold lg at hx
          rw [List.getD_eq_getElem?_getD] at hx
          cases hl : lv[i]? with
          | none => rw [hl] at hx; cases hx
          | some v' => rw [hl] at hx; exact congrArg some hx
        exact lenum_mem h0 rfl
      obtain ⟨j, hj⟩ := List.getElem?_of_mem hm
      rw [r2.2.2.1] at hlt
      exact lv_iinc a.1 a.2.1 hd r2.has hj (by rw [hv]) (by omega) rfl (fun ls' h' => k.2 p e R s m args below meth c cells slots Q A a b H locs ls' r1 (r2.st1 (v := vI (x + cst)) h') (VRs_ls1 r3 VR_I) r4)
  next => cases h
theorem so_iadd (hd : decode (cdB mid) pc = .ok (.iadd, 1)) : Snd w l hs mid pc (opB (fun x y => x + y) (pc + 1)) := by
  intro C N d hC hN lv st S R' h
  unfold opB at h
  split at h
  next y x r =>
    have k := hN _ _ _ _ _ h
    refine ⟨k.1, fun p e R s m args below meth c cells slots Q A a b H locs ls r1 r2 r3 r4 => ?_⟩
    exact lv_iadd a.1 a.2.1 hd (k.2 p e R s m args below meth c cells slots Q A a b H locs ls r1 r2 r3 (VRs_cons VR_I (VRs_tl (VRs_tl r4))))
  next => cases h
theorem so_isub (hd : decode (cdB mid) pc = .ok (.isub, 1)) : Snd w l hs mid pc (opB (fun x y => x - y) (pc + 1)) := by
  intro C N d hC hN lv st S R' h
  unfold opB at h
  split at h
  next y x r =>
    have k := hN _ _ _ _ _ h
    refine ⟨k.1, fun p e R s m args below meth c cells slots Q A a b H locs ls r1 r2 r3 r4 => ?_⟩
    exact lv_isub a.1 a.2.1 hd (k.2 p e R s m args below meth c cells slots Q A a b H locs ls r1 r2 r3 (VRs_cons VR_I (VRs_tl (VRs_tl r4))))
  next => cases h
theorem so_imul (hd : decode (cdB mid) pc = .ok (.imul, 1)) : Snd w l hs mid pc (opB (fun x y => x * y) (pc + 1)) := by
  intro C N d hC hN lv st S R' h
  unfold opB at h
  split at h
  next y x r =>
    have k := hN _ _ _ _ _ h
    refine ⟨k.1, fun p e R s m args below meth c cells slots Q A a b H locs ls r1 r2 r3 r4 => ?_⟩
    exact lv_imul a.1 a.2.1 hd (k.2 p e R s m args below meth c cells slots Q A a b H locs ls r1 r2 r3 (VRs_cons VR_I (VRs_tl (VRs_tl r4))))
  next => cases h
theorem so_iand (hd : decode (cdB mid) pc = .ok (.iand, 1)) : Snd w l hs mid pc (opB (fun x y => x &&& y) (pc + 1)) := by
  intro C N d hC hN lv st S R' h
  unfold opB at h
  split at h
  next y x r =>
    have k := hN _ _ _ _ _ h
    refine ⟨k.1, fun p e R s m args below meth c cells slots Q A a b H locs ls r1 r2 r3 r4 => ?_⟩
    exact lv_iand a.1 a.2.1 hd (k.2 p e R s m args below meth c cells slots Q A a b H locs ls r1 r2 r3 (VRs_cons VR_I (VRs_tl (VRs_tl r4))))
  next => cases h
theorem so_ior (hd : decode (cdB mid) pc = .ok (.ior, 1)) : Snd w l hs mid pc (opB (fun x y => x ||| y) (pc + 1)) := by
  intro C N d hC hN lv st S R' h
  unfold opB at h
  split at h
  next y x r =>
    have k := hN _ _ _ _ _ h
    refine ⟨k.1, fun p e R s m args below meth c cells slots Q A a b H locs ls r1 r2 r3 r4 => ?_⟩
    exact lv_ior a.1 a.2.1 hd (k.2 p e R s m args below meth c cells slots Q A a b H locs ls r1 r2 r3 (VRs_cons VR_I (VRs_tl (VRs_tl r4))))
  next => cases h
theorem so_ixor (hd : decode (cdB mid) pc = .ok (.ixor, 1)) : Snd w l hs mid pc (opB (fun x y => x ^^^ y) (pc + 1)) := by
  intro C N d hC hN lv st S R' h
  unfold opB at h
  split at h
  next y x r =>
    have k := hN _ _ _ _ _ h
    refine ⟨k.1, fun p e R s m args below meth c cells slots Q A a b H locs ls r1 r2 r3 r4 => ?_⟩
    exact lv_ixor a.1 a.2.1 hd (k.2 p e R s m args below meth c cells slots Q A a b H locs ls r1 r2 r3 (VRs_cons VR_I (VRs_tl (VRs_tl r4))))
  next => cases h
theorem so_ishl (hd : decode (cdB mid) pc = .ok (.ishl, 1)) : Snd w l hs mid pc (opB shlI (pc + 1)) := by
  intro C N d hC hN lv st S R' h
  unfold opB at h
  split at h
  next y x r =>
    have k := hN _ _ _ _ _ h
    refine ⟨k.1, fun p e R s m args below meth c cells slots Q A a b H locs ls r1 r2 r3 r4 => ?_⟩
    exact lv_ishl a.1 a.2.1 hd (k.2 p e R s m args below meth c cells slots Q A a b H locs ls r1 r2 r3 (VRs_cons VR_I (VRs_tl (VRs_tl r4))))
  next => cases h
theorem so_ishr (hd : decode (cdB mid) pc = .ok (.ishr, 1)) : Snd w l hs mid pc (opB shrI (pc + 1)) := by
  intro C N d hC hN lv st S R' h
  unfold opB at h
  split at h
  next y x r =>
    have k := hN _ _ _ _ _ h
    refine ⟨k.1, fun p e R s m args below meth c cells slots Q A a b H locs ls r1 r2 r3 r4 => ?_⟩
    exact lv_ishr a.1 a.2.1 hd (k.2 p e R s m args below meth c cells slots Q A a b H locs ls r1 r2 r3 (VRs_cons VR_I (VRs_tl (VRs_tl r4))))
  next => cases h
theorem so_iushr (hd : decode (cdB mid) pc = .ok (.iushr, 1)) : Snd w l hs mid pc (opB ushI (pc + 1)) := by
  intro C N d hC hN lv st S R' h
  unfold opB at h
  split at h
  next y x r =>
    have k := hN _ _ _ _ _ h
    refine ⟨k.1, fun p e R s m args below meth c cells slots Q A a b H locs ls r1 r2 r3 r4 => ?_⟩
    exact lv_iushr a.1 a.2.1 hd rfl (k.2 p e R s m args below meth c cells slots Q A a b H locs ls r1 r2 r3 (VRs_cons VR_I (VRs_tl (VRs_tl r4))))
  next => cases h
theorem so_idiv (hd : decode (cdB mid) pc = .ok (.idiv, 1)) : Snd w l hs mid pc (opBz (fun x y => x / y) (pc + 1)) := by
  intro C N d hC hN lv st S R' h
  unfold opBz at h
  split at h
  next y x r =>
    have hz : ¬ y = 0 := by
      cases hq : nz y
      · rw [hq] at h; cases h
      · exact of_decide_eq_true hq
    rw [show nz y = true from decide_eq_true hz] at h
    have k := hN _ _ _ _ _ h
    refine ⟨k.1, fun p e R s m args below meth c cells slots Q A a b H locs ls r1 r2 r3 r4 => ?_⟩
    exact lv_idiv a.1 a.2.1 hd hz (k.2 p e R s m args below meth c cells slots Q A a b H locs ls r1 r2 r3 (VRs_cons VR_I (VRs_tl (VRs_tl r4))))
  next => cases h
theorem so_irem (hd : decode (cdB mid) pc = .ok (.irem, 1)) : Snd w l hs mid pc (opBz remI (pc + 1)) := by
  intro C N d hC hN lv st S R' h
  unfold opBz at h
  split at h
  next y x r =>
    have hz : ¬ y = 0 := by
      cases hq : nz y
      · rw [hq] at h; cases h
      · exact of_decide_eq_true hq
    rw [show nz y = true from decide_eq_true hz] at h
    have k := hN _ _ _ _ _ h
    refine ⟨k.1, fun p e R s m args below meth c cells slots Q A a b H locs ls r1 r2 r3 r4 => ?_⟩
    exact lv_irem a.1 a.2.1 hd hz (k.2 p e R s m args below meth c cells slots Q A a b H locs ls r1 r2 r3 (VRs_cons VR_I (VRs_tl (VRs_tl r4))))
  next => cases h
theorem so_ladd (hd : decode (cdB mid) pc = .ok (.ladd, 1)) : Snd w l hs mid pc (opLB (fun x y => x + y) (pc + 1)) := by
  intro C N d hC hN lv st S R' h
  unfold opLB at h
  split at h
  next y x r =>
    have k := hN _ _ _ _ _ h
    refine ⟨k.1, fun p e R s m args below meth c cells slots Q A a b H locs ls r1 r2 r3 r4 => ?_⟩
    exact lv_ladd a.1 a.2.1 hd (k.2 p e R s m args below meth c cells slots Q A a b H locs ls r1 r2 r3 (VRs_cons VR_L (VRs_tl (VRs_tl r4))))
  next => cases h
theorem so_lsub (hd : decode (cdB mid) pc = .ok (.lsub, 1)) : Snd w l hs mid pc (opLB (fun x y => x - y) (pc + 1)) := by
  intro C N d hC hN lv st S R' h
  unfold opLB at h
  split at h
  next y x r =>
    have k := hN _ _ _ _ _ h
    refine ⟨k.1, fun p e R s m args below meth c cells slots Q A a b H locs ls r1 r2 r3 r4 => ?_⟩
    exact lv_lsub a.1 a.2.1 hd (k.2 p e R s m args below meth c cells slots Q A a b H locs ls r1 r2 r3 (VRs_cons VR_L (VRs_tl (VRs_tl r4))))
  next => cases h
theorem so_lmul (hd : decode (cdB mid) pc = .ok (.lmul, 1)) : Snd w l hs mid pc (opLB (fun x y => x * y) (pc + 1)) := by
  intro C N d hC hN lv st S R' h
  unfold opLB at h
  split at h
  next y x r =>
    have k := hN _ _ _ _ _ h
    refine ⟨k.1, fun p e R s m args below meth c cells slots Q A a b H locs ls r1 r2 r3 r4 => ?_⟩
    exact lv_lmul a.1 a.2.1 hd (k.2 p e R s m args below meth c cells slots Q A a b H locs ls r1 r2 r3 (VRs_cons VR_L (VRs_tl (VRs_tl r4))))
  next => cases h
theorem so_lor (hd : decode (cdB mid) pc = .ok (.lor, 1)) : Snd w l hs mid pc (opLB (fun x y => x ||| y) (pc + 1)) := by
  intro C N d hC hN lv st S R' h
  unfold opLB at h
  split at h
  next y x r =>
    have k := hN _ _ _ _ _ h
    refine ⟨k.1, fun p e R s m args below meth c cells slots Q A a b H locs ls r1 r2 r3 r4 => ?_⟩
    exact lv_lor a.1 a.2.1 hd (k.2 p e R s m args below meth c cells slots Q A a b H locs ls r1 r2 r3 (VRs_cons VR_L (VRs_tl (VRs_tl r4))))
  next => cases h
theorem so_ldiv (hd : decode (cdB mid) pc = .ok (.ldiv, 1)) : Snd w l hs mid pc (opLBz (fun x y => x / y) (pc + 1)) := by
  intro C N d hC hN lv st S R' h
  unfold opLBz at h
  split at h
  next y x r =>
    have hz : ¬ y = 0 := by
      cases hq : nzL y
      · rw [hq] at h; cases h
      · exact of_decide_eq_true hq
    rw [show nzL y = true from decide_eq_true hz] at h
    have k := hN _ _ _ _ _ h
    refine ⟨k.1, fun p e R s m args below meth c cells slots Q A a b H locs ls r1 r2 r3 r4 => ?_⟩
    exact lv_ldiv a.1 a.2.1 hd hz (k.2 p e R s m args below meth c cells slots Q A a b H locs ls r1 r2 r3 (VRs_cons VR_L (VRs_tl (VRs_tl r4))))
  next => cases h
theorem so_lrem (hd : decode (cdB mid) pc = .ok (.lrem, 1)) : Snd w l hs mid pc (opLBz remL (pc + 1)) := by
  intro C N d hC hN lv st S R' h
  unfold opLBz at h
  split at h
  next y x r =>
    have hz : ¬ y = 0 := by
      cases hq : nzL y
      · rw [hq] at h; cases h
      · exact of_decide_eq_true hq
    rw [show nzL y = true from decide_eq_true hz] at h
    have k := hN _ _ _ _ _ h
    refine ⟨k.1, fun p e R s m args below meth c cells slots Q A a b H locs ls r1 r2 r3 r4 => ?_⟩
    exact lv_lrem a.1 a.2.1 hd hz (k.2 p e R s m args below meth c cells slots Q A a b H locs ls r1 r2 r3 (VRs_cons VR_L (VRs_tl (VRs_tl r4))))
  next => cases h
theorem so_lshl (hd : decode (cdB mid) pc = .ok (.lshl, 1)) : Snd w l hs mid pc (opLS shlL (pc + 1)) := by
  intro C N d hC hN lv st S R' h
  unfold opLS at h
  split at h
  next y x r =>
    have k := hN _ _ _ _ _ h
    refine ⟨k.1, fun p e R s m args below meth c cells slots Q A a b H locs ls r1 r2 r3 r4 => ?_⟩
    exact lv_lshl a.1 a.2.1 hd rfl (k.2 p e R s m args below meth c cells slots Q A a b H locs ls r1 r2 r3 (VRs_cons VR_L (VRs_tl (VRs_tl r4))))
  next => cases h
theorem so_lshr (hd : decode (cdB mid) pc = .ok (.lshr, 1)) : Snd w l hs mid pc (opLS shrL (pc + 1)) := by
  intro C N d hC hN lv st S R' h
  unfold opLS at h
  split at h
  next y x r =>
    have k := hN _ _ _ _ _ h
    refine ⟨k.1, fun p e R s m args below meth c cells slots Q A a b H locs ls r1 r2 r3 r4 => ?_⟩
    exact lv_lshr a.1 a.2.1 hd rfl (k.2 p e R s m args below meth c cells slots Q A a b H locs ls r1 r2 r3 (VRs_cons VR_L (VRs_tl (VRs_tl r4))))
  next => cases h
theorem so_ineg (hd : decode (cdB mid) pc = .ok (.ineg, 1)) : Snd w l hs mid pc (opU (fun x => -x) (pc + 1)) := by
  intro C N d hC hN lv st S R' h
  unfold opU at h
  split at h
  next x r =>
    have k := hN _ _ _ _ _ h
    refine ⟨k.1, fun p e R s m args below meth c cells slots Q A a b H locs ls r1 r2 r3 r4 => ?_⟩
    exact lv_ineg a.1 a.2.1 hd (k.2 p e R s m args below meth c cells slots Q A a b H locs ls r1 r2 r3 (VRs_cons VR_I (VRs_tl r4)))
  next => cases h
theorem so_lneg (hd : decode (cdB mid) pc = .ok (.lneg, 1)) : Snd w l hs mid pc (opLU (fun x => -x) (pc + 1)) := by
  intro C N d hC hN lv st S R' h
  unfold opLU at h
  split at h
  next x r =>
    have k := hN _ _ _ _ _ h
    refine ⟨k.1, fun p e R s m args below meth c cells slots Q A a b H locs ls r1 r2 r3 r4 => ?_⟩
    exact lv_lneg a.1 a.2.1 hd (k.2 p e R s m args below meth c cells slots Q A a b H locs ls r1 r2 r3 (VRs_cons VR_L (VRs_tl r4)))
  next => cases h
theorem so_i2l (hd : decode (cdB mid) pc = .ok (.i2l, 1)) : Snd w l hs mid pc (opI2L (pc + 1)) := by
  intro C N d hC hN lv st S R' h
  unfold opI2L at h
  split at h
  next x r =>
    have k := hN _ _ _ _ _ h
    refine ⟨k.1, fun p e R s m args below meth c cells slots Q A a b H locs ls r1 r2 r3 r4 => ?_⟩
    exact lv_i2l a.1 a.2.1 hd rfl (k.2 p e R s m args below meth c cells slots Q A a b H locs ls r1 r2 r3 (VRs_cons VR_L (VRs_tl r4)))
  next => cases h
theorem so_l2i (hd : decode (cdB mid) pc = .ok (.l2i, 1)) : Snd w l hs mid pc (opL2I (pc + 1)) := by
  intro C N d hC hN lv st S R' h
  unfold opL2I at h
  split at h
  next x r =>
    have k := hN _ _ _ _ _ h
    refine ⟨k.1, fun p e R s m args below meth c cells slots Q A a b H locs ls r1 r2 r3 r4 => ?_⟩
    exact lv_l2i a.1 a.2.1 hd rfl (k.2 p e R s m args below meth c cells slots Q A a b H locs ls r1 r2 r3 (VRs_cons VR_I (VRs_tl r4)))
  next => cases h
theorem so_lcmp (hd : decode (cdB mid) pc = .ok (.lcmp, 1)) : Snd w l hs mid pc (opLcmp (pc + 1)) := by
  intro C N d hC hN lv st S R' h
  unfold opLcmp at h
  split at h
  next y x r =>
    have k := hN _ _ _ _ _ h
    refine ⟨k.1, fun p e R s m args below meth c cells slots Q A a b H locs ls r1 r2 r3 r4 => ?_⟩
    exact W.lcmp a.1 a.2.1 hd (k.2 p e R s m args below meth c cells slots Q A a b H locs ls r1 r2 r3 (VRs_cons VR_I (VRs_tl (VRs_tl r4))))
  next => cases h
theorem so_dup (hd : decode (cdB mid) pc = .ok (.dup, 1)) : Snd w l hs mid pc (opDup (pc + 1)) := by
  intro C N d hC hN lv st S R' h
  unfold opDup at h
  split at h
  next v r =>
    have hcv : catV v = 1 := by
      cases hq : Nat.beq (catV v) 1
      · simp [hq] at h
      · exact Nat.eq_of_beq_eq_true hq
    simp only [hcv, Nat.beq_refl, cond_true] at h
    have k := hN _ _ _ _ _ h
    refine ⟨k.1, fun p e R s m args below meth c cells slots Q A a b H locs ls r1 r2 r3 r4 => ?_⟩
    exact lv_dup a.1 a.2.1 hd (cat_cv hcv) (k.2 p e R s m args below meth c cells slots Q A a b H locs ls r1 r2 r3 (VRs_cons (VRs_hd r4) r4))
  next => cases h
theorem so_pop (hd : decode (cdB mid) pc = .ok (.pop, 1)) : Snd w l hs mid pc (opPop (pc + 1)) := by
  intro C N d hC hN lv st S R' h
  unfold opPop at h
  split at h
  next v r =>
    have hcv : catV v = 1 := by
      cases hq : Nat.beq (catV v) 1
      · simp [hq] at h
      · exact Nat.eq_of_beq_eq_true hq
    simp only [hcv, Nat.beq_refl, cond_true] at h
    have k := hN _ _ _ _ _ h
    refine ⟨k.1, fun p e R s m args below meth c cells slots Q A a b H locs ls r1 r2 r3 r4 => ?_⟩
    exact lv_pop a.1 a.2.1 hd (cat_cv hcv) (k.2 p e R s m args below meth c cells slots Q A a b H locs ls r1 r2 r3 (VRs_tl r4))
  next => cases h
theorem so_dup2 (hd : decode (cdB mid) pc = .ok (.dup2, 1)) : Snd w l hs mid pc (opDup2 (pc + 1)) := by
  intro C N d hC hN lv st S R' h
  unfold opDup2 at h
  split at h
  next v u r =>
    have hcv : catV v = 1 := by
      cases hq : Nat.beq (catV v) 1
      · simp [hq] at h
      · exact Nat.eq_of_beq_eq_true hq
    have hcu : catV u = 1 := by
      cases hq : Nat.beq (catV u) 1
      · simp [hq] at h
      · exact Nat.eq_of_beq_eq_true hq
    simp only [hcv, hcu, Nat.beq_refl, Bool.and_self, cond_true] at h
    have k := hN _ _ _ _ _ h
    refine ⟨k.1, fun p e R s m args below meth c cells slots Q A a b H locs ls r1 r2 r3 r4 => ?_⟩
    exact lv_dup2_11 a.1 a.2.1 hd (cat_cv hcv) (cat_cv hcu) (k.2 p e R s m args below meth c cells slots Q A a b H locs ls r1 r2 r3 (VRs_cons (VRs_hd r4) (VRs_cons (VRs_hd (VRs_tl r4)) r4)))
  next => cases h
theorem so_goto {t : Nat} {off : Int} (hd : decode (cdB mid) pc = .ok (.goto off, 3)) (ht : (pc : Int) + off = (t : Int)) : Snd w l hs mid pc (opGoto t) := by
  intro C N d hC hN lv st S R' h
  have k := hN _ _ _ _ _ h
  refine ⟨k.1, fun p e R s m args below meth c cells slots Q A a b H locs ls r1 r2 r3 r4 => ?_⟩
  exact lv_goto a.1 a.2.1 hd ht (k.2 p e R s m args below meth c cells slots Q A a b H locs ls r1 r2 r3 r4)
theorem so_if_eq {t : Nat} {off : Int} (hd : decode (cdB mid) pc = .ok (.ifCond .eq off, 3)) (ht : (pc : Int) + off = (t : Int)) : Snd w l hs mid pc (opIfEq t (pc + 3)) := by
  intro C N d hC hN lv st S R' h
  unfold opIfEq at h
  split at h
  next x r =>
    by_cases hc : x = 0
    next =>
      rw [if_pos hc] at h
      have k := hN _ _ _ _ _ h
      refine ⟨k.1, fun p e R s m args below meth c cells slots Q A a b H locs ls r1 r2 r3 r4 => ?_⟩
      exact lv_if_eq a.1 a.2.1 hd ht (fun _ => k.2 p e R s m args below meth c cells slots Q A a b H locs ls r1 r2 r3 (VRs_tl r4)) (fun q => absurd hc q)
    next =>
      rw [if_neg hc] at h
      have k := hN _ _ _ _ _ h
      refine ⟨k.1, fun p e R s m args below meth c cells slots Q A a b H locs ls r1 r2 r3 r4 => ?_⟩
      exact lv_if_eq a.1 a.2.1 hd ht (fun q => absurd q hc) (fun _ => k.2 p e R s m args below meth c cells slots Q A a b H locs ls r1 r2 r3 (VRs_tl r4))
  next => cases h
theorem so_if_ne {t : Nat} {off : Int} (hd : decode (cdB mid) pc = .ok (.ifCond .ne off, 3)) (ht : (pc : Int) + off = (t : Int)) : Snd w l hs mid pc (opIfNe t (pc + 3)) := by
  intro C N d hC hN lv st S R' h
  unfold opIfNe at h
  split at h
  next x r =>
    by_cases hc : x = 0
    next =>
      rw [if_pos hc] at h
      have k := hN _ _ _ _ _ h
      refine ⟨k.1, fun p e R s m args below meth c cells slots Q A a b H locs ls r1 r2 r3 r4 => ?_⟩
      exact lv_if_ne a.1 a.2.1 hd ht (fun q => absurd hc q) (fun _ => k.2 p e R s m args below meth c cells slots Q A a b H locs ls r1 r2 r3 (VRs_tl r4))
    next =>
      rw [if_neg hc] at h
      have k := hN _ _ _ _ _ h
      refine ⟨k.1, fun p e R s m args below meth c cells slots Q A a b H locs ls r1 r2 r3 r4 => ?_⟩
      exact lv_if_ne a.1 a.2.1 hd ht (fun _ => k.2 p e R s m args below meth c cells slots Q A a b H locs ls r1 r2 r3 (VRs_tl r4)) (fun q => absurd q hc)
  next => cases h
theorem so_if_lt {t : Nat} {off : Int} (hd : decode (cdB mid) pc = .ok (.ifCond .lt off, 3)) (ht : (pc : Int) + off = (t : Int)) : Snd w l hs mid pc (opIfLt t (pc + 3)) := by
  intro C N d hC hN lv st S R' h
  unfold opIfLt at h
  split at h
  next x r =>
    by_cases hc : x < 0
    next =>
      rw [if_pos hc] at h
      have k := hN _ _ _ _ _ h
      refine ⟨k.1, fun p e R s m args below meth c cells slots Q A a b H locs ls r1 r2 r3 r4 => ?_⟩
      exact lv_if_lt a.1 a.2.1 hd ht (fun _ => k.2 p e R s m args below meth c cells slots Q A a b H locs ls r1 r2 r3 (VRs_tl r4)) (fun q => absurd hc q)
    next =>
      rw [if_neg hc] at h
      have k := hN _ _ _ _ _ h
      refine ⟨k.1, fun p e R s m args below meth c cells slots Q A a b H locs ls r1 r2 r3 r4 => ?_⟩
      exact lv_if_lt a.1 a.2.1 hd ht (fun q => absurd q hc) (fun _ => k.2 p e R s m args below meth c cells slots Q A a b H locs ls r1 r2 r3 (VRs_tl r4))
  next => cases h
theorem so_if_ge {t : Nat} {off : Int} (hd : decode (cdB mid) pc = .ok (.ifCond .ge off, 3)) (ht : (pc : Int) + off = (t : Int)) : Snd w l hs mid pc (opIfGe t (pc + 3)) := by
  intro C N d hC hN lv st S R' h
  unfold opIfGe at h
  split at h
  next x r =>
    by_cases hc : 0 ≤ x
    next =>
      rw [if_pos hc] at h
      have k := hN _ _ _ _ _ h
      refine ⟨k.1, fun p e R s m args below meth c cells slots Q A a b H locs ls r1 r2 r3 r4 => ?_⟩
      exact lv_if_ge a.1 a.2.1 hd ht (fun _ => k.2 p e R s m args below meth c cells slots Q A a b H locs ls r1 r2 r3 (VRs_tl r4)) (fun q => absurd hc q)
    next =>
      rw [if_neg hc] at h
      have k := hN _ _ _ _ _ h
      refine ⟨k.1, fun p e R s m args below meth c cells slots Q A a b H locs ls r1 r2 r3 r4 => ?_⟩
      exact lv_if_ge a.1 a.2.1 hd ht (fun q => absurd q hc) (fun _ => k.2 p e R s m args below meth c cells slots Q A a b H locs ls r1 r2 r3 (VRs_tl r4))
  next => cases h
theorem so_if_gt {t : Nat} {off : Int} (hd : decode (cdB mid) pc = .ok (.ifCond .gt off, 3)) (ht : (pc : Int) + off = (t : Int)) : Snd w l hs mid pc (opIfGt t (pc + 3)) := by
  intro C N d hC hN lv st S R' h
  unfold opIfGt at h
  split at h
  next x r =>
    by_cases hc : 0 < x
    next =>
      rw [if_pos hc] at h
      have k := hN _ _ _ _ _ h
      refine ⟨k.1, fun p e R s m args below meth c cells slots Q A a b H locs ls r1 r2 r3 r4 => ?_⟩
      exact lv_if_gt a.1 a.2.1 hd ht (fun _ => k.2 p e R s m args below meth c cells slots Q A a b H locs ls r1 r2 r3 (VRs_tl r4)) (fun q => absurd hc q)
    next =>
      rw [if_neg hc] at h
      have k := hN _ _ _ _ _ h
      refine ⟨k.1, fun p e R s m args below meth c cells slots Q A a b H locs ls r1 r2 r3 r4 => ?_⟩
      exact lv_if_gt a.1 a.2.1 hd ht (fun q => absurd q hc) (fun _ => k.2 p e R s m args below meth c cells slots Q A a b H locs ls r1 r2 r3 (VRs_tl r4))
  next => cases h
theorem so_if_le {t : Nat} {off : Int} (hd : decode (cdB mid) pc = .ok (.ifCond .le off, 3)) (ht : (pc : Int) + off = (t : Int)) : Snd w l hs mid pc (opIfLe t (pc + 3)) := by
  intro C N d hC hN lv st S R' h
  unfold opIfLe at h
  split at h
  next x r =>
    by_cases hc : x ≤ 0
    next =>
      rw [if_pos hc] at h
      have k := hN _ _ _ _ _ h
      refine ⟨k.1, fun p e R s m args below meth c cells slots Q A a b H locs ls r1 r2 r3 r4 => ?_⟩
      exact lv_if_le a.1 a.2.1 hd ht (fun _ => k.2 p e R s m args below meth c cells slots Q A a b H locs ls r1 r2 r3 (VRs_tl r4)) (fun q => absurd hc q)
    next =>
      rw [if_neg hc] at h
      have k := hN _ _ _ _ _ h
      refine ⟨k.1, fun p e R s m args below meth c cells slots Q A a b H locs ls r1 r2 r3 r4 => ?_⟩
      exact lv_if_le a.1 a.2.1 hd ht (fun q => absurd q hc) (fun _ => k.2 p e R s m args below meth c cells slots Q A a b H locs ls r1 r2 r3 (VRs_tl r4))
  next => cases h
theorem so_icmp_eq {t : Nat} {off : Int} (hd : decode (cdB mid) pc = .ok (.if_icmp .eq off, 3)) (ht : (pc : Int) + off = (t : Int)) : Snd w l hs mid pc (opCpEq t (pc + 3)) := by
  intro C N d hC hN lv st S R' h
  unfold opCpEq at h
  split at h
  next y x r =>
    by_cases hc : x = y
    next =>
      rw [if_pos hc] at h
      have k := hN _ _ _ _ _ h
      refine ⟨k.1, fun p e R s m args below meth c cells slots Q A a b H locs ls r1 r2 r3 r4 => ?_⟩
      exact lv_icmp_eq a.1 a.2.1 hd ht (fun _ => k.2 p e R s m args below meth c cells slots Q A a b H locs ls r1 r2 r3 (VRs_tl (VRs_tl r4))) (fun q => absurd hc q)
    next =>
      rw [if_neg hc] at h
      have k := hN _ _ _ _ _ h
      refine ⟨k.1, fun p e R s m args below meth c cells slots Q A a b H locs ls r1 r2 r3 r4 => ?_⟩
      exact lv_icmp_eq a.1 a.2.1 hd ht (fun q => absurd q hc) (fun _ => k.2 p e R s m args below meth c cells slots Q A a b H locs ls r1 r2 r3 (VRs_tl (VRs_tl r4)))
  next => cases h
theorem so_icmp_ne {t : Nat} {off : Int} (hd : decode (cdB mid) pc = .ok (.if_icmp .ne off, 3)) (ht : (pc : Int) + off = (t : Int)) : Snd w l hs mid pc (opCpNe t (pc + 3)) := by
  intro C N d hC hN lv st S R' h
  unfold opCpNe at h
  split at h
  next y x r =>
    by_cases hc : x = y
    next =>
      rw [if_pos hc] at h
      have k := hN _ _ _ _ _ h
      refine ⟨k.1, fun p e R s m args below meth c cells slots Q A a b H locs ls r1 r2 r3 r4 => ?_⟩
      exact lv_icmp_ne a.1 a.2.1 hd ht (fun q => absurd hc q) (fun _ => k.2 p e R s m args below meth c cells slots Q A a b H locs ls r1 r2 r3 (VRs_tl (VRs_tl r4)))
    next =>
      rw [if_neg hc] at h
      have k := hN _ _ _ _ _ h
      refine ⟨k.1, fun p e R s m args below meth c cells slots Q A a b H locs ls r1 r2 r3 r4 => ?_⟩
      exact lv_icmp_ne a.1 a.2.1 hd ht (fun _ => k.2 p e R s m args below meth c cells slots Q A a b H locs ls r1 r2 r3 (VRs_tl (VRs_tl r4))) (fun q => absurd q hc)
  next => cases h
theorem so_icmp_lt {t : Nat} {off : Int} (hd : decode (cdB mid) pc = .ok (.if_icmp .lt off, 3)) (ht : (pc : Int) + off = (t : Int)) : Snd w l hs mid pc (opCpLt t (pc + 3)) := by
  intro C N d hC hN lv st S R' h
  unfold opCpLt at h
  split at h
  next y x r =>
    by_cases hc : x < y
    next =>
      rw [if_pos hc] at h
      have k := hN _ _ _ _ _ h
      refine ⟨k.1, fun p e R s m args below meth c cells slots Q A a b H locs ls r1 r2 r3 r4 => ?_⟩
      exact lv_icmp_lt a.1 a.2.1 hd ht (fun _ => k.2 p e R s m args below meth c cells slots Q A a b H locs ls r1 r2 r3 (VRs_tl (VRs_tl r4))) (fun q => absurd hc q)
    next =>
      rw [if_neg hc] at h
      have k := hN _ _ _ _ _ h
      refine ⟨k.1, fun p e R s m args below meth c cells slots Q A a b H locs ls r1 r2 r3 r4 => ?_⟩
      exact lv_icmp_lt a.1 a.2.1 hd ht (fun q => absurd q hc) (fun _ => k.2 p e R s m args below meth c cells slots Q A a b H locs ls r1 r2 r3 (VRs_tl (VRs_tl r4)))
  next => cases h
theorem so_icmp_ge {t : Nat} {off : Int} (hd : decode (cdB mid) pc = .ok (.if_icmp .ge off, 3)) (ht : (pc : Int) + off = (t : Int)) : Snd w l hs mid pc (opCpGe t (pc + 3)) := by
  intro C N d hC hN lv st S R' h
  unfold opCpGe at h
  split at h
  next y x r =>
    by_cases hc : y ≤ x
    next =>
      rw [if_pos hc] at h
      have k := hN _ _ _ _ _ h
      refine ⟨k.1, fun p e R s m args below meth c cells slots Q A a b H locs ls r1 r2 r3 r4 => ?_⟩
      exact lv_icmp_ge a.1 a.2.1 hd ht (fun _ => k.2 p e R s m args below meth c cells slots Q A a b H locs ls r1 r2 r3 (VRs_tl (VRs_tl r4))) (fun q => absurd hc q)
    next =>
      rw [if_neg hc] at h
      have k := hN _ _ _ _ _ h
      refine ⟨k.1, fun p e R s m args below meth c cells slots Q A a b H locs ls r1 r2 r3 r4 => ?_⟩
      exact lv_icmp_ge a.1 a.2.1 hd ht (fun q => absurd q hc) (fun _ => k.2 p e R s m args below meth c cells slots Q A a b H locs ls r1 r2 r3 (VRs_tl (VRs_tl r4)))
  next => cases h
theorem so_icmp_gt {t : Nat} {off : Int} (hd : decode (cdB mid) pc = .ok (.if_icmp .gt off, 3)) (ht : (pc : Int) + off = (t : Int)) : Snd w l hs mid pc (opCpGt t (pc + 3)) := by
  intro C N d hC hN lv st S R' h
  unfold opCpGt at h
  split at h
  next y x r =>
    by_cases hc : y < x
    next =>
      rw [if_pos hc] at h
      have k := hN _ _ _ _ _ h
      refine ⟨k.1, fun p e R s m args below meth c cells slots Q A a b H locs ls r1 r2 r3 r4 => ?_⟩
      exact lv_icmp_gt a.1 a.2.1 hd ht (fun _ => k.2 p e R s m args below meth c cells slots Q A a b H locs ls r1 r2 r3 (VRs_tl (VRs_tl r4))) (fun q => absurd hc q)
    next =>
      rw [if_neg hc] at h
      have k := hN _ _ _ _ _ h
      refine ⟨k.1, fun p e R s m args below meth c cells slots Q A a b H locs ls r1 r2 r3 r4 => ?_⟩
      exact lv_icmp_gt a.1 a.2.1 hd ht (fun q => absurd q hc) (fun _ => k.2 p e R s m args below meth c cells slots Q A a b H locs ls r1 r2 r3 (VRs_tl (VRs_tl r4)))
  next => cases h
theorem so_icmp_le {t : Nat} {off : Int} (hd : decode (cdB mid) pc = .ok (.if_icmp .le off, 3)) (ht : (pc : Int) + off = (t : Int)) : Snd w l hs mid pc (opCpLe t (pc + 3)) := by
  intro C N d hC hN lv st S R' h
  unfold opCpLe at h
  split at h
  next y x r =>
    by_cases hc : x ≤ y
    next =>
      rw [if_pos hc] at h
      have k := hN _ _ _ _ _ h
      refine ⟨k.1, fun p e R s m args below meth c cells slots Q A a b H locs ls r1 r2 r3 r4 => ?_⟩
      exact lv_icmp_le a.1 a.2.1 hd ht (fun _ => k.2 p e R s m args below meth c cells slots Q A a b H locs ls r1 r2 r3 (VRs_tl (VRs_tl r4))) (fun q => absurd hc q)
    next =>
      rw [if_neg hc] at h
      have k := hN _ _ _ _ _ h
      refine ⟨k.1, fun p e R s m args below meth c cells slots Q A a b H locs ls r1 r2 r3 r4 => ?_⟩
      exact lv_icmp_le a.1 a.2.1 hd ht (fun q => absurd q hc) (fun _ => k.2 p e R s m args below meth c cells slots Q A a b H locs ls r1 r2 r3 (VRs_tl (VRs_tl r4)))
  next => cases h
end SOP
