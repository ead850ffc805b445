/-! THE CLAIM, out of the one walk of the law (head and end began as the kit's skeleton) -/
/-! THE CLAIM OUT OF ONE WALK OF THE LAW'S BODY. Your part is whole_start (and what it stands on); all else here is the same for every law, but numbers. -/
def R_law : String := "MeshedPagesLaw"
def lw_P (b : Addr) (xs : List Int32) (args : Array Value) (s : State) : Prop := args = #[.ref b] ∧ s.IntsAt b xs ∧ xs.length ≤ 3072 ∧ (Jvm.Cond.and given_1 narrow_1).before args s = true
def lw_Q (_ : Array Value) (s : State) (o : Outcome) (t : State) : Prop := o = .returned (some (.int 1)) ∧ Framed s o t [] 600000 7302250
def lw_Z (below : List Frame) (a : Array Value) (s : State) : State → Prop := fun t => ∃ o, t.status = .running ∧ Ended t below o ∧ lw_Q a s o t
/-- the law's own end, with 1 on the stack, nothing written that was there before, its room as the claim has it -/
theorem lw_ret {p : Program} {l : Launch} {e : Jvm.Env} {s : State} {m : MethodId} {below : List Frame} {meth : Method} {c : Code} {b : Nat} (hx : p.tables.exec = Jvm.exec) (hb : c.code = code) (hr : meth.sig.returnType = ret) (hlocks : meth.locks = false) {pc : Nat} {H : Heap} {ls : Array Slot} (hdg : decode code pc = .ok (.ireturn, 1)) : W p l e room_1 s m #[Value.ref b] below meth c H [] 600000 7302250 (lw_Z below #[Value.ref b] s) (F0 m pc ls [.int 1]) := by
  intro T hT X
  obtain ⟨fs, hret, hrun, hended, hW, hframe⟩ := X.leave (v := some (.int 1)) (hlocks := hlocks) (fun h => by rw [hr] at h; cases h)
  have hmeth' : T.vm.method? m = some meth := X.method'
  refine ⟨T.setFrames fs, ?_, .returned (some (.int 1)), hrun, hended, rfl, ⟨_, rfl⟩, hW, hframe⟩
  jvm_step X.here [X.here.top, hx, hb, hdg, hmeth', hr, ret, narrow_b1]
  (try refine ⟨rfl, ?_⟩); (try refine ⟨rfl, ?_⟩)
  first | (intro acts; rw [hret _ acts rfl rfl rfl]) | rw [hret _ _ rfl rfl rfl]
  exact Steps.refl _
/-- what holds at the law's entry: the machine, the code, the tables' words (any of lw_tbl by 'hts w (by decide +kernel)'), the script of L ints xs at the cell b, what the Statement gives of the start (any of its parts by flat_of_before) -/
def lw_At (p : Program) (s : State) (m : MethodId) (meth : Method) (c : Code) (b L : Nat) (xs : Nat → Int32) : Prop :=
  p.tables.exec = Jvm.exec ∧ c.code = code ∧ meth.sig.returnType = ret ∧ c.maxLocals = 4 ∧ s.vm.findClass R_law = some m.cls ∧ (∀ w ∈ lw_tbl, w.before #[Value.ref b] s = true) ∧ va_X b L xs s s.heap ∧ b < s.heap.size ∧ meth.locks = false ∧ (Jvm.Cond.and given_1 narrow_1).before #[Value.ref b] s = true
theorem wy1 : (Jvm.Cond.initialized "MeshedPages") ∈ lw_good := wt_1 (i := 1) (by decide +kernel) rfl
theorem wy10 : (Jvm.Cond.initialized "MeshedPagesModel") ∈ lw_good := wt_1 (i := 10) (by decide +kernel) rfl
theorem wy18 : (Jvm.Cond.classLink "MeshedPagesLaw" (7 : Nat) "MeshedPages") ∈ lw_good := wt_1 (i := 18) (by decide +kernel) rfl
theorem wy19 : (Jvm.Cond.instantiable "MeshedPages" (8 : Nat)) ∈ lw_good := wt_1 (i := 19) (by decide +kernel) rfl
theorem wy20 : (Jvm.Cond.methodLink "MeshedPagesLaw" (9 : Nat) ({ cls := "MeshedPages", name := "<init>", desc := "()V" } : Jvm.MethodName)) ∈ lw_good := wt_1 (i := 20) (by decide +kernel) rfl
theorem wy21 : (Jvm.Cond.instanceMethod ({ cls := "MeshedPages", name := "<init>", desc := "()V" } : Jvm.MethodName)) ∈ lw_good := wt_1 (i := 21) (by decide +kernel) rfl
theorem wy22 : (Jvm.Cond.code ({ cls := "MeshedPages", name := "<init>", desc := "()V" } : Jvm.MethodName) prog_1_method_1_code (2 : Nat) (Option.none : Option Jvm.ClassFile.FieldType)) ∈ lw_good := wt_1 (i := 22) (by decide +kernel) rfl
theorem wy76 : (Jvm.Cond.classLink "MeshedPagesLaw" (10 : Nat) "MeshedPagesModel") ∈ lw_good := wt_5 (i := 76) (by decide +kernel) rfl
theorem wy77 : (Jvm.Cond.instantiable "MeshedPagesModel" (32 : Nat)) ∈ lw_good := wt_5 (i := 77) (by decide +kernel) rfl
theorem wy78 : (Jvm.Cond.methodLink "MeshedPagesLaw" (12 : Nat) ({ cls := "MeshedPagesModel", name := "<init>", desc := "()V" } : Jvm.MethodName)) ∈ lw_good := wt_5 (i := 78) (by decide +kernel) rfl
theorem wy79 : (Jvm.Cond.instanceMethod ({ cls := "MeshedPagesModel", name := "<init>", desc := "()V" } : Jvm.MethodName)) ∈ lw_good := wt_5 (i := 79) (by decide +kernel) rfl
theorem wy80 : (Jvm.Cond.code ({ cls := "MeshedPagesModel", name := "<init>", desc := "()V" } : Jvm.MethodName) prog_10_method_1_code (2 : Nat) (Option.none : Option Jvm.ClassFile.FieldType)) ∈ lw_good := wt_5 (i := 80) (by decide +kernel) rfl
section ST9
variable {p : Program} {l : Launch} {e : Jvm.Env} {s : State} {m : MethodId} {below : List Frame} {meth : Method} {c : Code} {b L : Nat} {xs : Nat → Int32} {w : WT}
/-- the law's loop, from the world that the constructors made -/
theorem loop_9 (hx : p.tables.exec = Jvm.exec) (hb : c.code = code) (hr : meth.sig.returnType = ret) (hml : c.maxLocals = 4) (hown : s.vm.findClass R_law = some m.cls) (hts : ∀ x ∈ lw_good, x.before #[Value.ref b] s = true) (hX : va_X b L xs s s.heap) (hbl : b < s.heap.size) (hlocks : meth.locks = false) (hL : L ≤ 3072)
    (hwb : wb w = s.heap.size) (hwL : wL w = List.range 541) (hwk : wk w = K0) (hsc : wsc w = b) (hK : va_K (wD w) vwCl (wty w) s) (hStr : StrW w (fun q : Nat => s.heap.size ≤ q) s s.heap) {H : Heap} {locs : List Loc} {ls : Array Slot} (hl : lv_has ls 4 [(3, .int 0), (2, .ref (wb w + 524)), (1, .ref (wb w + 0)), (0, .ref b)]) (hP : va_P (wD w) vwCl (WL w (S9 L xs)) H) (hD : va_D (fun q : Nat => s.heap.size ≤ q) (WL w (S9 L xs))) (hS : va_S (fun q : Nat => s.heap.size ≤ q) s.heap H locs) : W p l e room_1 s m #[Value.ref b] below meth c H locs 541 82875 (lw_Z below #[Value.ref b] s) (F0 m 18 ls []) := by
  obtain ⟨S', hev⟩ := lw_loop (d := 0) (w := 0) (x := 0) (r := 524) (by decide) (by decide) (L + 1) 0 (S9 L xs) Z9 ⟨ClR_9, MoR_9, ZI_9⟩ (show L < 2 ^ 31 by omega) (show L < 0 + (L + 1) by omega) (Nat.zero_le _)
  have hG := ev_good (w := w) (l := l) true hev
  have hm0 : 0 ∈ wL w ∧ wk w 0 = 7 := by rw [hwL, hwk]; exact ⟨List.mem_range.mpr (by decide), by decide +kernel⟩
  have hm8 : 524 ∈ wL w ∧ wk w 524 = 8 := by rw [hwL, hwk]; exact ⟨List.mem_range.mpr (by decide), by decide +kernel⟩
  refine hG.2 p e room_1 s m #[Value.ref b] below meth c 541 82875 _ (fun q : Nat => s.heap.size ≤ q) ⟨hx, hb, hml, hown, hts, hK, ⟨Nat.le_of_ble_eq_true rfl, Nat.le_of_ble_eq_true rfl⟩, ⟨Nat.le_of_ble_eq_true rfl, Nat.le_of_ble_eq_true rfl⟩, hStr, WOK_9 hwL hwk, fun q hq => ?_⟩ ?_ H locs ls ⟨hP, hD, hS, SInv_9 hwL hwk, fun _ => ⟨by rw [hsc]; exact hX, by rw [hsc]; exact hbl, by rw [hsc]; exact Nat.not_le.mpr hbl⟩⟩ ⟨hl.1, hl.2.1, rfl, fun i v hv hu => ?_⟩ (VRs_cons (Or.inr (Or.inl ⟨rfl, rfl⟩)) (VRs_cons (Or.inr (Or.inr (Or.inr hm0))) (VRs_cons (Or.inr (Or.inr (Or.inr hm8))) (VRs_cons VR_I (fun _ z => by cases z))))) (fun _ z => by cases z)
  · obtain ⟨t, ht, rfl⟩ := hq
    show s.heap.size ≤ wb w + t
    rw [hwb]; exact Nat.le_add_right _ _
  · intro H locs ls pc r1 hvr hrt hdc
    have hdc : decode code pc = .ok (.ireturn, 1) := hdc
    refine va_forget (fun q hq => r1.2.2.1.2.2 q hq) ?_
    refine W.widen (k := 600000) (n := 7302250) (Nat.le_of_ble_eq_true rfl) (Nat.le_of_ble_eq_true rfl) ?_
    exact lw_ret hx hb hr hlocks hdc
  · match i, hv with
    | 0, hv =>
      cases hv
      have h9 := lv_at hl 3 rfl
      have e9 : cv w (vR 40 0) = .ref b := by rw [← hsc]; rfl
      rw [e9]; exact h9
    | 1, hv =>
      cases hv
      have h9 := lv_at hl 2 rfl
      have e9 : cv w (vR 7 0) = .ref (wb w + 0) := cv_R (by decide) (by decide)
      rw [e9]; exact h9
    | 2, hv =>
      cases hv
      have h9 := lv_at hl 1 rfl
      have e9 : cv w (vR 8 524) = .ref (wb w + 524) := cv_R (by decide) (by decide)
      rw [e9]; exact h9
    | 3, hv =>
      cases hv
      exact lv_at hl 0 rfl
    | n + 4, hv => cases hv
set_option maxHeartbeats 4000000 in
set_option maxRecDepth 100000 in
theorem walk_9 (hx : p.tables.exec = Jvm.exec) (hb : c.code = code) (hr : meth.sig.returnType = ret) (hml : c.maxLocals = 4) (hown : s.vm.findClass R_law = some m.cls) (hts : ∀ x ∈ lw_good, x.before #[Value.ref b] s = true) (hX : va_X b L xs s s.heap) (hbl : b < s.heap.size) (hlocks : meth.locks = false) (hL : L ≤ 3072)
    (hwb : wb w = s.heap.size) (hwL : wL w = List.range 541) (hwk : wk w = K0) (hsc : wsc w = b) (hK : va_K (wD w) vwCl (wty w) s) (hNW : NWs s) (hStr : StrW w (fun q : Nat => s.heap.size ≤ q) s s.heap) (hAP : va_AO "MeshedPages$Pages" s) (hAT : va_AO "MeshedPages$Text" s) : W p l e room_1 s m #[Value.ref b] below meth c s.heap [] 0 0 (lw_Z below #[Value.ref b] s) (entryFrame m ([Value.ref b] : List Value).toArray 4) := by
  have hA : ∀ q : Nat, s.heap.size ≤ q → (fun q : Nat => s.heap.size ≤ q) q := fun _ h => h
  have hS : va_S (fun q : Nat => s.heap.size ≤ q) s.heap s.heap [] := va_S.rf
  have hP : va_P (wD w) vwCl [] s.heap := fun k q h => by simp at h
  have hD : va_D (fun q : Nat => s.heap.size ≤ q) [] := ⟨fun i j p q h => by simp at h, fun k q h => by simp at h⟩
  have hl := lv_entry ([.ref b]) (n := 4) (Nat.le_of_ble_eq_true rfl)
  rw [lg_entry_eq]
  generalize (lg_sl ([.ref b]) ++ List.replicate (4 - (lg_sl ([.ref b])).length) Slot.unset).toArray = ls at hl ⊢
  have hl : lv_has ls 4 [(0, .ref b)] := hl
  refine vn_makeJ (t := 0) (n := 524) (mc := 523) (ms := 38871) (ci := 7) (N := 8) (fs := [.null, .null, .null, .null, .null, .null, .null, .null]) (C := RX7) (T := TX7) (y := yX7_init) (host := "") (dd := 9) (own := R_law) hx hb hml hl.1 hown hts hK hNW hStr hAP hAT hP hD hS hA (by omega) (show decode code 0 = .ok (.new 7, 3) by decide +kernel) (show decode code 3 = .ok (.dup, 1) by decide +kernel) (show decode code 4 = .ok (.invokespecial 9, 3) by decide +kernel) rfl inX7g tyX7 tyX7_ok (by decide) wy18 wy19 wy1 (ct_X7 w l 0 rfl) (by decide +kernel) (Or.inl wy20) wy21 wy22 (Nat.le_of_ble_eq_true rfl) (Nat.le_of_ble_eq_true rfl) (Nat.le_of_ble_eq_true rfl) (Nat.le_of_ble_eq_true rfl) (Nat.le_of_ble_eq_true rfl) (fun H locs hP hD hS => ?_)
  have hP : va_P (wD w) vwCl ([] ++ blk w 0 524) H := hP
  have hD : va_D (fun q : Nat => s.heap.size ≤ q) ([] ++ blk w 0 524) := hD
  refine W.widen (k := 524) (n := 38879) (Nat.le_of_ble_eq_true rfl) (Nat.le_of_ble_eq_true rfl) ?_
  refine lv_astore_n (lv' := [(1, .ref (wb w + 0)), (0, .ref b)]) hx hb (show decode code 7 = .ok (.astore_n 1, 1) by decide +kernel) rfl hl (by decide) rfl (fun ls hl => ?_)
  have hlow : s.heap.size + 524 ≤ H.size := by have := blk_last hP (by decide); omega
  refine W_size hlow (fun hz => ?_)
  refine vn_make (t := 524) (n := 17) (mc := 16) (ms := 43964) (ci := 8) (N := 32) (fs := [.null, .null, .null, .null, .int 0, .int 0, .int 0, .int 0, .int 0, .int 0, .int 0, .long 0, .int 0, .int 0, .int 0, .null, .int 0, .int 0, .int 0, .int 0, .null, .null, .null, .null, .null, .int 0, .null, .null, .null, .null, .null, .null]) (C := RX8) (T := TX8) (y := yX8_init) (host := "") (dd := 3) (own := R_law) hx hb hml hl.1 hown hts hK hNW hStr hP hD hS hA (by omega) (show decode code 8 = .ok (.new 10, 3) by decide +kernel) (show decode code 11 = .ok (.dup, 1) by decide +kernel) (show decode code 12 = .ok (.invokespecial 12, 3) by decide +kernel) rfl inX8g tyX8 tyX8_ok (by decide) wy76 wy77 wy10 (ct_X8 w l 524 rfl) (by decide +kernel) (Or.inl wy78) wy79 wy80 (Nat.le_of_ble_eq_true rfl) (Nat.le_of_ble_eq_true rfl) (Nat.le_of_ble_eq_true rfl) (Nat.le_of_ble_eq_true rfl) (Nat.le_of_ble_eq_true rfl) (fun H locs hP hD hS => ?_)
  have hP : va_P (wD w) vwCl (blk w 0 524 ++ blk w 524 17) H := hP
  have hD : va_D (fun q : Nat => s.heap.size ≤ q) (blk w 0 524 ++ blk w 524 17) := hD
  clear hlow hz
  refine W.widen (k := 541) (n := 82875) (Nat.le_of_ble_eq_true rfl) (Nat.le_of_ble_eq_true rfl) ?_
  refine lv_astore_n (lv' := [(2, .ref (wb w + 524)), (1, .ref (wb w + 0)), (0, .ref b)]) hx hb (show decode code 15 = .ok (.astore_n 2, 1) by decide +kernel) rfl hl (by decide) rfl (fun ls hl => ?_)
  refine lv_iconst (v := 0) hx hb (show decode code 16 = .ok (.iconst 0, 1) by decide +kernel) (by decide) ?_
  refine lv_istore_n (lv' := [(3, .int 0), (2, .ref (wb w + 524)), (1, .ref (wb w + 0)), (0, .ref b)]) hx hb (show decode code 17 = .ok (.istore_n 3, 1) by decide +kernel) rfl hl (by decide) rfl (fun ls hl => ?_)
  have hW : WL w (S9 L xs) = blk w 0 524 ++ blk w 524 17 := by
    rw [WL_9 hwL hwk]
    exact blk_app w 0 524 17
  exact loop_9 hx hb hr hml hown hts hX hbl hlocks hL hwb hwL hwk hsc hK hStr hl (by rw [hW]; exact hP) (by rw [hW]; exact hD) hS
end ST9
theorem w9_b {D : va_G} {cI cZ cJ cT cP : ClassId} {z b : Nat} {kS vS : Nat → Nat} : wb (w9 D cI cZ cJ cT cP z b kS vS) = z := rfl
set_option maxRecDepth 100000 in
theorem w9_L {D : va_G} {cI cZ cJ cT cP : ClassId} {z b : Nat} {kS vS : Nat → Nat} : wL (w9 D cI cZ cJ cT cP z b kS vS) = List.range 541 := by
  unfold w9
  exact Eq.refl (List.range 541)
theorem w9_k {D : va_G} {cI cZ cJ cT cP : ClassId} {z b : Nat} {kS vS : Nat → Nat} : wk (w9 D cI cZ cJ cT cP z b kS vS) = K0 := rfl
theorem w9_s {D : va_G} {cI cZ cJ cT cP : ClassId} {z b : Nat} {kS vS : Nat → Nat} : wsc (w9 D cI cZ cJ cT cP z b kS vS) = b := rfl
set_option maxRecDepth 100000 in
/-- from the entry, for every script of at most 3072 ints, the law comes to its end with true -/
theorem whole_start {p : Program} {e : Jvm.Env} {s : State} {m : MethodId} {below : List Frame} {meth : Method} {c : Code} (l : Launch) (hflags : l.flags = flags0) {b L : Nat} {xs : Nat → Int32} (hL : L ≤ 3072) (C0 : lw_At p s m meth c b L xs) : W p l e room_1 s m #[Value.ref b] below meth c s.heap [] 0 0 (lw_Z below #[Value.ref b] s) (entryFrame m ([Value.ref b] : List Value).toArray 4) := by
  obtain ⟨hx, hb, hr, hml, hown, hts0, hX, hbl, hlocks, hgv⟩ := C0
  obtain ⟨D, cI, cZ, cJ, cT, cP, hK⟩ := world_K hts0
  obtain ⟨kS, vS, hStr⟩ := world_S (A := fun q : Nat => s.heap.size ≤ q) hts0 hgv (fun a ha => Nat.not_le.mpr ha)
  exact walk_9 (w := w9 D cI cZ cJ cT cP s.heap.size b kS vS) hx hb hr hml hown (fun x hx => hts0 x (List.mem_filter.mp hx).1) hX hbl hlocks hL w9_b w9_L w9_k w9_s hK (world_N hts0) hStr (va_AO.of (hts0 _ (tb_1 (i := 192) (by decide +kernel)))) (va_AO.of (hts0 _ (tb_1 (i := 116) (by decide +kernel))))
