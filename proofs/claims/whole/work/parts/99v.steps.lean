/-! CONSTRUCTORS: the steps -/
def gR (N : Nat) (h : Nat → Nat) (j i : Nat) : Option Nat := if j ≤ i ∧ i < N then none else some (h i)
theorem gR_0 {N : Nat} {h : Nat → Nat} {i : Nat} (hi : i < N) : gR N h 0 i = none := if_pos ⟨Nat.zero_le _, hi⟩
theorem gR_N {N : Nat} {h : Nat → Nat} : gR N h N = fun i => some (h i) := funext fun i => if_neg (by omega)
theorem gR_up {N : Nat} {h : Nat → Nat} {j : Nat} (hj : j < N) : va_up (gR N h j) j (some (h j)) = gR N h (j + 1) := funext fun i => by
  show (if i = j then some (h j) else gR N h j i) = gR N h (j + 1) i
  unfold gR
  by_cases z : i = j
  · rw [if_pos z, if_neg (by omega), z]
  · rw [if_neg z]
    by_cases y : j ≤ i ∧ i < N
    · rw [if_pos y, if_pos (by omega)]
    · rw [if_neg y, if_neg (by omega)]
section NG
variable {p : Program} {l : Launch} {e : Jvm.Env} {R : Room} {s : State} {m : MethodId} {args : Array Value} {below : List Frame} {meth : Method} {c : Code} {H : Heap} {locs : List Loc} {cells slots : Nat} {Q : State → Prop}
variable {cc : ByteArray} {pc : Nat} {ls : Array Slot} {rest : List Value} {D : va_G} {cl : List vw_C} {A : Nat → Prop} {ws : va_W} {H0 : Heap}
theorem vn_newG (hexec : p.tables.exec = Jvm.exec) (hb : c.code = cc) {own C : String} {index : Nat} {f : Nat → Option Nat} {N' : Nat} {cA : ClassId} (hf : ∀ j, j < N' → f j = none) (hown : s.vm.findClass own = some m.cls) (hclink : (Cond.classLink own index C).before args s = true) (hover : (Cond.arrayOver (.object C)).before args s = true) (hP : va_P D cl ws H) (hD : va_D A ws) (hS : va_S A H0 H locs) (hA : ∀ q, H0.size ≤ q → A q)
    {n : Int32} (hcA : s.vm.findClass ("[" ++ (FieldType.object C).toString) = some cA) (hn : ¬ n < 0) (hN : n.toNatClampNeg = N') (hbytes : N' * 4 ≤ 536870912) (hcells : cells + 1 ≤ R.cells) (hslots : slots + N' ≤ R.slots) (hdg : decode cc pc = .ok (.anewarray index, 3)) {z : Nat} (hz : H.size = z)
    (kk : ∀ H1 : Heap, va_P D cl (ws ++ [(z, .inl (cA, N', .inr (.inr (.inr (.inr f)))))]) H1 → va_D A (ws ++ [(z, .inl (cA, N', .inr (.inr (.inr (.inr f)))))]) → va_S A H0 H1 locs → H1.size = z + 1 → W p l e R s m args below meth c H1 locs (cells + 1) (slots + N') Q (F0 m (pc + 3) ls (.ref z :: rest))) : W p l e R s m args below meth c H locs cells slots Q (F0 m pc ls (.int n :: rest)) := by
  subst hN
  subst hz
  refine W.anew hexec hb hown hclink hover rfl hdg rfl hn hbytes hcells hslots fun cA' kA comp f1 f2 f3 f4 => ?_
  cases hcA.symm.trans f1
  generalize hH1 : H.push ({ cls := cA, slots := Array.replicate n.toNatClampNeg .null, vm := .none } : Cell) = H1
  have z1 : H1.size = H.size + 1 := by rw [← hH1, Array.size_push]
  have e1 : H1[H.size]? = some (arrV cA n.toNatClampNeg (fun _ => .null)) := by rw [← hH1, Array.getElem?_push_size, ← arrV_new]
  have e2 : arrV cA n.toNatClampNeg (fun _ => Value.null) = arrV cA n.toNatClampNeg (fun j => va_rf (f j)) := arrV_c _ _ (fun j hj => by
    show Value.null = va_rf (f j)
    rw [hf j hj]; rfl)
  have o1 : ∀ q : Nat, q < H.size → H1[q]? = H[q]? := fun q hq => by rw [← hH1, Array.getElem?_push, if_neg (Nat.ne_of_lt hq)]
  obtain ⟨q1, q2, q3⟩ := vn_app (x := .inl (cA, n.toNatClampNeg, .inr (.inr (.inr (.inr f))))) hP hD hS hA rfl (by show H1[H.size]? = some (vp_cell _ _); rw [e1, e2]; rfl) z1 o1
  exact kk H1 q1 q2 q3 z1
end NG
/-- where arrays of Texts and of Pages are made, the class of such arrays is told -/
def PcJ (w : WT) (t ci : Nat) (fs : List Value) : Array Value → State → Prop := fun v U => PcI w t ci fs v U ∧ va_AO "MeshedPages$Pages" U ∧ va_AO "MeshedPages$Text" U
theorem PcJ_blind {w : WT} {t ci : Nat} {fs : List Value} : FrameBlind (PcJ w t ci fs) := by
  intro a U g mk h
  exact ⟨PcI_blind a U g mk h.1, va_AO.moved (u := U) (U := U.calling g mk a) (Vm.Alike.refl U.vm) h.2.1, va_AO.moved (u := U) (U := U.calling g mk a) (Vm.Alike.refl U.vm) h.2.2⟩
section MKJ
variable {p : Program} {l : Launch} {e : Jvm.Env} {R : Room} {s : State} {m : MethodId} {args : Array Value} {below : List Frame} {meth : Method} {c : Code} {H : Heap} {locs : List Loc} {cells slots : Nat} {Q : State → Prop}
variable {cc : ByteArray} {pc : Nat} {ls : Array Slot} {rest : List Value} {A : Nat → Prop} {ws : va_W}
/-- new, dup, <init> -/
theorem vn_makeJ {w : WT} {t n mc ms ci N i1 i2 maxL dd nL : Nat} {fs : List Value} {C own host : String} {T : u_T} {y : MethodName} {bt : ByteArray} (hexec : p.tables.exec = Jvm.exec) (hb : c.code = cc) (hml : c.maxLocals = nL) (hls : ls.size = nL) (hown : s.vm.findClass own = some m.cls) (hts : ∀ w ∈ lw_good, w.before args s = true)
    (hK : va_K (wD w) vwCl (wty w) s) (hNW : NWs s) (hStr : StrW w A s s.heap) (hAP : va_AO "MeshedPages$Pages" s) (hAT : va_AO "MeshedPages$Text" s) (hP : va_P (wD w) vwCl ws H) (hD : va_D A ws) (hS : va_S A s.heap H locs) (hA : ∀ q, s.heap.size ≤ q → A q) (hz : H.size = wb w + t)
    (hd1 : decode cc pc = .ok (.new i1, 3)) (hd2 : decode cc (pc + 3) = .ok (.dup, 1)) (hd3 : decode cc (pc + 4) = .ok (.invokespecial i2, 3))
    (hc : vwCl[ci]? = some (C, T, N)) (hin : ∀ w ∈ u_ws C T N, w ∈ lw_good) (ty : Nat → FieldType) (hty : ∀ k, k < N → parseFieldDescriptor (T k).2.2.1 = some (ty k)) (hfs : ∀ j, j < N → defaultValue (ty j) = vp_V fs j)
    (hcl : Cond.classLink own i1 C ∈ lw_good) (hinst : Cond.instantiable C N ∈ lw_good) (hini : Cond.initialized C ∈ lw_good)
    (hM : Met l y (wsJ y bt maxL none) (rmI dd mc ms) (PcJ w t ci fs) (QcI w t n) mc ms (fun q => wb w + t ≤ q)) (hy : y.cls = C ∧ y.name = "<init>" ∧ y.cls ≠ "java/lang/invoke/MethodHandle" ∧ y.cls ≠ "java/lang/invoke/VarHandle" ∧ (parseMethodDescriptor y.desc).map (fun d => d.parameters.length) = some 0)
    (hlink : Cond.methodLink own i2 y ∈ lw_good ∨ va_Nw (.methodLinkNest own i2 y host) s) (hi : Cond.instanceMethod y ∈ lw_good) (hcode : Cond.code y bt maxL none ∈ lw_good)
    (hfr : dd + 1 ≤ R.frames) (hlo : 8 + (maxL + 11) + 64 * dd ≤ R.locals) (hcells : cells + 1 + mc ≤ R.cells) (hslots : slots + N + ms ≤ R.slots) (hst : (rest.map fun v => v.category).sum + 1 ≤ 8)
    (kk : ∀ (H1 : Heap) (locs1 : List Loc), va_P (wD w) vwCl (ws ++ blk w t n) H1 → va_D A (ws ++ blk w t n) → va_S A s.heap H1 locs1 → W p l e R s m args below meth c H1 locs1 (cells + 1 + mc) (slots + N + ms) Q (F0 m (pc + 7) ls (.ref (wb w + t) :: rest))) : W p l e R s m args below meth c H locs cells slots Q (F0 m pc ls rest) := by
  refine vn_new (Ts := lw_good) hexec hb hts hin ty hty hown (hts _ hcl) (hts _ hinst) (hts _ hini) hK hP hD hS hA hc hfs (by omega) (by omega) hd1 hz (fun H1 hP1 hD1 hS1 hz1 => ?_)
  have hlt : ∀ (k : Nat) (q : Nat × va_E), ws[k]? = some q → q.1 < wb w + t := fun k q hq => by have := (hP k q hq).lt; omega
  have hAt : ∀ q, wb w + t ≤ q → A q := fun q h => hA q (by have := hS.1; omega)
  refine lv_dup hexec hb hd2 rfl ?_
  have hlast : (ws ++ [(wb w + t, (.inr (ci, fs) : va_E))])[ws.length]? = some (wb w + t, .inr (ci, fs)) := by rw [List.getElem?_append_right (Nat.le_refl _), Nat.sub_self]; rfl
  have hpre : PreS s H1 (PcJ w t ci fs) (.ref (wb w + t) :: []) := ⟨PcJ_blind, fun U hU hW => ⟨⟨rfl, by rw [hU, hz1], (by rw [hU]; intro k q hq; cases k with
    | zero => cases hq; exact hP1 ws.length _ hlast
    | succ k => simp at hq), va_K.moved hW.alike hK, NWs.warm hW hNW, StrW_at hStr hS1 hAt hU hW⟩, va_AO.moved hW.alike hAP, va_AO.moved hW.alike hAT⟩⟩
  have hstk : 2 * (F0 m (pc + 4) ls (.ref (wb w + t) :: .ref (wb w + t) :: rest)).monitorRoom + ((.ref (wb w + t) :: rest : List Value).map fun v => v.category).sum ≤ 8 := lv_room (by rw [List.map_cons, List.sum_cons]; show 1 + _ ≤ 8; omega)
  have hrun : va_Run p l e R s m args below meth c H1 locs (cells + 1) (slots + N) mc ms (F0 m (pc + 4) ls (.ref (wb w + t) :: .ref (wb w + t) :: rest)) (.ref (wb w + t) :: rest) (QcI w t n ([Value.ref (wb w + t)] : List Value).toArray) (fun q => wb w + t ≤ q) := by
    obtain ⟨y1, y2, y3, y4, y5⟩ := hy
    rcases hlink with hl | hl
    · exact va_runI (As := []) ⟨hexec, hb, hml, hown, hts⟩ hM (cwI 0 hts (goodJ hcode) rfl rfl rfl (by rw [y1]; exact hts _ hini) (hts _ hl) (hts _ hi) y2 ⟨y3, y4, y5⟩ ⟨hfr, hlo⟩) hpre rfl rfl hls rfl hstk hd3 ⟨hcells, hslots⟩
    · exact va_runIN (As := []) ⟨hexec, hb, hml, hown, hts⟩ hM ⟨va_cnB 0 hts (goodJ hcode) rfl rfl rfl hl (by rw [y1]; exact hts _ hini) ⟨y3, y4, y5⟩ ⟨hfr, hlo⟩, y2, hts _ hi⟩ hpre rfl rfl hls rfl hstk hd3 ⟨hcells, hslots⟩
  exact am_ctor hrun hP1 hD1 hS1 hAt hlt kk
end MKJ
/-- a row of cells of one kind, made one after another -/
def ws4 (w : WT) (t j : Nat) : va_W := [(wb w + t, .inr (4, [.ref (wb w + (t + 1)), .int (0), .int (0)])), (wb w + (t + 1), .inl (w.2.1.2.2.2.2, 30, (.inr (.inr (.inr (.inr (gR 30 (fun i => wb w + (t + 1 + 1 + 7 * i)) j)))))))] ++ blk w (t + 2) (7 * j)
theorem ws4_len {w : WT} {t j : Nat} : (ws4 w t j).length = 2 + 7 * j := by
  unfold ws4 blk
  rw [List.length_append, List.length_map, List.length_range]; rfl
theorem pg_35 : ∀ j : Fin 30, isPG (35 + 2 + 7 * j.1) = true ∧ isPG (256 + 2 + 7 * j.1) = true := by decide +kernel
theorem pg_st {t j : Nat} (ht : t = 35 ∨ t = 256) (hj : j < 30) : isPG (t + 2 + 7 * j) = true := by
  rcases ht with rfl | rfl
  · exact (pg_35 ⟨j, hj⟩).1
  · exact (pg_35 ⟨j, hj⟩).2
theorem blk_X4 (w : WT) {t : Nat} (ht : t = 35 ∨ t = 256) : blk w t 212 = ws4 w t 30 := by
  rw [show (212 : Nat) = 2 + 7 * 30 from rfl, blk_app]
  unfold ws4
  rw [gR_N]
  rcases ht with rfl | rfl <;> rfl
/-! the steps, made -/
theorem wz5 : (Jvm.Cond.initialized "MeshedPages$Pages") ∈ lw_good := wt_1 (i := 5) (by decide +kernel) rfl
theorem wz125 : (Jvm.Cond.instantiable "MeshedPages$Pages" (13 : Nat)) ∈ lw_good := wt_1 (i := 125) (by decide +kernel) rfl
theorem wz127 : (Jvm.Cond.instanceMethod ({ cls := "MeshedPages$Pages", name := "<init>", desc := "()V" } : Jvm.MethodName)) ∈ lw_good := wt_1 (i := 127) (by decide +kernel) rfl
theorem wz128 : (Jvm.Cond.code ({ cls := "MeshedPages$Pages", name := "<init>", desc := "()V" } : Jvm.MethodName) prog_3_method_1_code (1 : Nat) (Option.none : Option Jvm.ClassFile.FieldType)) ∈ lw_good := wt_1 (i := 128) (by decide +kernel) rfl
theorem wz190 : (Jvm.Cond.methodLink "MeshedPages$Steps" (3 : Nat) ({ cls := "java/lang/Object", name := "<init>", desc := "()V" } : Jvm.MethodName)) ∈ lw_good := wt_1 (i := 190) (by decide +kernel) rfl
theorem wz191 : (Jvm.Cond.classLink "MeshedPages$Steps" (9 : Nat) "MeshedPages$Pages") ∈ lw_good := wt_1 (i := 191) (by decide +kernel) rfl
theorem wz193 : (Jvm.Cond.methodLink "MeshedPages$Steps" (24 : Nat) ({ cls := "MeshedPages$Pages", name := "<init>", desc := "()V" } : Jvm.MethodName)) ∈ lw_good := wt_1 (i := 193) (by decide +kernel) rfl
theorem wz194 : (Jvm.Cond.fieldLink "MeshedPages$Steps" (11 : Nat) "MeshedPages$Steps" "ahead" "[LMeshedPages$Pages;") ∈ lw_good := wt_1 (i := 194) (by decide +kernel) rfl
theorem wz195 : (Jvm.Cond.fieldLink "MeshedPages$Steps" (17 : Nat) "MeshedPages$Steps" "first" "I") ∈ lw_good := wt_1 (i := 195) (by decide +kernel) rfl
theorem wz196 : (Jvm.Cond.fieldLink "MeshedPages$Steps" (21 : Nat) "MeshedPages$Steps" "count" "I") ∈ lw_good := wt_1 (i := 196) (by decide +kernel) rfl
section LP4
variable {p : Program} {e : Jvm.Env} {R : Room} {s : State} {m : MethodId} {args : Array Value} {below : List Frame} {meth : Method} {c : Code} {Q : State → Prop} {A : Nat → Prop}
set_option maxHeartbeats 4000000 in
set_option maxRecDepth 100000 in
theorem lp_X4 {w : WT} (l : Launch) {t : Nat} (ht : t = 35 ∨ t = 256) (hsz : s.heap.size = wb w + t + 1) (hx : p.tables.exec = Jvm.exec) (hb : c.code = cX4_init) (hml : c.maxLocals = 2) (hown : s.vm.findClass RX4 = some m.cls) (hts : ∀ w ∈ lw_good, w.before args s = true) (hK : va_K (wD w) vwCl (wty w) s) (hNW : NWs s) (hStr : StrW w A s s.heap) (hA : ∀ q : Nat, s.heap.size ≤ q → A q) (hfr : 4 ≤ R.frames) (hlo : 212 ≤ R.locals) (hce : 211 ≤ R.cells) (hsl : 13770 ≤ R.slots)
    (kk : ∀ (H : Heap) (locs : List Loc) (ls : Array Slot), va_P (wD w) vwCl (ws4 w t 30) H → va_D A (ws4 w t 30) → va_S A s.heap H locs → W p l e R s m args below meth c H locs (1 + 7 * 30) (30 + 458 * 30) Q (F0 m 50 ls [])) : ∀ (n j : Nat), j + n = 30 → ∀ (H : Heap) (locs : List Loc) (ls : Array Slot), lv_has ls 2 [(1, .int (nI j)), (0, .ref (wb w + t))] → va_P (wD w) vwCl (ws4 w t j) H → va_D A (ws4 w t j) → va_S A s.heap H locs → W p l e R s m args below meth c H locs (1 + 7 * j) (30 + 458 * j) Q (F0 m 25 ls []) := by
  intro n
  induction n with
  | zero =>
    intro j hj H locs ls hl hP hD hS
    have hj : j = 30 := hj
    subst hj
    refine lv_iload_n hx hb (show decode cX4_init 25 = .ok (.iload_n 1, 1) by decide +kernel) rfl (lv_at hl 0 rfl) ?_
    refine lv_bipush (v := 30) hx hb (show decode cX4_init 26 = .ok (.bipush 30, 2) by decide +kernel) (by decide) ?_
    exact lv_icmp_ge (tgt := 50) hx hb (show decode cX4_init 28 = .ok (.if_icmp .ge 22, 3) by decide +kernel) (by decide) (fun _ => kk H locs ls hP hD hS) (fun h => absurd (show (30 : Int32) ≤ nI 30 by decide) h)
  | succ n ih =>
    intro j hj H locs ls hl hP hD hS
    have hj3 : j < 30 := by omega
    have hpg := pg_st ht hj3
    refine lv_iload_n hx hb (show decode cX4_init 25 = .ok (.iload_n 1, 1) by decide +kernel) rfl (lv_at hl 0 rfl) ?_
    refine lv_bipush (v := 30) hx hb (show decode cX4_init 26 = .ok (.bipush 30, 2) by decide +kernel) (by decide) ?_
    refine lv_icmp_ge (tgt := 50) hx hb (show decode cX4_init 28 = .ok (.if_icmp .ge 22, 3) by decide +kernel) (by decide) (fun h => absurd h (show ¬ (30 : Int32) ≤ nI j from nI_ge (b := 30) hj3 (by decide))) (fun _ => ?_)
    refine lv_aload_n hx hb (show decode cX4_init 31 = .ok (.aload_n 0, 1) by decide +kernel) rfl (lv_at hl 1 rfl) ?_
    refine va_get (D := wD w) (Ts := lw_good) (C := RX4) (T := TX4) (N := 3) (ci := 4) (v := .ref (wb w + (t + 1))) hx hb hts inX4g hown hK hP 0 rfl rfl 0 (by decide) (hts _ wz194) (fun _ h9 => h9) rfl (show decode cX4_init 32 = .ok (.getfield 11, 3) by decide +kernel) ?_
    refine lv_iload_n hx hb (show decode cX4_init 35 = .ok (.iload_n 1, 1) by decide +kernel) rfl (lv_at hl 0 rfl) ?_
    have hlow : s.heap.size + (1 + 7 * j) ≤ H.size := by
      rcases Nat.eq_zero_or_pos j with z | z
      · have := (hP 1 _ rfl).lt
        dsimp only at this
        omega
      · have := blk_last hP (show 0 < 7 * j by omega)
        omega
    refine W_size hlow (fun hz => ?_)
    refine vn_make (t := t + 2 + 7 * j) (n := 7) (mc := 6) (ms := 445) (ci := 1) (N := 13) (fs := [.int 0, .int 0, .int 0, .int 0, .int 0, .int 0, .int 0, .null, .null, .null, .null, .null, .null]) (C := RX1) (T := TX1) (y := yX1_init) (host := "") (dd := 3) (own := RX4) hx hb hml hl.1 hown hts hK hNW hStr hP hD hS hA (by omega) (show decode cX4_init 36 = .ok (.new 9, 3) by decide +kernel) (show decode cX4_init 39 = .ok (.dup, 1) by decide +kernel) (show decode cX4_init 40 = .ok (.invokespecial 24, 3) by decide +kernel) rfl inX1g tyX1 tyX1_ok (by decide) wz191 wz125 wz5 (ct_X1 w l (t + 2 + 7 * j) hpg) (by decide +kernel) (Or.inl wz193) wz127 wz128 hfr hlo (by omega) (by omega) (Nat.le_of_ble_eq_true rfl) (fun H locs hP hD hS => ?_)
    have ei : (nI j).toNatClampNeg = j := ix_nI (by omega)
    have kp : K0 (t + 2 + 7 * j) = 1 := ((pg_k ⟨t + 2 + 7 * j, isPG_lt hpg⟩ hpg).1).1
    have hv : (ws4 w t j ++ blk w (t + 2 + 7 * j) 7)[2 + 7 * j]? = some (wb w + (t + 2 + 7 * j), .inr (1, flds (wb w) (t + 2 + 7 * j) S00 1)) := by
      rw [List.getElem?_append_right (by rw [ws4_len]; exact Nat.le_refl _), ws4_len, Nat.sub_self, blk_get (by omega)]
      show some (wb w + (t + 2 + 7 * j), encK w (K0 (t + 2 + 7 * j)) (t + 2 + 7 * j) S00) = _
      rw [kp, encK_8 (by decide)]
    refine va_astq hx hb hK hP hD hS 1 4 (2 + 7 * j) 1 (r := (RX1, TX1, 13)) rfl rfl hv rfl (inb_vp (inb_t hj3 (by decide))) (show decode cX4_init 43 = .ok (.aastore, 1) by decide +kernel) (fun H locs hP hD hS => ?_)
    have ews : (ws4 w t j ++ blk w (t + 2 + 7 * j) 7).set 1 (wb w + (t + 1), .inl (w.2.1.2.2.2.2, 30, .inr (.inr (.inr (.inr (va_up (gR 30 (fun i => wb w + (t + 1 + 1 + 7 * i)) j) (nI j).toNatClampNeg (some (wb w + (t + 2 + 7 * j))))))))) = ws4 w t (j + 1) := by
      rw [ei, show wb w + (t + 2 + 7 * j) = (fun i => wb w + (t + 1 + 1 + 7 * i)) j from rfl, gR_up hj3]
      unfold ws4
      rw [show 7 * (j + 1) = 7 * j + 7 by omega, blk_app]; rfl
    rw [ews] at hP hD
    refine lv_iinc (k := 0) (x := nI j) (v := nI (j + 1)) (lv' := [(1, .int (nI (j + 1))), (0, .ref (wb w + t))]) hx hb (show decode cX4_init 44 = .ok (.iinc 1 1, 3) by decide +kernel) hl rfl (show nI j + 1 = nI (j + 1) from nI_1 j) (by decide) rfl (fun ls hl => ?_)
    refine lv_goto (tgt := 25) hx hb (show decode cX4_init 47 = .ok (.goto (-22), 3) by decide +kernel) (by decide) ?_
    refine W.widen (k := 1 + 7 * (j + 1)) (n := 30 + 458 * (j + 1)) (by omega) (by omega) ?_
    exact ih (j + 1) (by omega) H locs ls hl hP hD hS
end LP4
set_option maxHeartbeats 4000000 in
set_option maxRecDepth 100000 in
theorem ct_X4 (w : WT) (l : Launch) (t : Nat) (ht : t = 35 ∨ t = 256) : Met l yX4_init (wsJ yX4_init cX4_init 2 none) (rmI 5 211 13770) (PcJ w t 4 [.null, .int 0, .int 0]) (QcI w t 212) 211 13770 (fun q => wb w + t ≤ q) := by
  refine Met.ofW (cc := cX4_init) (maxL := 2) (ret := none) (by decide +kernel) rfl ?_
  intro p e s m args below meth c s₁ B hml hv
  obtain ⟨⟨rfl, hsz, hP, hK, hNW, hStr⟩, hAP, hAT⟩ := hv
  have hx := B.exec
  have hb := B.bytes
  have hr := B.returns
  have hlocks : meth.locks = false := B.notSynchronized
  have hown : s.vm.findClass RX4 = some m.cls := findClass_of_methodNamed B.named
  have hin : meth.name = "<init>" := (name_of_methodNamed B.named B.method).1
  have hts0 := atoms_spec (ws := wsJ yX4_init cX4_init 2 none) B.pre
  have hts : ∀ x ∈ lw_good, x.before ([.ref (wb w + t)] : List Value).toArray s = true := fun x hx => hts0 x (List.mem_cons_of_mem _ hx)
  generalize hAe : (fun q : Nat => wb w + t ≤ q) = A at hStr ⊢
  have hA : ∀ q : Nat, s.heap.size ≤ q → A q := fun q h => by rw [← hAe]; dsimp only; omega
  have hA0 : A (wb w + t) := by rw [← hAe]; exact Nat.le_refl _
  have hS : va_S A s.heap s.heap [] := va_S.rf
  have hD : va_D A ([(wb w + t, .inr (4, [.null, .int 0, .int 0]))]) := ⟨fun i j p q hi hj _ => by
    have h1 := (List.getElem?_eq_some_iff.mp hi).1
    have h2 := (List.getElem?_eq_some_iff.mp hj).1
    simp only [List.length_cons, List.length_nil] at h1 h2
    omega, fun k q hk => by
    have h1 := (List.getElem?_eq_some_iff.mp hk).1
    simp only [List.length_cons, List.length_nil] at h1
    rw [show k = 0 by omega] at hk
    cases hk
    exact hA0⟩
  have hl := lv_entry ([.ref (wb w + t)]) (n := 2) (Nat.le_of_ble_eq_true rfl)
  rw [lg_entry_eq]
  generalize (lg_sl ([.ref (wb w + t)]) ++ List.replicate (2 - (lg_sl ([.ref (wb w + t)])).length) Slot.unset).toArray = ls at hl ⊢
  have hl : lv_has ls 2 [(0, .ref (wb w + t))] := hl
  generalize hH0 : s.heap = H at hP ⊢
  have hS : va_S A s.heap H [] := by
    have h9 := hS
    rw [hH0] at h9 ⊢
    exact h9
  refine lv_aload_n hx hb (show decode cX4_init 0 = .ok (.aload_n 0, 1) by decide +kernel) rfl (lv_at hl 0 rfl) ?_
  refine W.objInit hx hb hown (hts _ wz190) (hts _ wz24) (hts _ wz25) rfl (by rw [hml]; exact hl.1) rfl (show decode cX4_init 1 = .ok (.invokespecial 3, 3) by decide +kernel) (Nat.le_of_ble_eq_true rfl) (Nat.le_of_ble_eq_true rfl) ?_
  refine W.eq (g2 := F0 m 4 ls []) rfl ?_
  refine lv_aload_n hx hb (show decode cX4_init 4 = .ok (.aload_n 0, 1) by decide +kernel) rfl (lv_at hl 0 rfl) ?_
  refine lv_bipush (v := 30) hx hb (show decode cX4_init 5 = .ok (.bipush 30, 2) by decide +kernel) (by decide) ?_
  have hlow : s.heap.size + 0 ≤ H.size := hS.1
  refine W_size hlow (fun hz => ?_)
  refine vn_newG (f := gR 30 (fun i => wb w + (t + 1 + 1 + 7 * i)) 0) (cA := w.2.1.2.2.2.2) (N' := 30) hx hb (fun j hj => gR_0 hj) hown (hts _ wz191) (va_AO.use hAP) hP hD hS hA (by obtain ⟨_, _, -, -, -, h4⟩ := (hK.2 4 _ rfl).2; exact h4) (by decide) (by decide) (by decide) (Nat.le_of_ble_eq_true rfl) (Nat.le_of_ble_eq_true rfl) (show decode cX4_init 7 = .ok (.anewarray 9, 3) by decide +kernel) (z := wb w + (t + 1)) (by omega) (fun H hP hD hS hz1 => ?_)
  have hP : va_P (wD w) vwCl ([(wb w + t, .inr (4, [.null, .int 0, .int 0])), (wb w + (t + 1), .inl (w.2.1.2.2.2.2, 30, (.inr (.inr (.inr (.inr (gR 30 (fun i => wb w + (t + 1 + 1 + 7 * i)) 0)))))))]) H := hP
  have hD : va_D A ([(wb w + t, .inr (4, [.null, .int 0, .int 0])), (wb w + (t + 1), .inl (w.2.1.2.2.2.2, 30, (.inr (.inr (.inr (.inr (gR 30 (fun i => wb w + (t + 1 + 1 + 7 * i)) 0)))))))]) := hD
  clear hlow hz hz1
  refine W.widen (k := 1) (n := 30) (by omega) (by omega) ?_
  refine va_putF (D := wD w) (ci := 4) (v := .ref (wb w + (t + 1))) (ty := .array (.object "MeshedPages$Pages")) (C := RX4) (T := TX4) (N := 3) hx hb hts inX4g tyX4 tyX4_ok nmX4 hown hK hP hD hS 0 rfl rfl 0 (by decide) (hts _ wz194) (fun _ h9 => h9) rfl hin rfl (by decide +kernel) rfl rfl (Nat.le_of_ble_eq_true rfl) (show decode cX4_init 10 = .ok (.putfield 11, 3) by decide +kernel) (fun H locs hP hD hS => ?_)
  have hP : va_P (wD w) vwCl ([(wb w + t, .inr (4, [.ref (wb w + (t + 1)), .int 0, .int 0])), (wb w + (t + 1), .inl (w.2.1.2.2.2.2, 30, (.inr (.inr (.inr (.inr (gR 30 (fun i => wb w + (t + 1 + 1 + 7 * i)) 0)))))))]) H := hP
  have hD : va_D A ([(wb w + t, .inr (4, [.ref (wb w + (t + 1)), .int 0, .int 0])), (wb w + (t + 1), .inl (w.2.1.2.2.2.2, 30, (.inr (.inr (.inr (.inr (gR 30 (fun i => wb w + (t + 1 + 1 + 7 * i)) 0)))))))]) := hD
  refine lv_aload_n hx hb (show decode cX4_init 13 = .ok (.aload_n 0, 1) by decide +kernel) rfl (lv_at hl 0 rfl) ?_
  refine lv_iconst (v := 0) hx hb (show decode cX4_init 14 = .ok (.iconst 0, 1) by decide +kernel) (by decide) ?_
  refine va_put (D := wD w) (ci := 4) (v := .int (0)) (ty := .int) (C := RX4) (T := TX4) (N := 3) hx hb hts inX4g tyX4 tyX4_ok nmX4 hown hK hP hD hS 0 rfl rfl 1 (by decide) (hts _ wz195) (fun _ h9 => h9) rfl (by decide +kernel) rfl rfl (Nat.le_of_ble_eq_true rfl) (show decode cX4_init 15 = .ok (.putfield 17, 3) by decide +kernel) (fun H locs hP hD hS => ?_)
  have hP : va_P (wD w) vwCl ([(wb w + t, .inr (4, [.ref (wb w + (t + 1)), .int (0), .int 0])), (wb w + (t + 1), .inl (w.2.1.2.2.2.2, 30, (.inr (.inr (.inr (.inr (gR 30 (fun i => wb w + (t + 1 + 1 + 7 * i)) 0)))))))]) H := hP
  have hD : va_D A ([(wb w + t, .inr (4, [.ref (wb w + (t + 1)), .int (0), .int 0])), (wb w + (t + 1), .inl (w.2.1.2.2.2.2, 30, (.inr (.inr (.inr (.inr (gR 30 (fun i => wb w + (t + 1 + 1 + 7 * i)) 0)))))))]) := hD
  refine lv_aload_n hx hb (show decode cX4_init 18 = .ok (.aload_n 0, 1) by decide +kernel) rfl (lv_at hl 0 rfl) ?_
  refine lv_iconst (v := 0) hx hb (show decode cX4_init 19 = .ok (.iconst 0, 1) by decide +kernel) (by decide) ?_
  refine va_put (D := wD w) (ci := 4) (v := .int (0)) (ty := .int) (C := RX4) (T := TX4) (N := 3) hx hb hts inX4g tyX4 tyX4_ok nmX4 hown hK hP hD hS 0 rfl rfl 2 (by decide) (hts _ wz196) (fun _ h9 => h9) rfl (by decide +kernel) rfl rfl (Nat.le_of_ble_eq_true rfl) (show decode cX4_init 20 = .ok (.putfield 21, 3) by decide +kernel) (fun H locs hP hD hS => ?_)
  have hP : va_P (wD w) vwCl ([(wb w + t, .inr (4, [.ref (wb w + (t + 1)), .int (0), .int (0)])), (wb w + (t + 1), .inl (w.2.1.2.2.2.2, 30, (.inr (.inr (.inr (.inr (gR 30 (fun i => wb w + (t + 1 + 1 + 7 * i)) 0)))))))]) H := hP
  have hD : va_D A ([(wb w + t, .inr (4, [.ref (wb w + (t + 1)), .int (0), .int (0)])), (wb w + (t + 1), .inl (w.2.1.2.2.2.2, 30, (.inr (.inr (.inr (.inr (gR 30 (fun i => wb w + (t + 1 + 1 + 7 * i)) 0)))))))]) := hD
  refine lv_iconst (v := 0) hx hb (show decode cX4_init 23 = .ok (.iconst 0, 1) by decide +kernel) (by decide) ?_
  refine lv_istore_n (i := 1) (nL := 2) (lv' := [(1, .int (nI 0)), (0, .ref (wb w + t))]) hx hb (show decode cX4_init 24 = .ok (.istore_n 1, 1) by decide +kernel) rfl hl (by decide) rfl (fun ls hl => ?_)
  have hP : va_P (wD w) vwCl (ws4 w t 0) H := hP
  have hD : va_D A (ws4 w t 0) := hD
  refine lp_X4 l ht hsz hx hb hml hown hts hK hNW hStr hA (Nat.le_of_ble_eq_true rfl) (Nat.le_of_ble_eq_true rfl) (Nat.le_of_ble_eq_true rfl) (Nat.le_of_ble_eq_true rfl) (fun H locs ls hP hD hS => ?_) 30 0 rfl H locs ls hl hP hD hS
  have hF : va_P (wD w) vwCl (blk w t 212) H := by rw [blk_X4 w ht]; exact hP
  refine W.widen (k := 211) (n := 13770) (Nat.le_of_ble_eq_true rfl) (Nat.le_of_ble_eq_true rfl) ?_
  exact W.vret hx hb hr (fun u hu hW => ⟨rfl, by rw [hu]; exact hF, by rw [hAe]; exact hS.F hu⟩) (fun q hq => hS.2.2 q hq) (show decode cX4_init 50 = .ok (.return_, 1) by decide +kernel)
