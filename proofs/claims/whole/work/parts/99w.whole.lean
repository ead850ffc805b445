/-! CONSTRUCTORS: the whole -/
set_option maxRecDepth 100000 in
theorem blk_X6 (w : WT) {t : Nat} (ht : t = 27 ∨ t = 248) : blk w t 221 = [(wb w + t, .inr (6, [.ref (wb w + (t + 1)), .ref (wb w + (t + 8)), .ref (wb w + (t + 220)), .int (0), .int (0), .int (-1)]))] ++ blk w (t + 1) 7 ++ blk w (t + 8) 212 ++ [(wb w + (t + 220), .inl (w.2.1.1, 8, .inl (fun _ => 0)))] := by
  rw [show (221 : Nat) = 1 + (7 + (212 + 1)) from rfl, blk_app, blk_app, blk_app, List.append_assoc, List.append_assoc]
  rcases ht with rfl | rfl <;> rfl
theorem wz7 : (Jvm.Cond.initialized "MeshedPages$Steps") ∈ lw_good := wt_1 (i := 7) (by decide +kernel) rfl
theorem wz123 : (Jvm.Cond.methodLink "MeshedPages$Whole" (3 : Nat) ({ cls := "java/lang/Object", name := "<init>", desc := "()V" } : Jvm.MethodName)) ∈ lw_good := wt_1 (i := 123) (by decide +kernel) rfl
theorem wz124 : (Jvm.Cond.classLink "MeshedPages$Whole" (9 : Nat) "MeshedPages$Pages") ∈ lw_good := wt_1 (i := 124) (by decide +kernel) rfl
theorem wz126 : (Jvm.Cond.methodLink "MeshedPages$Whole" (11 : Nat) ({ cls := "MeshedPages$Pages", name := "<init>", desc := "()V" } : Jvm.MethodName)) ∈ lw_good := wt_1 (i := 126) (by decide +kernel) rfl
theorem wz185 : (Jvm.Cond.classLink "MeshedPages$Whole" (18 : Nat) "MeshedPages$Steps") ∈ lw_good := wt_1 (i := 185) (by decide +kernel) rfl
theorem wz186 : (Jvm.Cond.instantiable "MeshedPages$Steps" (3 : Nat)) ∈ lw_good := wt_1 (i := 186) (by decide +kernel) rfl
theorem wz187 : (Jvm.Cond.methodLink "MeshedPages$Whole" (20 : Nat) ({ cls := "MeshedPages$Steps", name := "<init>", desc := "()V" } : Jvm.MethodName)) ∈ lw_good := wt_1 (i := 187) (by decide +kernel) rfl
theorem wz188 : (Jvm.Cond.instanceMethod ({ cls := "MeshedPages$Steps", name := "<init>", desc := "()V" } : Jvm.MethodName)) ∈ lw_good := wt_1 (i := 188) (by decide +kernel) rfl
theorem wz189 : (Jvm.Cond.code ({ cls := "MeshedPages$Steps", name := "<init>", desc := "()V" } : Jvm.MethodName) prog_6_method_1_code (2 : Nat) (Option.none : Option Jvm.ClassFile.FieldType)) ∈ lw_good := wt_1 (i := 189) (by decide +kernel) rfl
theorem wz205 : (Jvm.Cond.fieldLink "MeshedPages$Whole" (12 : Nat) "MeshedPages$Whole" "pages" "LMeshedPages$Pages;") ∈ lw_good := wt_1 (i := 205) (by decide +kernel) rfl
theorem wz207 : (Jvm.Cond.fieldLink "MeshedPages$Whole" (21 : Nat) "MeshedPages$Whole" "steps" "LMeshedPages$Steps;") ∈ lw_good := wt_1 (i := 207) (by decide +kernel) rfl
theorem wz209 : (Jvm.Cond.fieldLink "MeshedPages$Whole" (25 : Nat) "MeshedPages$Whole" "said" "[I") ∈ lw_good := wt_1 (i := 209) (by decide +kernel) rfl
theorem wz211 : (Jvm.Cond.fieldLink "MeshedPages$Whole" (29 : Nat) "MeshedPages$Whole" "saids" "I") ∈ lw_good := wt_1 (i := 211) (by decide +kernel) rfl
theorem wz213 : (Jvm.Cond.fieldLink "MeshedPages$Whole" (33 : Nat) "MeshedPages$Whole" "texts" "I") ∈ lw_good := wt_1 (i := 213) (by decide +kernel) rfl
theorem wz215 : (Jvm.Cond.fieldLink "MeshedPages$Whole" (36 : Nat) "MeshedPages$Whole" "ruling" "I") ∈ lw_good := wt_1 (i := 215) (by decide +kernel) rfl
set_option maxHeartbeats 4000000 in
set_option maxRecDepth 100000 in
theorem ct_X6 (w : WT) (l : Launch) (t : Nat) (ht : t = 27 ∨ t = 248) : Met l yX6_init (wsJ yX6_init cX6_init 1 none) (rmI 7 220 14239) (PcJ w t 6 [.null, .null, .null, .int 0, .int 0, .int 0]) (QcI w t 221) 220 14239 (fun q => wb w + t ≤ q) := by
  refine Met.ofW (cc := cX6_init) (maxL := 1) (ret := none) (by decide +kernel) rfl ?_
  intro p e s m args below meth c s₁ B hml hv
  obtain ⟨⟨rfl, hsz, hP, hK, hNW, hStr⟩, hAP, hAT⟩ := hv
  have hx := B.exec
  have hb := B.bytes
  have hr := B.returns
  have hlocks : meth.locks = false := B.notSynchronized
  have hown : s.vm.findClass RX6 = some m.cls := findClass_of_methodNamed B.named
  have hin : meth.name = "<init>" := (name_of_methodNamed B.named B.method).1
  have hts0 := atoms_spec (ws := wsJ yX6_init cX6_init 1 none) B.pre
  have hts : ∀ x ∈ lw_good, x.before ([.ref (wb w + t)] : List Value).toArray s = true := fun x hx => hts0 x (List.mem_cons_of_mem _ hx)
  generalize hAe : (fun q : Nat => wb w + t ≤ q) = A at hStr ⊢
  have hA : ∀ q : Nat, s.heap.size ≤ q → A q := fun q h => by rw [← hAe]; dsimp only; omega
  have hA0 : A (wb w + t) := by rw [← hAe]; exact Nat.le_refl _
  have hS : va_S A s.heap s.heap [] := va_S.rf
  have hD : va_D A ([(wb w + t, .inr (6, [.null, .null, .null, .int 0, .int 0, .int 0]))]) := ⟨fun i j p q hi hj _ => by
    have h1 := (List.getElem?_eq_some_iff.mp hi).1
    have h2 := (List.getElem?_eq_some_iff.mp hj).1
    simp only [List.length_cons, List.length_nil] at h1 h2
    omega, fun k q hk => by
    have h1 := (List.getElem?_eq_some_iff.mp hk).1
    simp only [List.length_cons, List.length_nil] at h1
    rw [show k = 0 by omega] at hk
    cases hk
    exact hA0⟩
  have hl := lv_entry ([.ref (wb w + t)]) (n := 1) (Nat.le_of_ble_eq_true rfl)
  rw [lg_entry_eq]
  generalize (lg_sl ([.ref (wb w + t)]) ++ List.replicate (1 - (lg_sl ([.ref (wb w + t)])).length) Slot.unset).toArray = ls at hl ⊢
  have hl : lv_has ls 1 [(0, .ref (wb w + t))] := hl
  generalize hH0 : s.heap = H at hP ⊢
  have hS : va_S A s.heap H [] := by
    have h9 := hS
    rw [hH0] at h9 ⊢
    exact h9
  refine lv_aload_n hx hb (show decode cX6_init 0 = .ok (.aload_n 0, 1) by decide +kernel) rfl (lv_at hl 0 rfl) ?_
  refine W.objInit hx hb hown (hts _ wz123) (hts _ wz24) (hts _ wz25) rfl (by rw [hml]; exact hl.1) rfl (show decode cX6_init 1 = .ok (.invokespecial 3, 3) by decide +kernel) (Nat.le_of_ble_eq_true rfl) (Nat.le_of_ble_eq_true rfl) ?_
  refine W.eq (g2 := F0 m 4 ls []) rfl ?_
  refine lv_aload_n hx hb (show decode cX6_init 4 = .ok (.aload_n 0, 1) by decide +kernel) rfl (lv_at hl 0 rfl) ?_
  have hlow : s.heap.size + 0 ≤ H.size := hS.1
  refine W_size hlow (fun hz => ?_)
  refine vn_make (t := t + 1) (n := 7) (mc := 6) (ms := 445) (ci := 1) (N := 13) (fs := [.int 0, .int 0, .int 0, .int 0, .int 0, .int 0, .int 0, .null, .null, .null, .null, .null, .null]) (C := RX1) (T := TX1) (y := yX1_init) (host := "") (dd := 3) (own := RX6) hx hb hml hl.1 hown hts hK hNW hStr hP hD hS hA (by omega) (show decode cX6_init 5 = .ok (.new 9, 3) by decide +kernel) (show decode cX6_init 8 = .ok (.dup, 1) by decide +kernel) (show decode cX6_init 9 = .ok (.invokespecial 11, 3) by decide +kernel) rfl inX1g tyX1 tyX1_ok (by decide) wz124 wz125 wz5 (ct_X1 w l (t + 1) (show isPG (t + 1) = true by rcases ht with rfl | rfl <;> decide)) (by decide +kernel) (Or.inl wz126) wz127 wz128 (Nat.le_of_ble_eq_true rfl) (Nat.le_of_ble_eq_true rfl) (Nat.le_of_ble_eq_true rfl) (Nat.le_of_ble_eq_true rfl) (Nat.le_of_ble_eq_true rfl) (fun H locs hP hD hS => ?_)
  have hP : va_P (wD w) vwCl ([(wb w + t, .inr (6, [.null, .null, .null, .int 0, .int 0, .int 0]))] ++ blk w (t + 1) 7) H := hP
  have hD : va_D A ([(wb w + t, .inr (6, [.null, .null, .null, .int 0, .int 0, .int 0]))] ++ blk w (t + 1) 7) := hD
  clear hlow hz
  refine W.widen (k := 7) (n := 458) (by omega) (by omega) ?_
  refine va_putF (D := wD w) (ci := 6) (v := .ref (wb w + (t + 1))) (ty := .object "MeshedPages$Pages") (C := RX6) (T := TX6) (N := 6) hx hb hts inX6g tyX6 tyX6_ok nmX6 hown hK hP hD hS 0 rfl rfl 0 (by decide) (hts _ wz205) (fun _ h9 => h9) rfl hin rfl (by decide +kernel) rfl rfl (Nat.le_of_ble_eq_true rfl) (show decode cX6_init 12 = .ok (.putfield 12, 3) by decide +kernel) (fun H locs hP hD hS => ?_)
  have hP : va_P (wD w) vwCl ([(wb w + t, .inr (6, [.ref (wb w + (t + 1)), .null, .null, .int 0, .int 0, .int 0]))] ++ blk w (t + 1) 7) H := hP
  have hD : va_D A ([(wb w + t, .inr (6, [.ref (wb w + (t + 1)), .null, .null, .int 0, .int 0, .int 0]))] ++ blk w (t + 1) 7) := hD
  refine lv_aload_n hx hb (show decode cX6_init 15 = .ok (.aload_n 0, 1) by decide +kernel) rfl (lv_at hl 0 rfl) ?_
  have hlow : s.heap.size + 7 ≤ H.size := by have := blk_last hP (by decide); omega
  refine W_size hlow (fun hz => ?_)
  refine vn_makeJ (t := t + 8) (n := 212) (mc := 211) (ms := 13770) (ci := 4) (N := 3) (fs := [.null, .int 0, .int 0]) (C := RX4) (T := TX4) (y := yX4_init) (host := "") (dd := 5) (own := RX6) hx hb hml hl.1 hown hts hK hNW hStr hAP hAT hP hD hS hA (by omega) (show decode cX6_init 16 = .ok (.new 18, 3) by decide +kernel) (show decode cX6_init 19 = .ok (.dup, 1) by decide +kernel) (show decode cX6_init 20 = .ok (.invokespecial 20, 3) by decide +kernel) rfl inX4g tyX4 tyX4_ok (by decide) wz185 wz186 wz7 (ct_X4 w l (t + 8) (show t + 8 = 35 ∨ t + 8 = 256 by omega)) (by decide +kernel) (Or.inl wz187) wz188 wz189 (Nat.le_of_ble_eq_true rfl) (Nat.le_of_ble_eq_true rfl) (Nat.le_of_ble_eq_true rfl) (Nat.le_of_ble_eq_true rfl) (Nat.le_of_ble_eq_true rfl) (fun H locs hP hD hS => ?_)
  have hP : va_P (wD w) vwCl ([(wb w + t, .inr (6, [.ref (wb w + (t + 1)), .null, .null, .int 0, .int 0, .int 0]))] ++ blk w (t + 1) 7 ++ blk w (t + 8) 212) H := hP
  have hD : va_D A ([(wb w + t, .inr (6, [.ref (wb w + (t + 1)), .null, .null, .int 0, .int 0, .int 0]))] ++ blk w (t + 1) 7 ++ blk w (t + 8) 212) := hD
  clear hlow hz
  refine W.widen (k := 219) (n := 14231) (by omega) (by omega) ?_
  refine va_putF (D := wD w) (ci := 6) (v := .ref (wb w + (t + 8))) (ty := .object "MeshedPages$Steps") (C := RX6) (T := TX6) (N := 6) hx hb hts inX6g tyX6 tyX6_ok nmX6 hown hK hP hD hS 0 rfl rfl 1 (by decide) (hts _ wz207) (fun _ h9 => h9) rfl hin rfl (by decide +kernel) rfl rfl (Nat.le_of_ble_eq_true rfl) (show decode cX6_init 23 = .ok (.putfield 21, 3) by decide +kernel) (fun H locs hP hD hS => ?_)
  have hP : va_P (wD w) vwCl ([(wb w + t, .inr (6, [.ref (wb w + (t + 1)), .ref (wb w + (t + 8)), .null, .int 0, .int 0, .int 0]))] ++ blk w (t + 1) 7 ++ blk w (t + 8) 212) H := hP
  have hD : va_D A ([(wb w + t, .inr (6, [.ref (wb w + (t + 1)), .ref (wb w + (t + 8)), .null, .int 0, .int 0, .int 0]))] ++ blk w (t + 1) 7 ++ blk w (t + 8) 212) := hD
  refine lv_aload_n hx hb (show decode cX6_init 26 = .ok (.aload_n 0, 1) by decide +kernel) rfl (lv_at hl 0 rfl) ?_
  refine lv_bipush (v := 8) hx hb (show decode cX6_init 27 = .ok (.bipush 8, 2) by decide +kernel) (by decide) ?_
  have hlow : s.heap.size + 219 ≤ H.size := by have := blk_last hP (by decide); omega
  refine W_size hlow (fun hz => ?_)
  refine vn_newa (atype := .int) (a0 := (8, .inl (fun _ => 0))) (cA := w.2.1.1) (N' := 8) (ty := .int) hx hb (hts _ wz77) rfl hP hD hS hA (hK.2 0 _ rfl).2 rfl (by decide) (by decide) (by decide) (Nat.le_of_ble_eq_true rfl) (Nat.le_of_ble_eq_true rfl) (show decode cX6_init 29 = .ok (.newarray .int, 2) by decide +kernel) (z := wb w + (t + 220)) (by omega) (fun H hP hD hS hz1 => ?_)
  have hP : va_P (wD w) vwCl ([(wb w + t, .inr (6, [.ref (wb w + (t + 1)), .ref (wb w + (t + 8)), .null, .int 0, .int 0, .int 0]))] ++ blk w (t + 1) 7 ++ blk w (t + 8) 212 ++ [(wb w + (t + 220), .inl (w.2.1.1, 8, .inl (fun _ => 0)))]) H := hP
  have hD : va_D A ([(wb w + t, .inr (6, [.ref (wb w + (t + 1)), .ref (wb w + (t + 8)), .null, .int 0, .int 0, .int 0]))] ++ blk w (t + 1) 7 ++ blk w (t + 8) 212 ++ [(wb w + (t + 220), .inl (w.2.1.1, 8, .inl (fun _ => 0)))]) := hD
  clear hlow hz hz1
  refine W.widen (k := 220) (n := 14239) (by omega) (by omega) ?_
  refine va_putF (D := wD w) (ci := 6) (v := .ref (wb w + (t + 220))) (ty := .array .int) (C := RX6) (T := TX6) (N := 6) hx hb hts inX6g tyX6 tyX6_ok nmX6 hown hK hP hD hS 0 rfl rfl 2 (by decide) (hts _ wz209) (fun _ h9 => h9) rfl hin rfl (by decide +kernel) rfl rfl (Nat.le_of_ble_eq_true rfl) (show decode cX6_init 31 = .ok (.putfield 25, 3) by decide +kernel) (fun H locs hP hD hS => ?_)
  have hP : va_P (wD w) vwCl ([(wb w + t, .inr (6, [.ref (wb w + (t + 1)), .ref (wb w + (t + 8)), .ref (wb w + (t + 220)), .int 0, .int 0, .int 0]))] ++ blk w (t + 1) 7 ++ blk w (t + 8) 212 ++ [(wb w + (t + 220), .inl (w.2.1.1, 8, .inl (fun _ => 0)))]) H := hP
  have hD : va_D A ([(wb w + t, .inr (6, [.ref (wb w + (t + 1)), .ref (wb w + (t + 8)), .ref (wb w + (t + 220)), .int 0, .int 0, .int 0]))] ++ blk w (t + 1) 7 ++ blk w (t + 8) 212 ++ [(wb w + (t + 220), .inl (w.2.1.1, 8, .inl (fun _ => 0)))]) := hD
  refine lv_aload_n hx hb (show decode cX6_init 34 = .ok (.aload_n 0, 1) by decide +kernel) rfl (lv_at hl 0 rfl) ?_
  refine lv_iconst (v := 0) hx hb (show decode cX6_init 35 = .ok (.iconst 0, 1) by decide +kernel) (by decide) ?_
  refine va_put (D := wD w) (ci := 6) (v := .int (0)) (ty := .int) (C := RX6) (T := TX6) (N := 6) hx hb hts inX6g tyX6 tyX6_ok nmX6 hown hK hP hD hS 0 rfl rfl 3 (by decide) (hts _ wz211) (fun _ h9 => h9) rfl (by decide +kernel) rfl rfl (Nat.le_of_ble_eq_true rfl) (show decode cX6_init 36 = .ok (.putfield 29, 3) by decide +kernel) (fun H locs hP hD hS => ?_)
  have hP : va_P (wD w) vwCl ([(wb w + t, .inr (6, [.ref (wb w + (t + 1)), .ref (wb w + (t + 8)), .ref (wb w + (t + 220)), .int (0), .int 0, .int 0]))] ++ blk w (t + 1) 7 ++ blk w (t + 8) 212 ++ [(wb w + (t + 220), .inl (w.2.1.1, 8, .inl (fun _ => 0)))]) H := hP
  have hD : va_D A ([(wb w + t, .inr (6, [.ref (wb w + (t + 1)), .ref (wb w + (t + 8)), .ref (wb w + (t + 220)), .int (0), .int 0, .int 0]))] ++ blk w (t + 1) 7 ++ blk w (t + 8) 212 ++ [(wb w + (t + 220), .inl (w.2.1.1, 8, .inl (fun _ => 0)))]) := hD
  refine lv_aload_n hx hb (show decode cX6_init 39 = .ok (.aload_n 0, 1) by decide +kernel) rfl (lv_at hl 0 rfl) ?_
  refine lv_iconst (v := 0) hx hb (show decode cX6_init 40 = .ok (.iconst 0, 1) by decide +kernel) (by decide) ?_
  refine va_put (D := wD w) (ci := 6) (v := .int (0)) (ty := .int) (C := RX6) (T := TX6) (N := 6) hx hb hts inX6g tyX6 tyX6_ok nmX6 hown hK hP hD hS 0 rfl rfl 4 (by decide) (hts _ wz213) (fun _ h9 => h9) rfl (by decide +kernel) rfl rfl (Nat.le_of_ble_eq_true rfl) (show decode cX6_init 41 = .ok (.putfield 33, 3) by decide +kernel) (fun H locs hP hD hS => ?_)
  have hP : va_P (wD w) vwCl ([(wb w + t, .inr (6, [.ref (wb w + (t + 1)), .ref (wb w + (t + 8)), .ref (wb w + (t + 220)), .int (0), .int (0), .int 0]))] ++ blk w (t + 1) 7 ++ blk w (t + 8) 212 ++ [(wb w + (t + 220), .inl (w.2.1.1, 8, .inl (fun _ => 0)))]) H := hP
  have hD : va_D A ([(wb w + t, .inr (6, [.ref (wb w + (t + 1)), .ref (wb w + (t + 8)), .ref (wb w + (t + 220)), .int (0), .int (0), .int 0]))] ++ blk w (t + 1) 7 ++ blk w (t + 8) 212 ++ [(wb w + (t + 220), .inl (w.2.1.1, 8, .inl (fun _ => 0)))]) := hD
  refine lv_aload_n hx hb (show decode cX6_init 44 = .ok (.aload_n 0, 1) by decide +kernel) rfl (lv_at hl 0 rfl) ?_
  refine lv_iconst (v := -1) hx hb (show decode cX6_init 45 = .ok (.iconst (-1), 1) by decide +kernel) (by decide) ?_
  refine va_put (D := wD w) (ci := 6) (v := .int (-1)) (ty := .int) (C := RX6) (T := TX6) (N := 6) hx hb hts inX6g tyX6 tyX6_ok nmX6 hown hK hP hD hS 0 rfl rfl 5 (by decide) (hts _ wz215) (fun _ h9 => h9) rfl (by decide +kernel) rfl rfl (Nat.le_of_ble_eq_true rfl) (show decode cX6_init 46 = .ok (.putfield 36, 3) by decide +kernel) (fun H locs hP hD hS => ?_)
  have hP : va_P (wD w) vwCl ([(wb w + t, .inr (6, [.ref (wb w + (t + 1)), .ref (wb w + (t + 8)), .ref (wb w + (t + 220)), .int (0), .int (0), .int (-1)]))] ++ blk w (t + 1) 7 ++ blk w (t + 8) 212 ++ [(wb w + (t + 220), .inl (w.2.1.1, 8, .inl (fun _ => 0)))]) H := hP
  have hD : va_D A ([(wb w + t, .inr (6, [.ref (wb w + (t + 1)), .ref (wb w + (t + 8)), .ref (wb w + (t + 220)), .int (0), .int (0), .int (-1)]))] ++ blk w (t + 1) 7 ++ blk w (t + 8) 212 ++ [(wb w + (t + 220), .inl (w.2.1.1, 8, .inl (fun _ => 0)))]) := hD
  have hF : va_P (wD w) vwCl (blk w t 221) H := by rw [blk_X6 w ht]; exact hP
  refine W.widen (k := 220) (n := 14239) (Nat.le_of_ble_eq_true rfl) (Nat.le_of_ble_eq_true rfl) ?_
  exact W.vret hx hb hr (fun u hu hW => ⟨rfl, by rw [hu]; exact hF, by rw [hAe]; exact hS.F hu⟩) (fun q hq => hS.2.2 q hq) (show decode cX6_init 49 = .ok (.return_, 1) by decide +kernel)
