def isTX (t : Nat) : Bool := Nat.beq t 6 || Nat.beq t 17 || Nat.beq t 484 || Nat.beq t 494 || Nat.beq t 504 || Nat.beq t 514
theorem blk_last {w : WT} {ws : va_W} {t n : Nat} {H : Heap} (h : va_P (wD w) vwCl (ws ++ blk w t n) H) (hn : 0 < n) : wb w + (t + (n - 1)) < H.size := by
  have := (h (ws.length + (n - 1)) _ (by rw [List.getElem?_append_right (by omega), Nat.add_sub_cancel_left]; exact blk_get (by omega))).lt
  exact this
theorem seg_last {D : va_G} {ws : va_W} {x : Nat × va_E} {H : Heap} (h : va_P D vwCl (ws ++ [x]) H) : x.1 < H.size := (h ws.length x (by rw [List.getElem?_append_right (Nat.le_refl _), Nat.sub_self]; rfl)).lt
set_option maxRecDepth 100000 in
theorem blk_X5 (w : WT) {t : Nat} (ht : isTX t = true) : blk w t 10 = [(wb w + t, .inr (5, [.int (0), .ref (wb w + (t + 1)), .ref (wb w + (t + 2)), .ref (wb w + (t + 3)), .ref (wb w + (t + 4)), .ref (wb w + (t + 5)), .int (0), .ref (wb w + (t + 6)), .ref (wb w + (t + 7)), .ref (wb w + (t + 8)), .ref (wb w + (t + 9))])), (wb w + (t + 1), .inl (w.2.1.1, 24, .inl (fun _ => 0))), (wb w + (t + 2), .inl (w.2.1.1, 24, .inl (fun _ => 0))), (wb w + (t + 3), .inl (w.2.1.1, 24, .inl (fun _ => 0))), (wb w + (t + 4), .inl (w.2.1.1, 2, .inl (fun _ => 0))), (wb w + (t + 5), .inl (w.2.1.1, 2, .inl (fun _ => 0))), (wb w + (t + 6), .inl (w.2.1.1, 300, .inl (fun _ => 0))), (wb w + (t + 7), .inl (w.2.1.1, 300, .inl (fun _ => 0))), (wb w + (t + 8), .inl (w.2.1.1, 6, .inl (fun _ => 0))), (wb w + (t + 9), .inl (w.2.1.1, 64, .inl (fun _ => 0)))] := by
  unfold isTX at ht; simp only [Bool.or_eq_true, Nat.beq_eq] at ht; rcases ht with ((((rfl | rfl) | rfl) | rfl) | rfl) | rfl <;> rfl
set_option maxRecDepth 100000 in
theorem blk_X0 (w : WT) {t : Nat} (ht : t = 480) : blk w t 4 = [(wb w + t, .inr (0, [.int (0), .int (0), .int (0), .ref (wb w + (t + 1)), .ref (wb w + (t + 2)), .ref (wb w + (t + 3))])), (wb w + (t + 1), .inl (w.2.1.1, 12, .inl (fun _ => 0))), (wb w + (t + 2), .inl (w.2.1.1, 12, .inl (fun _ => 0))), (wb w + (t + 3), .inl (w.2.1.1, 12, .inl (fun _ => 0)))] := by
  subst ht; rfl
set_option maxRecDepth 100000 in
theorem blk_X2 (w : WT) {t : Nat} (ht : t = 476) : blk w t 4 = [(wb w + t, .inr (2, [.int (0), .ref (wb w + (t + 1)), .ref (wb w + (t + 2)), .ref (wb w + (t + 3))])), (wb w + (t + 1), .inl (w.2.1.1, 12, .inl (fun _ => 0))), (wb w + (t + 2), .inl (w.2.1.1, 12, .inl (fun _ => 0))), (wb w + (t + 3), .inl (w.2.1.1, 4096, .inl (fun _ => 0)))] := by
  subst ht; rfl
set_option maxRecDepth 100000 in
theorem blk_X3 (w : WT) {t : Nat} (ht : t = 1) : blk w t 15 = [(wb w + t, .inr (3, [.ref (wb w + (t + 1)), .int (0), .int (-1), .int (-1), .ref (wb w + (t + 2)), .ref (wb w + (t + 3)), .ref (wb w + (t + 4)), .int (0), .int (0), .int (-1), .ref (wb w + (t + 5))])), (wb w + (t + 1), .inl (w.2.1.1, 300, .inl (fun _ => 0))), (wb w + (t + 2), .inl (w.2.1.1, 300, .inl (fun _ => 0))), (wb w + (t + 3), .inl (w.2.1.1, 300, .inl (fun _ => 0))), (wb w + (t + 4), .inl (w.2.1.1, 300, .inl (fun _ => 0)))] ++ blk w (t + 5) 10 := by
  subst ht
  show blk w 1 (5 + 10) = _
  rw [blk_app]; rfl
theorem wz3 : (Jvm.Cond.initialized "MeshedPages$Text") ∈ lw_good := wt_1 (i := 3) (by decide +kernel) rfl
theorem wz24 : (Jvm.Cond.instanceMethod ({ cls := "java/lang/Object", name := "<init>", desc := "()V" } : Jvm.MethodName)) ∈ lw_good := wt_1 (i := 24) (by decide +kernel) rfl
theorem wz25 : (Jvm.Cond.code ({ cls := "java/lang/Object", name := "<init>", desc := "()V" } : Jvm.MethodName) object_method_1_code (1 : Nat) (Option.none : Option Jvm.ClassFile.FieldType)) ∈ lw_good := wt_1 (i := 25) (by decide +kernel) rfl
theorem wz31 : (Jvm.Cond.methodLink "MeshedPages$Reader" (3 : Nat) ({ cls := "java/lang/Object", name := "<init>", desc := "()V" } : Jvm.MethodName)) ∈ lw_good := wt_1 (i := 31) (by decide +kernel) rfl
theorem wz32 : (Jvm.Cond.classLink "MeshedPages$Reader" (43 : Nat) "MeshedPages$Text") ∈ lw_good := wt_1 (i := 32) (by decide +kernel) rfl
theorem wz33 : (Jvm.Cond.instantiable "MeshedPages$Text" (11 : Nat)) ∈ lw_good := wt_1 (i := 33) (by decide +kernel) rfl
theorem wz35 : (Jvm.Cond.instanceMethod ({ cls := "MeshedPages$Text", name := "<init>", desc := "()V" } : Jvm.MethodName)) ∈ lw_good := wt_1 (i := 35) (by decide +kernel) rfl
theorem wz36 : (Jvm.Cond.code ({ cls := "MeshedPages$Text", name := "<init>", desc := "()V" } : Jvm.MethodName) prog_7_method_1_code (1 : Nat) (Option.none : Option Jvm.ClassFile.FieldType)) ∈ lw_good := wt_1 (i := 36) (by decide +kernel) rfl
theorem wz37 : (Jvm.Cond.methodLink "MeshedPages$Text" (3 : Nat) ({ cls := "java/lang/Object", name := "<init>", desc := "()V" } : Jvm.MethodName)) ∈ lw_good := wt_1 (i := 37) (by decide +kernel) rfl
theorem wz38 : (Jvm.Cond.fieldLink "MeshedPages$Text" (9 : Nat) "MeshedPages$Text" "clauses" "I") ∈ lw_good := wt_1 (i := 38) (by decide +kernel) rfl
theorem wz41 : (Jvm.Cond.fieldLink "MeshedPages$Text" (15 : Nat) "MeshedPages$Text" "kinds" "[I") ∈ lw_good := wt_1 (i := 41) (by decide +kernel) rfl
theorem wz43 : (Jvm.Cond.fieldLink "MeshedPages$Text" (19 : Nat) "MeshedPages$Text" "firsts" "[I") ∈ lw_good := wt_1 (i := 43) (by decide +kernel) rfl
theorem wz45 : (Jvm.Cond.fieldLink "MeshedPages$Text" (22 : Nat) "MeshedPages$Text" "seconds" "[I") ∈ lw_good := wt_1 (i := 45) (by decide +kernel) rfl
theorem wz47 : (Jvm.Cond.fieldLink "MeshedPages$Text" (25 : Nat) "MeshedPages$Text" "starts" "[I") ∈ lw_good := wt_1 (i := 47) (by decide +kernel) rfl
theorem wz48 : (Jvm.Cond.fieldLink "MeshedPages$Text" (28 : Nat) "MeshedPages$Text" "ends" "[I") ∈ lw_good := wt_1 (i := 48) (by decide +kernel) rfl
theorem wz49 : (Jvm.Cond.fieldLink "MeshedPages$Text" (31 : Nat) "MeshedPages$Text" "length" "I") ∈ lw_good := wt_1 (i := 49) (by decide +kernel) rfl
theorem wz50 : (Jvm.Cond.fieldLink "MeshedPages$Text" (34 : Nat) "MeshedPages$Text" "codes" "[I") ∈ lw_good := wt_1 (i := 50) (by decide +kernel) rfl
theorem wz51 : (Jvm.Cond.fieldLink "MeshedPages$Text" (37 : Nat) "MeshedPages$Text" "numbers" "[I") ∈ lw_good := wt_1 (i := 51) (by decide +kernel) rfl
theorem wz52 : (Jvm.Cond.fieldLink "MeshedPages$Text" (40 : Nat) "MeshedPages$Text" "names" "[I") ∈ lw_good := wt_1 (i := 52) (by decide +kernel) rfl
theorem wz53 : (Jvm.Cond.fieldLink "MeshedPages$Text" (43 : Nat) "MeshedPages$Text" "stack" "[I") ∈ lw_good := wt_1 (i := 53) (by decide +kernel) rfl
theorem wz77 : (Jvm.Cond.arrayClass Jvm.ClassFile.FieldType.int) ∈ lw_good := wt_1 (i := 77) (by decide +kernel) rfl
theorem wz78 : (Jvm.Cond.fieldLink "MeshedPages$Reader" (9 : Nat) "MeshedPages$Reader" "tape" "[I") ∈ lw_good := wt_1 (i := 78) (by decide +kernel) rfl
theorem wz79 : (Jvm.Cond.fieldLink "MeshedPages$Reader" (15 : Nat) "MeshedPages$Reader" "size" "I") ∈ lw_good := wt_1 (i := 79) (by decide +kernel) rfl
theorem wz81 : (Jvm.Cond.fieldLink "MeshedPages$Reader" (19 : Nat) "MeshedPages$Reader" "fault" "I") ∈ lw_good := wt_1 (i := 81) (by decide +kernel) rfl
theorem wz83 : (Jvm.Cond.fieldLink "MeshedPages$Reader" (22 : Nat) "MeshedPages$Reader" "place" "I") ∈ lw_good := wt_1 (i := 83) (by decide +kernel) rfl
theorem wz85 : (Jvm.Cond.fieldLink "MeshedPages$Reader" (25 : Nat) "MeshedPages$Reader" "kinds" "[I") ∈ lw_good := wt_1 (i := 85) (by decide +kernel) rfl
theorem wz86 : (Jvm.Cond.fieldLink "MeshedPages$Reader" (28 : Nat) "MeshedPages$Reader" "numbers" "[I") ∈ lw_good := wt_1 (i := 86) (by decide +kernel) rfl
theorem wz87 : (Jvm.Cond.fieldLink "MeshedPages$Reader" (31 : Nat) "MeshedPages$Reader" "places" "[I") ∈ lw_good := wt_1 (i := 87) (by decide +kernel) rfl
theorem wz88 : (Jvm.Cond.fieldLink "MeshedPages$Reader" (34 : Nat) "MeshedPages$Reader" "count" "I") ∈ lw_good := wt_1 (i := 88) (by decide +kernel) rfl
theorem wz89 : (Jvm.Cond.fieldLink "MeshedPages$Reader" (37 : Nat) "MeshedPages$Reader" "at" "I") ∈ lw_good := wt_1 (i := 89) (by decide +kernel) rfl
theorem wz90 : (Jvm.Cond.fieldLink "MeshedPages$Reader" (40 : Nat) "MeshedPages$Reader" "law" "I") ∈ lw_good := wt_1 (i := 90) (by decide +kernel) rfl
theorem wz91 : (Jvm.Cond.fieldLink "MeshedPages$Reader" (46 : Nat) "MeshedPages$Reader" "text" "LMeshedPages$Text;") ∈ lw_good := wt_1 (i := 91) (by decide +kernel) rfl
theorem wz237 : (Jvm.Cond.methodLink "MeshedPages$Pairs" (3 : Nat) ({ cls := "java/lang/Object", name := "<init>", desc := "()V" } : Jvm.MethodName)) ∈ lw_good := wt_1 (i := 237) (by decide +kernel) rfl
theorem wz238 : (Jvm.Cond.fieldLink "MeshedPages$Pairs" (9 : Nat) "MeshedPages$Pairs" "count" "I") ∈ lw_good := wt_1 (i := 238) (by decide +kernel) rfl
theorem wz239 : (Jvm.Cond.fieldLink "MeshedPages$Pairs" (15 : Nat) "MeshedPages$Pairs" "frames" "[I") ∈ lw_good := wt_1 (i := 239) (by decide +kernel) rfl
theorem wz240 : (Jvm.Cond.fieldLink "MeshedPages$Pairs" (19 : Nat) "MeshedPages$Pairs" "lives" "[I") ∈ lw_good := wt_2 (i := 0) (by decide +kernel) rfl
theorem wz241 : (Jvm.Cond.fieldLink "MeshedPages$Pairs" (22 : Nat) "MeshedPages$Pairs" "most" "[I") ∈ lw_good := wt_2 (i := 1) (by decide +kernel) rfl
theorem wz256 : (Jvm.Cond.methodLink "MeshedPages$Cover" (3 : Nat) ({ cls := "java/lang/Object", name := "<init>", desc := "()V" } : Jvm.MethodName)) ∈ lw_good := wt_2 (i := 16) (by decide +kernel) rfl
theorem wz257 : (Jvm.Cond.fieldLink "MeshedPages$Cover" (9 : Nat) "MeshedPages$Cover" "count" "I") ∈ lw_good := wt_2 (i := 17) (by decide +kernel) rfl
theorem wz258 : (Jvm.Cond.fieldLink "MeshedPages$Cover" (15 : Nat) "MeshedPages$Cover" "fewest" "I") ∈ lw_good := wt_2 (i := 18) (by decide +kernel) rfl
theorem wz259 : (Jvm.Cond.fieldLink "MeshedPages$Cover" (18 : Nat) "MeshedPages$Cover" "least" "I") ∈ lw_good := wt_2 (i := 19) (by decide +kernel) rfl
theorem wz260 : (Jvm.Cond.fieldLink "MeshedPages$Cover" (21 : Nat) "MeshedPages$Cover" "frames" "[I") ∈ lw_good := wt_2 (i := 20) (by decide +kernel) rfl
theorem wz261 : (Jvm.Cond.fieldLink "MeshedPages$Cover" (25 : Nat) "MeshedPages$Cover" "lives" "[I") ∈ lw_good := wt_2 (i := 21) (by decide +kernel) rfl
theorem wz262 : (Jvm.Cond.fieldLink "MeshedPages$Cover" (28 : Nat) "MeshedPages$Cover" "groups" "[I") ∈ lw_good := wt_2 (i := 22) (by decide +kernel) rfl
/-! CONSTRUCTORS, walked -/
set_option maxHeartbeats 4000000 in
set_option maxRecDepth 100000 in
theorem ct_X5 (w : WT) (l : Launch) (t : Nat) (ht : isTX t = true) : Met l yX5_init (wsJ yX5_init cX5_init 1 none) (rmI 1 9 746) (PcI w t 5 [.int 0, .null, .null, .null, .null, .null, .int 0, .null, .null, .null, .null]) (QcI w t 10) 9 746 (fun q => wb w + t ≤ q) := by
  refine Met.ofW (cc := cX5_init) (maxL := 1) (ret := none) (by decide +kernel) rfl ?_
  intro p e s m args below meth c s₁ B hml hv
  obtain ⟨rfl, hsz, hP, hK, hNW, hStr⟩ := hv
  have hx := B.exec
  have hb := B.bytes
  have hr := B.returns
  have hlocks : meth.locks = false := B.notSynchronized
  have hown : s.vm.findClass RX5 = some m.cls := findClass_of_methodNamed B.named
  have hin : meth.name = "<init>" := (name_of_methodNamed B.named B.method).1
  have hts0 := atoms_spec (ws := wsJ yX5_init cX5_init 1 none) B.pre
  have hts : ∀ x ∈ lw_good, x.before ([.ref (wb w + t)] : List Value).toArray s = true := fun x hx => hts0 x (List.mem_cons_of_mem _ hx)
  generalize hAe : (fun q : Nat => wb w + t ≤ q) = A at hStr ⊢
  have hA : ∀ q : Nat, s.heap.size ≤ q → A q := fun q h => by rw [← hAe]; dsimp only; omega
  have hA0 : A (wb w + t) := by rw [← hAe]; exact Nat.le_refl _
  have hS : va_S A s.heap s.heap [] := va_S.rf
  have hD : va_D A ([(wb w + t, .inr (5, [.int 0, .null, .null, .null, .null, .null, .int 0, .null, .null, .null, .null]))]) := ⟨fun i j p q hi hj _ => by
    have h1 := (List.getElem?_eq_some_iff.mp hi).1
    have h2 := (List.getElem?_eq_some_iff.mp hj).1
    simp only [List.length_cons, List.length_nil] at h1 h2
    omega, fun k q hk => by
    have h1 := (List.getElem?_eq_some_iff.mp hk).1
    simp only [List.length_cons, List.length_nil] at h1
    rw [show k = 0 by omega] at hk
    cases hk
    exact hA0⟩
  have hl := lv_entry ([.ref (wb w + t)]) (n := 1) (Nat.le_of_ble_eq_true rfl)
  rw [lg_entry_eq]
  generalize (lg_sl ([.ref (wb w + t)]) ++ List.replicate (1 - (lg_sl ([.ref (wb w + t)])).length) Slot.unset).toArray = ls at hl ⊢
  have hl : lv_has ls 1 [(0, .ref (wb w + t))] := hl
  generalize hH0 : s.heap = H at hP ⊢
  have hS : va_S A s.heap H [] := by
    have h9 := hS
    rw [hH0] at h9 ⊢
    exact h9
  refine lv_aload_n hx hb (show decode cX5_init 0 = .ok (.aload_n 0, 1) by decide +kernel) rfl (lv_at hl 0 rfl) ?_
  refine W.objInit hx hb hown (hts _ wz37) (hts _ wz24) (hts _ wz25) rfl (by rw [hml]; exact hl.1) rfl (show decode cX5_init 1 = .ok (.invokespecial 3, 3) by decide +kernel) (Nat.le_of_ble_eq_true rfl) (Nat.le_of_ble_eq_true rfl) ?_
  refine W.eq (g2 := F0 m 4 ls []) rfl ?_
  refine lv_aload_n hx hb (show decode cX5_init 4 = .ok (.aload_n 0, 1) by decide +kernel) rfl (lv_at hl 0 rfl) ?_
  refine lv_iconst (v := 0) hx hb (show decode cX5_init 5 = .ok (.iconst 0, 1) by decide +kernel) (by decide) ?_
  refine va_put (D := wD w) (ci := 5) (v := .int (0)) (ty := .int) (C := RX5) (T := TX5) (N := 11) hx hb hts inX5g tyX5 tyX5_ok nmX5 hown hK hP hD hS 0 rfl rfl 0 (by decide) (hts _ wz38) (fun _ h9 => h9) rfl (by decide +kernel) rfl rfl (Nat.le_of_ble_eq_true rfl) (show decode cX5_init 6 = .ok (.putfield 9, 3) by decide +kernel) (fun H locs hP hD hS => ?_)
  have hP : va_P (wD w) vwCl ([(wb w + t, .inr (5, [.int (0), .null, .null, .null, .null, .null, .int 0, .null, .null, .null, .null]))]) H := hP
  have hD : va_D A ([(wb w + t, .inr (5, [.int (0), .null, .null, .null, .null, .null, .int 0, .null, .null, .null, .null]))]) := hD
  refine lv_aload_n hx hb (show decode cX5_init 9 = .ok (.aload_n 0, 1) by decide +kernel) rfl (lv_at hl 0 rfl) ?_
  refine lv_bipush (v := 24) hx hb (show decode cX5_init 10 = .ok (.bipush 24, 2) by decide +kernel) (by decide) ?_
  have hlow : s.heap.size + 0 ≤ H.size := hS.1
  refine W_size hlow (fun hz => ?_)
  refine vn_newa (atype := .int) (a0 := (24, .inl (fun _ => 0))) (cA := w.2.1.1) (N' := 24) (ty := .int) hx hb (hts _ wz77) rfl hP hD hS hA (hK.2 0 _ rfl).2 rfl (by decide) (by decide) (by decide) (Nat.le_of_ble_eq_true rfl) (Nat.le_of_ble_eq_true rfl) (show decode cX5_init 12 = .ok (.newarray .int, 2) by decide +kernel) (z := wb w + (t + 1)) (by omega) (fun H hP hD hS hz1 => ?_)
  have hP : va_P (wD w) vwCl ([(wb w + t, .inr (5, [.int (0), .null, .null, .null, .null, .null, .int 0, .null, .null, .null, .null])), (wb w + (t + 1), .inl (w.2.1.1, 24, .inl (fun _ => 0)))]) H := hP
  have hD : va_D A ([(wb w + t, .inr (5, [.int (0), .null, .null, .null, .null, .null, .int 0, .null, .null, .null, .null])), (wb w + (t + 1), .inl (w.2.1.1, 24, .inl (fun _ => 0)))]) := hD
  clear hlow hz hz1
  refine W.widen (k := 1) (n := 24) (by omega) (by omega) ?_
  refine va_putF (D := wD w) (ci := 5) (v := .ref (wb w + (t + 1))) (ty := .array .int) (C := RX5) (T := TX5) (N := 11) hx hb hts inX5g tyX5 tyX5_ok nmX5 hown hK hP hD hS 0 rfl rfl 1 (by decide) (hts _ wz41) (fun _ h9 => h9) rfl hin rfl (by decide +kernel) rfl rfl (Nat.le_of_ble_eq_true rfl) (show decode cX5_init 14 = .ok (.putfield 15, 3) by decide +kernel) (fun H locs hP hD hS => ?_)
  have hP : va_P (wD w) vwCl ([(wb w + t, .inr (5, [.int (0), .ref (wb w + (t + 1)), .null, .null, .null, .null, .int 0, .null, .null, .null, .null])), (wb w + (t + 1), .inl (w.2.1.1, 24, .inl (fun _ => 0)))]) H := hP
  have hD : va_D A ([(wb w + t, .inr (5, [.int (0), .ref (wb w + (t + 1)), .null, .null, .null, .null, .int 0, .null, .null, .null, .null])), (wb w + (t + 1), .inl (w.2.1.1, 24, .inl (fun _ => 0)))]) := hD
  refine lv_aload_n hx hb (show decode cX5_init 17 = .ok (.aload_n 0, 1) by decide +kernel) rfl (lv_at hl 0 rfl) ?_
  refine lv_bipush (v := 24) hx hb (show decode cX5_init 18 = .ok (.bipush 24, 2) by decide +kernel) (by decide) ?_
  have hlow : s.heap.size + 1 ≤ H.size := by have := (hP 1 _ rfl).lt; dsimp only at this; omega
  refine W_size hlow (fun hz => ?_)
  refine vn_newa (atype := .int) (a0 := (24, .inl (fun _ => 0))) (cA := w.2.1.1) (N' := 24) (ty := .int) hx hb (hts _ wz77) rfl hP hD hS hA (hK.2 0 _ rfl).2 rfl (by decide) (by decide) (by decide) (Nat.le_of_ble_eq_true rfl) (Nat.le_of_ble_eq_true rfl) (show decode cX5_init 20 = .ok (.newarray .int, 2) by decide +kernel) (z := wb w + (t + 2)) (by omega) (fun H hP hD hS hz1 => ?_)
  have hP : va_P (wD w) vwCl ([(wb w + t, .inr (5, [.int (0), .ref (wb w + (t + 1)), .null, .null, .null, .null, .int 0, .null, .null, .null, .null])), (wb w + (t + 1), .inl (w.2.1.1, 24, .inl (fun _ => 0))), (wb w + (t + 2), .inl (w.2.1.1, 24, .inl (fun _ => 0)))]) H := hP
  have hD : va_D A ([(wb w + t, .inr (5, [.int (0), .ref (wb w + (t + 1)), .null, .null, .null, .null, .int 0, .null, .null, .null, .null])), (wb w + (t + 1), .inl (w.2.1.1, 24, .inl (fun _ => 0))), (wb w + (t + 2), .inl (w.2.1.1, 24, .inl (fun _ => 0)))]) := hD
  clear hlow hz hz1
  refine W.widen (k := 2) (n := 48) (by omega) (by omega) ?_
  refine va_putF (D := wD w) (ci := 5) (v := .ref (wb w + (t + 2))) (ty := .array .int) (C := RX5) (T := TX5) (N := 11) hx hb hts inX5g tyX5 tyX5_ok nmX5 hown hK hP hD hS 0 rfl rfl 2 (by decide) (hts _ wz43) (fun _ h9 => h9) rfl hin rfl (by decide +kernel) rfl rfl (Nat.le_of_ble_eq_true rfl) (show decode cX5_init 22 = .ok (.putfield 19, 3) by decide +kernel) (fun H locs hP hD hS => ?_)
  have hP : va_P (wD w) vwCl ([(wb w + t, .inr (5, [.int (0), .ref (wb w + (t + 1)), .ref (wb w + (t + 2)), .null, .null, .null, .int 0, .null, .null, .null, .null])), (wb w + (t + 1), .inl (w.2.1.1, 24, .inl (fun _ => 0))), (wb w + (t + 2), .inl (w.2.1.1, 24, .inl (fun _ => 0)))]) H := hP
  have hD : va_D A ([(wb w + t, .inr (5, [.int (0), .ref (wb w + (t + 1)), .ref (wb w + (t + 2)), .null, .null, .null, .int 0, .null, .null, .null, .null])), (wb w + (t + 1), .inl (w.2.1.1, 24, .inl (fun _ => 0))), (wb w + (t + 2), .inl (w.2.1.1, 24, .inl (fun _ => 0)))]) := hD
  refine lv_aload_n hx hb (show decode cX5_init 25 = .ok (.aload_n 0, 1) by decide +kernel) rfl (lv_at hl 0 rfl) ?_
  refine lv_bipush (v := 24) hx hb (show decode cX5_init 26 = .ok (.bipush 24, 2) by decide +kernel) (by decide) ?_
  have hlow : s.heap.size + 2 ≤ H.size := by have := (hP 2 _ rfl).lt; dsimp only at this; omega
  refine W_size hlow (fun hz => ?_)
  refine vn_newa (atype := .int) (a0 := (24, .inl (fun _ => 0))) (cA := w.2.1.1) (N' := 24) (ty := .int) hx hb (hts _ wz77) rfl hP hD hS hA (hK.2 0 _ rfl).2 rfl (by decide) (by decide) (by decide) (Nat.le_of_ble_eq_true rfl) (Nat.le_of_ble_eq_true rfl) (show decode cX5_init 28 = .ok (.newarray .int, 2) by decide +kernel) (z := wb w + (t + 3)) (by omega) (fun H hP hD hS hz1 => ?_)
  have hP : va_P (wD w) vwCl ([(wb w + t, .inr (5, [.int (0), .ref (wb w + (t + 1)), .ref (wb w + (t + 2)), .null, .null, .null, .int 0, .null, .null, .null, .null])), (wb w + (t + 1), .inl (w.2.1.1, 24, .inl (fun _ => 0))), (wb w + (t + 2), .inl (w.2.1.1, 24, .inl (fun _ => 0))), (wb w + (t + 3), .inl (w.2.1.1, 24, .inl (fun _ => 0)))]) H := hP
  have hD : va_D A ([(wb w + t, .inr (5, [.int (0), .ref (wb w + (t + 1)), .ref (wb w + (t + 2)), .null, .null, .null, .int 0, .null, .null, .null, .null])), (wb w + (t + 1), .inl (w.2.1.1, 24, .inl (fun _ => 0))), (wb w + (t + 2), .inl (w.2.1.1, 24, .inl (fun _ => 0))), (wb w + (t + 3), .inl (w.2.1.1, 24, .inl (fun _ => 0)))]) := hD
  clear hlow hz hz1
  refine W.widen (k := 3) (n := 72) (by omega) (by omega) ?_
  refine va_putF (D := wD w) (ci := 5) (v := .ref (wb w + (t + 3))) (ty := .array .int) (C := RX5) (T := TX5) (N := 11) hx hb hts inX5g tyX5 tyX5_ok nmX5 hown hK hP hD hS 0 rfl rfl 3 (by decide) (hts _ wz45) (fun _ h9 => h9) rfl hin rfl (by decide +kernel) rfl rfl (Nat.le_of_ble_eq_true rfl) (show decode cX5_init 30 = .ok (.putfield 22, 3) by decide +kernel) (fun H locs hP hD hS => ?_)
  have hP : va_P (wD w) vwCl ([(wb w + t, .inr (5, [.int (0), .ref (wb w + (t + 1)), .ref (wb w + (t + 2)), .ref (wb w + (t + 3)), .null, .null, .int 0, .null, .null, .null, .null])), (wb w + (t + 1), .inl (w.2.1.1, 24, .inl (fun _ => 0))), (wb w + (t + 2), .inl (w.2.1.1, 24, .inl (fun _ => 0))), (wb w + (t + 3), .inl (w.2.1.1, 24, .inl (fun _ => 0)))]) H := hP
  have hD : va_D A ([(wb w + t, .inr (5, [.int (0), .ref (wb w + (t + 1)), .ref (wb w + (t + 2)), .ref (wb w + (t + 3)), .null, .null, .int 0, .null, .null, .null, .null])), (wb w + (t + 1), .inl (w.2.1.1, 24, .inl (fun _ => 0))), (wb w + (t + 2), .inl (w.2.1.1, 24, .inl (fun _ => 0))), (wb w + (t + 3), .inl (w.2.1.1, 24, .inl (fun _ => 0)))]) := hD
  refine lv_aload_n hx hb (show decode cX5_init 33 = .ok (.aload_n 0, 1) by decide +kernel) rfl (lv_at hl 0 rfl) ?_
  refine lv_iconst (v := 2) hx hb (show decode cX5_init 34 = .ok (.iconst 2, 1) by decide +kernel) (by decide) ?_
  have hlow : s.heap.size + 3 ≤ H.size := by have := (hP 3 _ rfl).lt; dsimp only at this; omega
  refine W_size hlow (fun hz => ?_)
  refine vn_newa (atype := .int) (a0 := (2, .inl (fun _ => 0))) (cA := w.2.1.1) (N' := 2) (ty := .int) hx hb (hts _ wz77) rfl hP hD hS hA (hK.2 0 _ rfl).2 rfl (by decide) (by decide) (by decide) (Nat.le_of_ble_eq_true rfl) (Nat.le_of_ble_eq_true rfl) (show decode cX5_init 35 = .ok (.newarray .int, 2) by decide +kernel) (z := wb w + (t + 4)) (by omega) (fun H hP hD hS hz1 => ?_)
  have hP : va_P (wD w) vwCl ([(wb w + t, .inr (5, [.int (0), .ref (wb w + (t + 1)), .ref (wb w + (t + 2)), .ref (wb w + (t + 3)), .null, .null, .int 0, .null, .null, .null, .null])), (wb w + (t + 1), .inl (w.2.1.1, 24, .inl (fun _ => 0))), (wb w + (t + 2), .inl (w.2.1.1, 24, .inl (fun _ => 0))), (wb w + (t + 3), .inl (w.2.1.1, 24, .inl (fun _ => 0))), (wb w + (t + 4), .inl (w.2.1.1, 2, .inl (fun _ => 0)))]) H := hP
  have hD : va_D A ([(wb w + t, .inr (5, [.int (0), .ref (wb w + (t + 1)), .ref (wb w + (t + 2)), .ref (wb w + (t + 3)), .null, .null, .int 0, .null, .null, .null, .null])), (wb w + (t + 1), .inl (w.2.1.1, 24, .inl (fun _ => 0))), (wb w + (t + 2), .inl (w.2.1.1, 24, .inl (fun _ => 0))), (wb w + (t + 3), .inl (w.2.1.1, 24, .inl (fun _ => 0))), (wb w + (t + 4), .inl (w.2.1.1, 2, .inl (fun _ => 0)))]) := hD
  clear hlow hz hz1
  refine W.widen (k := 4) (n := 74) (by omega) (by omega) ?_
  refine va_putF (D := wD w) (ci := 5) (v := .ref (wb w + (t + 4))) (ty := .array .int) (C := RX5) (T := TX5) (N := 11) hx hb hts inX5g tyX5 tyX5_ok nmX5 hown hK hP hD hS 0 rfl rfl 4 (by decide) (hts _ wz47) (fun _ h9 => h9) rfl hin rfl (by decide +kernel) rfl rfl (Nat.le_of_ble_eq_true rfl) (show decode cX5_init 37 = .ok (.putfield 25, 3) by decide +kernel) (fun H locs hP hD hS => ?_)
  have hP : va_P (wD w) vwCl ([(wb w + t, .inr (5, [.int (0), .ref (wb w + (t + 1)), .ref (wb w + (t + 2)), .ref (wb w + (t + 3)), .ref (wb w + (t + 4)), .null, .int 0, .null, .null, .null, .null])), (wb w + (t + 1), .inl (w.2.1.1, 24, .inl (fun _ => 0))), (wb w + (t + 2), .inl (w.2.1.1, 24, .inl (fun _ => 0))), (wb w + (t + 3), .inl (w.2.1.1, 24, .inl (fun _ => 0))), (wb w + (t + 4), .inl (w.2.1.1, 2, .inl (fun _ => 0)))]) H := hP
  have hD : va_D A ([(wb w + t, .inr (5, [.int (0), .ref (wb w + (t + 1)), .ref (wb w + (t + 2)), .ref (wb w + (t + 3)), .ref (wb w + (t + 4)), .null, .int 0, .null, .null, .null, .null])), (wb w + (t + 1), .inl (w.2.1.1, 24, .inl (fun _ => 0))), (wb w + (t + 2), .inl (w.2.1.1, 24, .inl (fun _ => 0))), (wb w + (t + 3), .inl (w.2.1.1, 24, .inl (fun _ => 0))), (wb w + (t + 4), .inl (w.2.1.1, 2, .inl (fun _ => 0)))]) := hD
  refine lv_aload_n hx hb (show decode cX5_init 40 = .ok (.aload_n 0, 1) by decide +kernel) rfl (lv_at hl 0 rfl) ?_
  refine lv_iconst (v := 2) hx hb (show decode cX5_init 41 = .ok (.iconst 2, 1) by decide +kernel) (by decide) ?_
  have hlow : s.heap.size + 4 ≤ H.size := by have := (hP 4 _ rfl).lt; dsimp only at this; omega
  refine W_size hlow (fun hz => ?_)
  refine vn_newa (atype := .int) (a0 := (2, .inl (fun _ => 0))) (cA := w.2.1.1) (N' := 2) (ty := .int) hx hb (hts _ wz77) rfl hP hD hS hA (hK.2 0 _ rfl).2 rfl (by decide) (by decide) (by decide) (Nat.le_of_ble_eq_true rfl) (Nat.le_of_ble_eq_true rfl) (show decode cX5_init 42 = .ok (.newarray .int, 2) by decide +kernel) (z := wb w + (t + 5)) (by omega) (fun H hP hD hS hz1 => ?_)
  have hP : va_P (wD w) vwCl ([(wb w + t, .inr (5, [.int (0), .ref (wb w + (t + 1)), .ref (wb w + (t + 2)), .ref (wb w + (t + 3)), .ref (wb w + (t + 4)), .null, .int 0, .null, .null, .null, .null])), (wb w + (t + 1), .inl (w.2.1.1, 24, .inl (fun _ => 0))), (wb w + (t + 2), .inl (w.2.1.1, 24, .inl (fun _ => 0))), (wb w + (t + 3), .inl (w.2.1.1, 24, .inl (fun _ => 0))), (wb w + (t + 4), .inl (w.2.1.1, 2, .inl (fun _ => 0))), (wb w + (t + 5), .inl (w.2.1.1, 2, .inl (fun _ => 0)))]) H := hP
  have hD : va_D A ([(wb w + t, .inr (5, [.int (0), .ref (wb w + (t + 1)), .ref (wb w + (t + 2)), .ref (wb w + (t + 3)), .ref (wb w + (t + 4)), .null, .int 0, .null, .null, .null, .null])), (wb w + (t + 1), .inl (w.2.1.1, 24, .inl (fun _ => 0))), (wb w + (t + 2), .inl (w.2.1.1, 24, .inl (fun _ => 0))), (wb w + (t + 3), .inl (w.2.1.1, 24, .inl (fun _ => 0))), (wb w + (t + 4), .inl (w.2.1.1, 2, .inl (fun _ => 0))), (wb w + (t + 5), .inl (w.2.1.1, 2, .inl (fun _ => 0)))]) := hD
  clear hlow hz hz1
  refine W.widen (k := 5) (n := 76) (by omega) (by omega) ?_
  refine va_putF (D := wD w) (ci := 5) (v := .ref (wb w + (t + 5))) (ty := .array .int) (C := RX5) (T := TX5) (N := 11) hx hb hts inX5g tyX5 tyX5_ok nmX5 hown hK hP hD hS 0 rfl rfl 5 (by decide) (hts _ wz48) (fun _ h9 => h9) rfl hin rfl (by decide +kernel) rfl rfl (Nat.le_of_ble_eq_true rfl) (show decode cX5_init 44 = .ok (.putfield 28, 3) by decide +kernel) (fun H locs hP hD hS => ?_)
  have hP : va_P (wD w) vwCl ([(wb w + t, .inr (5, [.int (0), .ref (wb w + (t + 1)), .ref (wb w + (t + 2)), .ref (wb w + (t + 3)), .ref (wb w + (t + 4)), .ref (wb w + (t + 5)), .int 0, .null, .null, .null, .null])), (wb w + (t + 1), .inl (w.2.1.1, 24, .inl (fun _ => 0))), (wb w + (t + 2), .inl (w.2.1.1, 24, .inl (fun _ => 0))), (wb w + (t + 3), .inl (w.2.1.1, 24, .inl (fun _ => 0))), (wb w + (t + 4), .inl (w.2.1.1, 2, .inl (fun _ => 0))), (wb w + (t + 5), .inl (w.2.1.1, 2, .inl (fun _ => 0)))]) H := hP
  have hD : va_D A ([(wb w + t, .inr (5, [.int (0), .ref (wb w + (t + 1)), .ref (wb w + (t + 2)), .ref (wb w + (t + 3)), .ref (wb w + (t + 4)), .ref (wb w + (t + 5)), .int 0, .null, .null, .null, .null])), (wb w + (t + 1), .inl (w.2.1.1, 24, .inl (fun _ => 0))), (wb w + (t + 2), .inl (w.2.1.1, 24, .inl (fun _ => 0))), (wb w + (t + 3), .inl (w.2.1.1, 24, .inl (fun _ => 0))), (wb w + (t + 4), .inl (w.2.1.1, 2, .inl (fun _ => 0))), (wb w + (t + 5), .inl (w.2.1.1, 2, .inl (fun _ => 0)))]) := hD
  refine lv_aload_n hx hb (show decode cX5_init 47 = .ok (.aload_n 0, 1) by decide +kernel) rfl (lv_at hl 0 rfl) ?_
  refine lv_iconst (v := 0) hx hb (show decode cX5_init 48 = .ok (.iconst 0, 1) by decide +kernel) (by decide) ?_
  refine va_put (D := wD w) (ci := 5) (v := .int (0)) (ty := .int) (C := RX5) (T := TX5) (N := 11) hx hb hts inX5g tyX5 tyX5_ok nmX5 hown hK hP hD hS 0 rfl rfl 6 (by decide) (hts _ wz49) (fun _ h9 => h9) rfl (by decide +kernel) rfl rfl (Nat.le_of_ble_eq_true rfl) (show decode cX5_init 49 = .ok (.putfield 31, 3) by decide +kernel) (fun H locs hP hD hS => ?_)
  have hP : va_P (wD w) vwCl ([(wb w + t, .inr (5, [.int (0), .ref (wb w + (t + 1)), .ref (wb w + (t + 2)), .ref (wb w + (t + 3)), .ref (wb w + (t + 4)), .ref (wb w + (t + 5)), .int (0), .null, .null, .null, .null])), (wb w + (t + 1), .inl (w.2.1.1, 24, .inl (fun _ => 0))), (wb w + (t + 2), .inl (w.2.1.1, 24, .inl (fun _ => 0))), (wb w + (t + 3), .inl (w.2.1.1, 24, .inl (fun _ => 0))), (wb w + (t + 4), .inl (w.2.1.1, 2, .inl (fun _ => 0))), (wb w + (t + 5), .inl (w.2.1.1, 2, .inl (fun _ => 0)))]) H := hP
  have hD : va_D A ([(wb w + t, .inr (5, [.int (0), .ref (wb w + (t + 1)), .ref (wb w + (t + 2)), .ref (wb w + (t + 3)), .ref (wb w + (t + 4)), .ref (wb w + (t + 5)), .int (0), .null, .null, .null, .null])), (wb w + (t + 1), .inl (w.2.1.1, 24, .inl (fun _ => 0))), (wb w + (t + 2), .inl (w.2.1.1, 24, .inl (fun _ => 0))), (wb w + (t + 3), .inl (w.2.1.1, 24, .inl (fun _ => 0))), (wb w + (t + 4), .inl (w.2.1.1, 2, .inl (fun _ => 0))), (wb w + (t + 5), .inl (w.2.1.1, 2, .inl (fun _ => 0)))]) := hD
  refine lv_aload_n hx hb (show decode cX5_init 52 = .ok (.aload_n 0, 1) by decide +kernel) rfl (lv_at hl 0 rfl) ?_
  refine lv_sipush (v := 300) hx hb (show decode cX5_init 53 = .ok (.sipush 300, 3) by decide +kernel) (by decide) ?_
  have hlow : s.heap.size + 5 ≤ H.size := by have := (hP 5 _ rfl).lt; dsimp only at this; omega
  refine W_size hlow (fun hz => ?_)
  refine vn_newa (atype := .int) (a0 := (300, .inl (fun _ => 0))) (cA := w.2.1.1) (N' := 300) (ty := .int) hx hb (hts _ wz77) rfl hP hD hS hA (hK.2 0 _ rfl).2 rfl (by decide) (by decide) (by decide) (Nat.le_of_ble_eq_true rfl) (Nat.le_of_ble_eq_true rfl) (show decode cX5_init 56 = .ok (.newarray .int, 2) by decide +kernel) (z := wb w + (t + 6)) (by omega) (fun H hP hD hS hz1 => ?_)
  have hP : va_P (wD w) vwCl ([(wb w + t, .inr (5, [.int (0), .ref (wb w + (t + 1)), .ref (wb w + (t + 2)), .ref (wb w + (t + 3)), .ref (wb w + (t + 4)), .ref (wb w + (t + 5)), .int (0), .null, .null, .null, .null])), (wb w + (t + 1), .inl (w.2.1.1, 24, .inl (fun _ => 0))), (wb w + (t + 2), .inl (w.2.1.1, 24, .inl (fun _ => 0))), (wb w + (t + 3), .inl (w.2.1.1, 24, .inl (fun _ => 0))), (wb w + (t + 4), .inl (w.2.1.1, 2, .inl (fun _ => 0))), (wb w + (t + 5), .inl (w.2.1.1, 2, .inl (fun _ => 0))), (wb w + (t + 6), .inl (w.2.1.1, 300, .inl (fun _ => 0)))]) H := hP
  have hD : va_D A ([(wb w + t, .inr (5, [.int (0), .ref (wb w + (t + 1)), .ref (wb w + (t + 2)), .ref (wb w + (t + 3)), .ref (wb w + (t + 4)), .ref (wb w + (t + 5)), .int (0), .null, .null, .null, .null])), (wb w + (t + 1), .inl (w.2.1.1, 24, .inl (fun _ => 0))), (wb w + (t + 2), .inl (w.2.1.1, 24, .inl (fun _ => 0))), (wb w + (t + 3), .inl (w.2.1.1, 24, .inl (fun _ => 0))), (wb w + (t + 4), .inl (w.2.1.1, 2, .inl (fun _ => 0))), (wb w + (t + 5), .inl (w.2.1.1, 2, .inl (fun _ => 0))), (wb w + (t + 6), .inl (w.2.1.1, 300, .inl (fun _ => 0)))]) := hD
  clear hlow hz hz1
  refine W.widen (k := 6) (n := 376) (by omega) (by omega) ?_
  refine va_putF (D := wD w) (ci := 5) (v := .ref (wb w + (t + 6))) (ty := .array .int) (C := RX5) (T := TX5) (N := 11) hx hb hts inX5g tyX5 tyX5_ok nmX5 hown hK hP hD hS 0 rfl rfl 7 (by decide) (hts _ wz50) (fun _ h9 => h9) rfl hin rfl (by decide +kernel) rfl rfl (Nat.le_of_ble_eq_true rfl) (show decode cX5_init 58 = .ok (.putfield 34, 3) by decide +kernel) (fun H locs hP hD hS => ?_)
  have hP : va_P (wD w) vwCl ([(wb w + t, .inr (5, [.int (0), .ref (wb w + (t + 1)), .ref (wb w + (t + 2)), .ref (wb w + (t + 3)), .ref (wb w + (t + 4)), .ref (wb w + (t + 5)), .int (0), .ref (wb w + (t + 6)), .null, .null, .null])), (wb w + (t + 1), .inl (w.2.1.1, 24, .inl (fun _ => 0))), (wb w + (t + 2), .inl (w.2.1.1, 24, .inl (fun _ => 0))), (wb w + (t + 3), .inl (w.2.1.1, 24, .inl (fun _ => 0))), (wb w + (t + 4), .inl (w.2.1.1, 2, .inl (fun _ => 0))), (wb w + (t + 5), .inl (w.2.1.1, 2, .inl (fun _ => 0))), (wb w + (t + 6), .inl (w.2.1.1, 300, .inl (fun _ => 0)))]) H := hP
  have hD : va_D A ([(wb w + t, .inr (5, [.int (0), .ref (wb w + (t + 1)), .ref (wb w + (t + 2)), .ref (wb w + (t + 3)), .ref (wb w + (t + 4)), .ref (wb w + (t + 5)), .int (0), .ref (wb w + (t + 6)), .null, .null, .null])), (wb w + (t + 1), .inl (w.2.1.1, 24, .inl (fun _ => 0))), (wb w + (t + 2), .inl (w.2.1.1, 24, .inl (fun _ => 0))), (wb w + (t + 3), .inl (w.2.1.1, 24, .inl (fun _ => 0))), (wb w + (t + 4), .inl (w.2.1.1, 2, .inl (fun _ => 0))), (wb w + (t + 5), .inl (w.2.1.1, 2, .inl (fun _ => 0))), (wb w + (t + 6), .inl (w.2.1.1, 300, .inl (fun _ => 0)))]) := hD
  refine lv_aload_n hx hb (show decode cX5_init 61 = .ok (.aload_n 0, 1) by decide +kernel) rfl (lv_at hl 0 rfl) ?_
  refine lv_sipush (v := 300) hx hb (show decode cX5_init 62 = .ok (.sipush 300, 3) by decide +kernel) (by decide) ?_
  have hlow : s.heap.size + 6 ≤ H.size := by have := (hP 6 _ rfl).lt; dsimp only at this; omega
  refine W_size hlow (fun hz => ?_)
  refine vn_newa (atype := .int) (a0 := (300, .inl (fun _ => 0))) (cA := w.2.1.1) (N' := 300) (ty := .int) hx hb (hts _ wz77) rfl hP hD hS hA (hK.2 0 _ rfl).2 rfl (by decide) (by decide) (by decide) (Nat.le_of_ble_eq_true rfl) (Nat.le_of_ble_eq_true rfl) (show decode cX5_init 65 = .ok (.newarray .int, 2) by decide +kernel) (z := wb w + (t + 7)) (by omega) (fun H hP hD hS hz1 => ?_)
  have hP : va_P (wD w) vwCl ([(wb w + t, .inr (5, [.int (0), .ref (wb w + (t + 1)), .ref (wb w + (t + 2)), .ref (wb w + (t + 3)), .ref (wb w + (t + 4)), .ref (wb w + (t + 5)), .int (0), .ref (wb w + (t + 6)), .null, .null, .null])), (wb w + (t + 1), .inl (w.2.1.1, 24, .inl (fun _ => 0))), (wb w + (t + 2), .inl (w.2.1.1, 24, .inl (fun _ => 0))), (wb w + (t + 3), .inl (w.2.1.1, 24, .inl (fun _ => 0))), (wb w + (t + 4), .inl (w.2.1.1, 2, .inl (fun _ => 0))), (wb w + (t + 5), .inl (w.2.1.1, 2, .inl (fun _ => 0))), (wb w + (t + 6), .inl (w.2.1.1, 300, .inl (fun _ => 0))), (wb w + (t + 7), .inl (w.2.1.1, 300, .inl (fun _ => 0)))]) H := hP
  have hD : va_D A ([(wb w + t, .inr (5, [.int (0), .ref (wb w + (t + 1)), .ref (wb w + (t + 2)), .ref (wb w + (t + 3)), .ref (wb w + (t + 4)), .ref (wb w + (t + 5)), .int (0), .ref (wb w + (t + 6)), .null, .null, .null])), (wb w + (t + 1), .inl (w.2.1.1, 24, .inl (fun _ => 0))), (wb w + (t + 2), .inl (w.2.1.1, 24, .inl (fun _ => 0))), (wb w + (t + 3), .inl (w.2.1.1, 24, .inl (fun _ => 0))), (wb w + (t + 4), .inl (w.2.1.1, 2, .inl (fun _ => 0))), (wb w + (t + 5), .inl (w.2.1.1, 2, .inl (fun _ => 0))), (wb w + (t + 6), .inl (w.2.1.1, 300, .inl (fun _ => 0))), (wb w + (t + 7), .inl (w.2.1.1, 300, .inl (fun _ => 0)))]) := hD
  clear hlow hz hz1
  refine W.widen (k := 7) (n := 676) (by omega) (by omega) ?_
  refine va_putF (D := wD w) (ci := 5) (v := .ref (wb w + (t + 7))) (ty := .array .int) (C := RX5) (T := TX5) (N := 11) hx hb hts inX5g tyX5 tyX5_ok nmX5 hown hK hP hD hS 0 rfl rfl 8 (by decide) (hts _ wz51) (fun _ h9 => h9) rfl hin rfl (by decide +kernel) rfl rfl (Nat.le_of_ble_eq_true rfl) (show decode cX5_init 67 = .ok (.putfield 37, 3) by decide +kernel) (fun H locs hP hD hS => ?_)
  have hP : va_P (wD w) vwCl ([(wb w + t, .inr (5, [.int (0), .ref (wb w + (t + 1)), .ref (wb w + (t + 2)), .ref (wb w + (t + 3)), .ref (wb w + (t + 4)), .ref (wb w + (t + 5)), .int (0), .ref (wb w + (t + 6)), .ref (wb w + (t + 7)), .null, .null])), (wb w + (t + 1), .inl (w.2.1.1, 24, .inl (fun _ => 0))), (wb w + (t + 2), .inl (w.2.1.1, 24, .inl (fun _ => 0))), (wb w + (t + 3), .inl (w.2.1.1, 24, .inl (fun _ => 0))), (wb w + (t + 4), .inl (w.2.1.1, 2, .inl (fun _ => 0))), (wb w + (t + 5), .inl (w.2.1.1, 2, .inl (fun _ => 0))), (wb w + (t + 6), .inl (w.2.1.1, 300, .inl (fun _ => 0))), (wb w + (t + 7), .inl (w.2.1.1, 300, .inl (fun _ => 0)))]) H := hP
  have hD : va_D A ([(wb w + t, .inr (5, [.int (0), .ref (wb w + (t + 1)), .ref (wb w + (t + 2)), .ref (wb w + (t + 3)), .ref (wb w + (t + 4)), .ref (wb w + (t + 5)), .int (0), .ref (wb w + (t + 6)), .ref (wb w + (t + 7)), .null, .null])), (wb w + (t + 1), .inl (w.2.1.1, 24, .inl (fun _ => 0))), (wb w + (t + 2), .inl (w.2.1.1, 24, .inl (fun _ => 0))), (wb w + (t + 3), .inl (w.2.1.1, 24, .inl (fun _ => 0))), (wb w + (t + 4), .inl (w.2.1.1, 2, .inl (fun _ => 0))), (wb w + (t + 5), .inl (w.2.1.1, 2, .inl (fun _ => 0))), (wb w + (t + 6), .inl (w.2.1.1, 300, .inl (fun _ => 0))), (wb w + (t + 7), .inl (w.2.1.1, 300, .inl (fun _ => 0)))]) := hD
  refine lv_aload_n hx hb (show decode cX5_init 70 = .ok (.aload_n 0, 1) by decide +kernel) rfl (lv_at hl 0 rfl) ?_
  refine lv_bipush (v := 6) hx hb (show decode cX5_init 71 = .ok (.bipush 6, 2) by decide +kernel) (by decide) ?_
  have hlow : s.heap.size + 7 ≤ H.size := by have := (hP 7 _ rfl).lt; dsimp only at this; omega
  refine W_size hlow (fun hz => ?_)
  refine vn_newa (atype := .int) (a0 := (6, .inl (fun _ => 0))) (cA := w.2.1.1) (N' := 6) (ty := .int) hx hb (hts _ wz77) rfl hP hD hS hA (hK.2 0 _ rfl).2 rfl (by decide) (by decide) (by decide) (Nat.le_of_ble_eq_true rfl) (Nat.le_of_ble_eq_true rfl) (show decode cX5_init 73 = .ok (.newarray .int, 2) by decide +kernel) (z := wb w + (t + 8)) (by omega) (fun H hP hD hS hz1 => ?_)
  have hP : va_P (wD w) vwCl ([(wb w + t, .inr (5, [.int (0), .ref (wb w + (t + 1)), .ref (wb w + (t + 2)), .ref (wb w + (t + 3)), .ref (wb w + (t + 4)), .ref (wb w + (t + 5)), .int (0), .ref (wb w + (t + 6)), .ref (wb w + (t + 7)), .null, .null])), (wb w + (t + 1), .inl (w.2.1.1, 24, .inl (fun _ => 0))), (wb w + (t + 2), .inl (w.2.1.1, 24, .inl (fun _ => 0))), (wb w + (t + 3), .inl (w.2.1.1, 24, .inl (fun _ => 0))), (wb w + (t + 4), .inl (w.2.1.1, 2, .inl (fun _ => 0))), (wb w + (t + 5), .inl (w.2.1.1, 2, .inl (fun _ => 0))), (wb w + (t + 6), .inl (w.2.1.1, 300, .inl (fun _ => 0))), (wb w + (t + 7), .inl (w.2.1.1, 300, .inl (fun _ => 0))), (wb w + (t + 8), .inl (w.2.1.1, 6, .inl (fun _ => 0)))]) H := hP
  have hD : va_D A ([(wb w + t, .inr (5, [.int (0), .ref (wb w + (t + 1)), .ref (wb w + (t + 2)), .ref (wb w + (t + 3)), .ref (wb w + (t + 4)), .ref (wb w + (t + 5)), .int (0), .ref (wb w + (t + 6)), .ref (wb w + (t + 7)), .null, .null])), (wb w + (t + 1), .inl (w.2.1.1, 24, .inl (fun _ => 0))), (wb w + (t + 2), .inl (w.2.1.1, 24, .inl (fun _ => 0))), (wb w + (t + 3), .inl (w.2.1.1, 24, .inl (fun _ => 0))), (wb w + (t + 4), .inl (w.2.1.1, 2, .inl (fun _ => 0))), (wb w + (t + 5), .inl (w.2.1.1, 2, .inl (fun _ => 0))), (wb w + (t + 6), .inl (w.2.1.1, 300, .inl (fun _ => 0))), (wb w + (t + 7), .inl (w.2.1.1, 300, .inl (fun _ => 0))), (wb w + (t + 8), .inl (w.2.1.1, 6, .inl (fun _ => 0)))]) := hD
  clear hlow hz hz1
  refine W.widen (k := 8) (n := 682) (by omega) (by omega) ?_
  refine va_putF (D := wD w) (ci := 5) (v := .ref (wb w + (t + 8))) (ty := .array .int) (C := RX5) (T := TX5) (N := 11) hx hb hts inX5g tyX5 tyX5_ok nmX5 hown hK hP hD hS 0 rfl rfl 9 (by decide) (hts _ wz52) (fun _ h9 => h9) rfl hin rfl (by decide +kernel) rfl rfl (Nat.le_of_ble_eq_true rfl) (show decode cX5_init 75 = .ok (.putfield 40, 3) by decide +kernel) (fun H locs hP hD hS => ?_)
  have hP : va_P (wD w) vwCl ([(wb w + t, .inr (5, [.int (0), .ref (wb w + (t + 1)), .ref (wb w + (t + 2)), .ref (wb w + (t + 3)), .ref (wb w + (t + 4)), .ref (wb w + (t + 5)), .int (0), .ref (wb w + (t + 6)), .ref (wb w + (t + 7)), .ref (wb w + (t + 8)), .null])), (wb w + (t + 1), .inl (w.2.1.1, 24, .inl (fun _ => 0))), (wb w + (t + 2), .inl (w.2.1.1, 24, .inl (fun _ => 0))), (wb w + (t + 3), .inl (w.2.1.1, 24, .inl (fun _ => 0))), (wb w + (t + 4), .inl (w.2.1.1, 2, .inl (fun _ => 0))), (wb w + (t + 5), .inl (w.2.1.1, 2, .inl (fun _ => 0))), (wb w + (t + 6), .inl (w.2.1.1, 300, .inl (fun _ => 0))), (wb w + (t + 7), .inl (w.2.1.1, 300, .inl (fun _ => 0))), (wb w + (t + 8), .inl (w.2.1.1, 6, .inl (fun _ => 0)))]) H := hP
  have hD : va_D A ([(wb w + t, .inr (5, [.int (0), .ref (wb w + (t + 1)), .ref (wb w + (t + 2)), .ref (wb w + (t + 3)), .ref (wb w + (t + 4)), .ref (wb w + (t + 5)), .int (0), .ref (wb w + (t + 6)), .ref (wb w + (t + 7)), .ref (wb w + (t + 8)), .null])), (wb w + (t + 1), .inl (w.2.1.1, 24, .inl (fun _ => 0))), (wb w + (t + 2), .inl (w.2.1.1, 24, .inl (fun _ => 0))), (wb w + (t + 3), .inl (w.2.1.1, 24, .inl (fun _ => 0))), (wb w + (t + 4), .inl (w.2.1.1, 2, .inl (fun _ => 0))), (wb w + (t + 5), .inl (w.2.1.1, 2, .inl (fun _ => 0))), (wb w + (t + 6), .inl (w.2.1.1, 300, .inl (fun _ => 0))), (wb w + (t + 7), .inl (w.2.1.1, 300, .inl (fun _ => 0))), (wb w + (t + 8), .inl (w.2.1.1, 6, .inl (fun _ => 0)))]) := hD
  refine lv_aload_n hx hb (show decode cX5_init 78 = .ok (.aload_n 0, 1) by decide +kernel) rfl (lv_at hl 0 rfl) ?_
  refine lv_bipush (v := 64) hx hb (show decode cX5_init 79 = .ok (.bipush 64, 2) by decide +kernel) (by decide) ?_
  have hlow : s.heap.size + 8 ≤ H.size := by have := (hP 8 _ rfl).lt; dsimp only at this; omega
  refine W_size hlow (fun hz => ?_)
  refine vn_newa (atype := .int) (a0 := (64, .inl (fun _ => 0))) (cA := w.2.1.1) (N' := 64) (ty := .int) hx hb (hts _ wz77) rfl hP hD hS hA (hK.2 0 _ rfl).2 rfl (by decide) (by decide) (by decide) (Nat.le_of_ble_eq_true rfl) (Nat.le_of_ble_eq_true rfl) (show decode cX5_init 81 = .ok (.newarray .int, 2) by decide +kernel) (z := wb w + (t + 9)) (by omega) (fun H hP hD hS hz1 => ?_)
  have hP : va_P (wD w) vwCl ([(wb w + t, .inr (5, [.int (0), .ref (wb w + (t + 1)), .ref (wb w + (t + 2)), .ref (wb w + (t + 3)), .ref (wb w + (t + 4)), .ref (wb w + (t + 5)), .int (0), .ref (wb w + (t + 6)), .ref (wb w + (t + 7)), .ref (wb w + (t + 8)), .null])), (wb w + (t + 1), .inl (w.2.1.1, 24, .inl (fun _ => 0))), (wb w + (t + 2), .inl (w.2.1.1, 24, .inl (fun _ => 0))), (wb w + (t + 3), .inl (w.2.1.1, 24, .inl (fun _ => 0))), (wb w + (t + 4), .inl (w.2.1.1, 2, .inl (fun _ => 0))), (wb w + (t + 5), .inl (w.2.1.1, 2, .inl (fun _ => 0))), (wb w + (t + 6), .inl (w.2.1.1, 300, .inl (fun _ => 0))), (wb w + (t + 7), .inl (w.2.1.1, 300, .inl (fun _ => 0))), (wb w + (t + 8), .inl (w.2.1.1, 6, .inl (fun _ => 0))), (wb w + (t + 9), .inl (w.2.1.1, 64, .inl (fun _ => 0)))]) H := hP
  have hD : va_D A ([(wb w + t, .inr (5, [.int (0), .ref (wb w + (t + 1)), .ref (wb w + (t + 2)), .ref (wb w + (t + 3)), .ref (wb w + (t + 4)), .ref (wb w + (t + 5)), .int (0), .ref (wb w + (t + 6)), .ref (wb w + (t + 7)), .ref (wb w + (t + 8)), .null])), (wb w + (t + 1), .inl (w.2.1.1, 24, .inl (fun _ => 0))), (wb w + (t + 2), .inl (w.2.1.1, 24, .inl (fun _ => 0))), (wb w + (t + 3), .inl (w.2.1.1, 24, .inl (fun _ => 0))), (wb w + (t + 4), .inl (w.2.1.1, 2, .inl (fun _ => 0))), (wb w + (t + 5), .inl (w.2.1.1, 2, .inl (fun _ => 0))), (wb w + (t + 6), .inl (w.2.1.1, 300, .inl (fun _ => 0))), (wb w + (t + 7), .inl (w.2.1.1, 300, .inl (fun _ => 0))), (wb w + (t + 8), .inl (w.2.1.1, 6, .inl (fun _ => 0))), (wb w + (t + 9), .inl (w.2.1.1, 64, .inl (fun _ => 0)))]) := hD
  clear hlow hz hz1
  refine W.widen (k := 9) (n := 746) (by omega) (by omega) ?_
  refine va_putF (D := wD w) (ci := 5) (v := .ref (wb w + (t + 9))) (ty := .array .int) (C := RX5) (T := TX5) (N := 11) hx hb hts inX5g tyX5 tyX5_ok nmX5 hown hK hP hD hS 0 rfl rfl 10 (by decide) (hts _ wz53) (fun _ h9 => h9) rfl hin rfl (by decide +kernel) rfl rfl (Nat.le_of_ble_eq_true rfl) (show decode cX5_init 83 = .ok (.putfield 43, 3) by decide +kernel) (fun H locs hP hD hS => ?_)
  have hP : va_P (wD w) vwCl ([(wb w + t, .inr (5, [.int (0), .ref (wb w + (t + 1)), .ref (wb w + (t + 2)), .ref (wb w + (t + 3)), .ref (wb w + (t + 4)), .ref (wb w + (t + 5)), .int (0), .ref (wb w + (t + 6)), .ref (wb w + (t + 7)), .ref (wb w + (t + 8)), .ref (wb w + (t + 9))])), (wb w + (t + 1), .inl (w.2.1.1, 24, .inl (fun _ => 0))), (wb w + (t + 2), .inl (w.2.1.1, 24, .inl (fun _ => 0))), (wb w + (t + 3), .inl (w.2.1.1, 24, .inl (fun _ => 0))), (wb w + (t + 4), .inl (w.2.1.1, 2, .inl (fun _ => 0))), (wb w + (t + 5), .inl (w.2.1.1, 2, .inl (fun _ => 0))), (wb w + (t + 6), .inl (w.2.1.1, 300, .inl (fun _ => 0))), (wb w + (t + 7), .inl (w.2.1.1, 300, .inl (fun _ => 0))), (wb w + (t + 8), .inl (w.2.1.1, 6, .inl (fun _ => 0))), (wb w + (t + 9), .inl (w.2.1.1, 64, .inl (fun _ => 0)))]) H := hP
  have hD : va_D A ([(wb w + t, .inr (5, [.int (0), .ref (wb w + (t + 1)), .ref (wb w + (t + 2)), .ref (wb w + (t + 3)), .ref (wb w + (t + 4)), .ref (wb w + (t + 5)), .int (0), .ref (wb w + (t + 6)), .ref (wb w + (t + 7)), .ref (wb w + (t + 8)), .ref (wb w + (t + 9))])), (wb w + (t + 1), .inl (w.2.1.1, 24, .inl (fun _ => 0))), (wb w + (t + 2), .inl (w.2.1.1, 24, .inl (fun _ => 0))), (wb w + (t + 3), .inl (w.2.1.1, 24, .inl (fun _ => 0))), (wb w + (t + 4), .inl (w.2.1.1, 2, .inl (fun _ => 0))), (wb w + (t + 5), .inl (w.2.1.1, 2, .inl (fun _ => 0))), (wb w + (t + 6), .inl (w.2.1.1, 300, .inl (fun _ => 0))), (wb w + (t + 7), .inl (w.2.1.1, 300, .inl (fun _ => 0))), (wb w + (t + 8), .inl (w.2.1.1, 6, .inl (fun _ => 0))), (wb w + (t + 9), .inl (w.2.1.1, 64, .inl (fun _ => 0)))]) := hD
  have hF : va_P (wD w) vwCl (blk w t 10) H := by rw [blk_X5 w ht]; exact hP
  refine W.widen (k := 9) (n := 746) (Nat.le_of_ble_eq_true rfl) (Nat.le_of_ble_eq_true rfl) ?_
  exact W.vret hx hb hr (fun u hu hW => ⟨rfl, by rw [hu]; exact hF, by rw [hAe]; exact hS.F hu⟩) (fun q hq => hS.2.2 q hq) (show decode cX5_init 86 = .ok (.return_, 1) by decide +kernel)
set_option maxHeartbeats 4000000 in
set_option maxRecDepth 100000 in
theorem ct_X0 (w : WT) (l : Launch) (t : Nat) (ht : t = 480) : Met l yX0_init (wsJ yX0_init cX0_init 1 none) (rmI 1 3 36) (PcI w t 0 [.int 0, .int 0, .int 0, .null, .null, .null]) (QcI w t 4) 3 36 (fun q => wb w + t ≤ q) := by
  refine Met.ofW (cc := cX0_init) (maxL := 1) (ret := none) (by decide +kernel) rfl ?_
  intro p e s m args below meth c s₁ B hml hv
  obtain ⟨rfl, hsz, hP, hK, hNW, hStr⟩ := hv
  have hx := B.exec
  have hb := B.bytes
  have hr := B.returns
  have hlocks : meth.locks = false := B.notSynchronized
  have hown : s.vm.findClass RX0 = some m.cls := findClass_of_methodNamed B.named
  have hin : meth.name = "<init>" := (name_of_methodNamed B.named B.method).1
  have hts0 := atoms_spec (ws := wsJ yX0_init cX0_init 1 none) B.pre
  have hts : ∀ x ∈ lw_good, x.before ([.ref (wb w + t)] : List Value).toArray s = true := fun x hx => hts0 x (List.mem_cons_of_mem _ hx)
  generalize hAe : (fun q : Nat => wb w + t ≤ q) = A at hStr ⊢
  have hA : ∀ q : Nat, s.heap.size ≤ q → A q := fun q h => by rw [← hAe]; dsimp only; omega
  have hA0 : A (wb w + t) := by rw [← hAe]; exact Nat.le_refl _
  have hS : va_S A s.heap s.heap [] := va_S.rf
  have hD : va_D A ([(wb w + t, .inr (0, [.int 0, .int 0, .int 0, .null, .null, .null]))]) := ⟨fun i j p q hi hj _ => by
    have h1 := (List.getElem?_eq_some_iff.mp hi).1
    have h2 := (List.getElem?_eq_some_iff.mp hj).1
    simp only [List.length_cons, List.length_nil] at h1 h2
    omega, fun k q hk => by
    have h1 := (List.getElem?_eq_some_iff.mp hk).1
    simp only [List.length_cons, List.length_nil] at h1
    rw [show k = 0 by omega] at hk
    cases hk
    exact hA0⟩
  have hl := lv_entry ([.ref (wb w + t)]) (n := 1) (Nat.le_of_ble_eq_true rfl)
  rw [lg_entry_eq]
  generalize (lg_sl ([.ref (wb w + t)]) ++ List.replicate (1 - (lg_sl ([.ref (wb w + t)])).length) Slot.unset).toArray = ls at hl ⊢
  have hl : lv_has ls 1 [(0, .ref (wb w + t))] := hl
  generalize hH0 : s.heap = H at hP ⊢
  have hS : va_S A s.heap H [] := by
    have h9 := hS
    rw [hH0] at h9 ⊢
    exact h9
  refine lv_aload_n hx hb (show decode cX0_init 0 = .ok (.aload_n 0, 1) by decide +kernel) rfl (lv_at hl 0 rfl) ?_
  refine W.objInit hx hb hown (hts _ wz256) (hts _ wz24) (hts _ wz25) rfl (by rw [hml]; exact hl.1) rfl (show decode cX0_init 1 = .ok (.invokespecial 3, 3) by decide +kernel) (Nat.le_of_ble_eq_true rfl) (Nat.le_of_ble_eq_true rfl) ?_
  refine W.eq (g2 := F0 m 4 ls []) rfl ?_
  refine lv_aload_n hx hb (show decode cX0_init 4 = .ok (.aload_n 0, 1) by decide +kernel) rfl (lv_at hl 0 rfl) ?_
  refine lv_iconst (v := 0) hx hb (show decode cX0_init 5 = .ok (.iconst 0, 1) by decide +kernel) (by decide) ?_
  refine va_put (D := wD w) (ci := 0) (v := .int (0)) (ty := .int) (C := RX0) (T := TX0) (N := 6) hx hb hts inX0g tyX0 tyX0_ok nmX0 hown hK hP hD hS 0 rfl rfl 0 (by decide) (hts _ wz257) (fun _ h9 => h9) rfl (by decide +kernel) rfl rfl (Nat.le_of_ble_eq_true rfl) (show decode cX0_init 6 = .ok (.putfield 9, 3) by decide +kernel) (fun H locs hP hD hS => ?_)
  have hP : va_P (wD w) vwCl ([(wb w + t, .inr (0, [.int (0), .int 0, .int 0, .null, .null, .null]))]) H := hP
  have hD : va_D A ([(wb w + t, .inr (0, [.int (0), .int 0, .int 0, .null, .null, .null]))]) := hD
  refine lv_aload_n hx hb (show decode cX0_init 9 = .ok (.aload_n 0, 1) by decide +kernel) rfl (lv_at hl 0 rfl) ?_
  refine lv_iconst (v := 0) hx hb (show decode cX0_init 10 = .ok (.iconst 0, 1) by decide +kernel) (by decide) ?_
  refine va_put (D := wD w) (ci := 0) (v := .int (0)) (ty := .int) (C := RX0) (T := TX0) (N := 6) hx hb hts inX0g tyX0 tyX0_ok nmX0 hown hK hP hD hS 0 rfl rfl 1 (by decide) (hts _ wz258) (fun _ h9 => h9) rfl (by decide +kernel) rfl rfl (Nat.le_of_ble_eq_true rfl) (show decode cX0_init 11 = .ok (.putfield 15, 3) by decide +kernel) (fun H locs hP hD hS => ?_)
  have hP : va_P (wD w) vwCl ([(wb w + t, .inr (0, [.int (0), .int (0), .int 0, .null, .null, .null]))]) H := hP
  have hD : va_D A ([(wb w + t, .inr (0, [.int (0), .int (0), .int 0, .null, .null, .null]))]) := hD
  refine lv_aload_n hx hb (show decode cX0_init 14 = .ok (.aload_n 0, 1) by decide +kernel) rfl (lv_at hl 0 rfl) ?_
  refine lv_iconst (v := 0) hx hb (show decode cX0_init 15 = .ok (.iconst 0, 1) by decide +kernel) (by decide) ?_
  refine va_put (D := wD w) (ci := 0) (v := .int (0)) (ty := .int) (C := RX0) (T := TX0) (N := 6) hx hb hts inX0g tyX0 tyX0_ok nmX0 hown hK hP hD hS 0 rfl rfl 2 (by decide) (hts _ wz259) (fun _ h9 => h9) rfl (by decide +kernel) rfl rfl (Nat.le_of_ble_eq_true rfl) (show decode cX0_init 16 = .ok (.putfield 18, 3) by decide +kernel) (fun H locs hP hD hS => ?_)
  have hP : va_P (wD w) vwCl ([(wb w + t, .inr (0, [.int (0), .int (0), .int (0), .null, .null, .null]))]) H := hP
  have hD : va_D A ([(wb w + t, .inr (0, [.int (0), .int (0), .int (0), .null, .null, .null]))]) := hD
  refine lv_aload_n hx hb (show decode cX0_init 19 = .ok (.aload_n 0, 1) by decide +kernel) rfl (lv_at hl 0 rfl) ?_
  refine lv_bipush (v := 12) hx hb (show decode cX0_init 20 = .ok (.bipush 12, 2) by decide +kernel) (by decide) ?_
  have hlow : s.heap.size + 0 ≤ H.size := hS.1
  refine W_size hlow (fun hz => ?_)
  refine vn_newa (atype := .int) (a0 := (12, .inl (fun _ => 0))) (cA := w.2.1.1) (N' := 12) (ty := .int) hx hb (hts _ wz77) rfl hP hD hS hA (hK.2 0 _ rfl).2 rfl (by decide) (by decide) (by decide) (Nat.le_of_ble_eq_true rfl) (Nat.le_of_ble_eq_true rfl) (show decode cX0_init 22 = .ok (.newarray .int, 2) by decide +kernel) (z := wb w + (t + 1)) (by omega) (fun H hP hD hS hz1 => ?_)
  have hP : va_P (wD w) vwCl ([(wb w + t, .inr (0, [.int (0), .int (0), .int (0), .null, .null, .null])), (wb w + (t + 1), .inl (w.2.1.1, 12, .inl (fun _ => 0)))]) H := hP
  have hD : va_D A ([(wb w + t, .inr (0, [.int (0), .int (0), .int (0), .null, .null, .null])), (wb w + (t + 1), .inl (w.2.1.1, 12, .inl (fun _ => 0)))]) := hD
  clear hlow hz hz1
  refine W.widen (k := 1) (n := 12) (by omega) (by omega) ?_
  refine va_putF (D := wD w) (ci := 0) (v := .ref (wb w + (t + 1))) (ty := .array .int) (C := RX0) (T := TX0) (N := 6) hx hb hts inX0g tyX0 tyX0_ok nmX0 hown hK hP hD hS 0 rfl rfl 3 (by decide) (hts _ wz260) (fun _ h9 => h9) rfl hin rfl (by decide +kernel) rfl rfl (Nat.le_of_ble_eq_true rfl) (show decode cX0_init 24 = .ok (.putfield 21, 3) by decide +kernel) (fun H locs hP hD hS => ?_)
  have hP : va_P (wD w) vwCl ([(wb w + t, .inr (0, [.int (0), .int (0), .int (0), .ref (wb w + (t + 1)), .null, .null])), (wb w + (t + 1), .inl (w.2.1.1, 12, .inl (fun _ => 0)))]) H := hP
  have hD : va_D A ([(wb w + t, .inr (0, [.int (0), .int (0), .int (0), .ref (wb w + (t + 1)), .null, .null])), (wb w + (t + 1), .inl (w.2.1.1, 12, .inl (fun _ => 0)))]) := hD
  refine lv_aload_n hx hb (show decode cX0_init 27 = .ok (.aload_n 0, 1) by decide +kernel) rfl (lv_at hl 0 rfl) ?_
  refine lv_bipush (v := 12) hx hb (show decode cX0_init 28 = .ok (.bipush 12, 2) by decide +kernel) (by decide) ?_
  have hlow : s.heap.size + 1 ≤ H.size := by have := (hP 1 _ rfl).lt; dsimp only at this; omega
  refine W_size hlow (fun hz => ?_)
  refine vn_newa (atype := .int) (a0 := (12, .inl (fun _ => 0))) (cA := w.2.1.1) (N' := 12) (ty := .int) hx hb (hts _ wz77) rfl hP hD hS hA (hK.2 0 _ rfl).2 rfl (by decide) (by decide) (by decide) (Nat.le_of_ble_eq_true rfl) (Nat.le_of_ble_eq_true rfl) (show decode cX0_init 30 = .ok (.newarray .int, 2) by decide +kernel) (z := wb w + (t + 2)) (by omega) (fun H hP hD hS hz1 => ?_)
  have hP : va_P (wD w) vwCl ([(wb w + t, .inr (0, [.int (0), .int (0), .int (0), .ref (wb w + (t + 1)), .null, .null])), (wb w + (t + 1), .inl (w.2.1.1, 12, .inl (fun _ => 0))), (wb w + (t + 2), .inl (w.2.1.1, 12, .inl (fun _ => 0)))]) H := hP
  have hD : va_D A ([(wb w + t, .inr (0, [.int (0), .int (0), .int (0), .ref (wb w + (t + 1)), .null, .null])), (wb w + (t + 1), .inl (w.2.1.1, 12, .inl (fun _ => 0))), (wb w + (t + 2), .inl (w.2.1.1, 12, .inl (fun _ => 0)))]) := hD
  clear hlow hz hz1
  refine W.widen (k := 2) (n := 24) (by omega) (by omega) ?_
  refine va_putF (D := wD w) (ci := 0) (v := .ref (wb w + (t + 2))) (ty := .array .int) (C := RX0) (T := TX0) (N := 6) hx hb hts inX0g tyX0 tyX0_ok nmX0 hown hK hP hD hS 0 rfl rfl 4 (by decide) (hts _ wz261) (fun _ h9 => h9) rfl hin rfl (by decide +kernel) rfl rfl (Nat.le_of_ble_eq_true rfl) (show decode cX0_init 32 = .ok (.putfield 25, 3) by decide +kernel) (fun H locs hP hD hS => ?_)
  have hP : va_P (wD w) vwCl ([(wb w + t, .inr (0, [.int (0), .int (0), .int (0), .ref (wb w + (t + 1)), .ref (wb w + (t + 2)), .null])), (wb w + (t + 1), .inl (w.2.1.1, 12, .inl (fun _ => 0))), (wb w + (t + 2), .inl (w.2.1.1, 12, .inl (fun _ => 0)))]) H := hP
  have hD : va_D A ([(wb w + t, .inr (0, [.int (0), .int (0), .int (0), .ref (wb w + (t + 1)), .ref (wb w + (t + 2)), .null])), (wb w + (t + 1), .inl (w.2.1.1, 12, .inl (fun _ => 0))), (wb w + (t + 2), .inl (w.2.1.1, 12, .inl (fun _ => 0)))]) := hD
  refine lv_aload_n hx hb (show decode cX0_init 35 = .ok (.aload_n 0, 1) by decide +kernel) rfl (lv_at hl 0 rfl) ?_
  refine lv_bipush (v := 12) hx hb (show decode cX0_init 36 = .ok (.bipush 12, 2) by decide +kernel) (by decide) ?_
  have hlow : s.heap.size + 2 ≤ H.size := by have := (hP 2 _ rfl).lt; dsimp only at this; omega
  refine W_size hlow (fun hz => ?_)
  refine vn_newa (atype := .int) (a0 := (12, .inl (fun _ => 0))) (cA := w.2.1.1) (N' := 12) (ty := .int) hx hb (hts _ wz77) rfl hP hD hS hA (hK.2 0 _ rfl).2 rfl (by decide) (by decide) (by decide) (Nat.le_of_ble_eq_true rfl) (Nat.le_of_ble_eq_true rfl) (show decode cX0_init 38 = .ok (.newarray .int, 2) by decide +kernel) (z := wb w + (t + 3)) (by omega) (fun H hP hD hS hz1 => ?_)
  have hP : va_P (wD w) vwCl ([(wb w + t, .inr (0, [.int (0), .int (0), .int (0), .ref (wb w + (t + 1)), .ref (wb w + (t + 2)), .null])), (wb w + (t + 1), .inl (w.2.1.1, 12, .inl (fun _ => 0))), (wb w + (t + 2), .inl (w.2.1.1, 12, .inl (fun _ => 0))), (wb w + (t + 3), .inl (w.2.1.1, 12, .inl (fun _ => 0)))]) H := hP
  have hD : va_D A ([(wb w + t, .inr (0, [.int (0), .int (0), .int (0), .ref (wb w + (t + 1)), .ref (wb w + (t + 2)), .null])), (wb w + (t + 1), .inl (w.2.1.1, 12, .inl (fun _ => 0))), (wb w + (t + 2), .inl (w.2.1.1, 12, .inl (fun _ => 0))), (wb w + (t + 3), .inl (w.2.1.1, 12, .inl (fun _ => 0)))]) := hD
  clear hlow hz hz1
  refine W.widen (k := 3) (n := 36) (by omega) (by omega) ?_
  refine va_putF (D := wD w) (ci := 0) (v := .ref (wb w + (t + 3))) (ty := .array .int) (C := RX0) (T := TX0) (N := 6) hx hb hts inX0g tyX0 tyX0_ok nmX0 hown hK hP hD hS 0 rfl rfl 5 (by decide) (hts _ wz262) (fun _ h9 => h9) rfl hin rfl (by decide +kernel) rfl rfl (Nat.le_of_ble_eq_true rfl) (show decode cX0_init 40 = .ok (.putfield 28, 3) by decide +kernel) (fun H locs hP hD hS => ?_)
  have hP : va_P (wD w) vwCl ([(wb w + t, .inr (0, [.int (0), .int (0), .int (0), .ref (wb w + (t + 1)), .ref (wb w + (t + 2)), .ref (wb w + (t + 3))])), (wb w + (t + 1), .inl (w.2.1.1, 12, .inl (fun _ => 0))), (wb w + (t + 2), .inl (w.2.1.1, 12, .inl (fun _ => 0))), (wb w + (t + 3), .inl (w.2.1.1, 12, .inl (fun _ => 0)))]) H := hP
  have hD : va_D A ([(wb w + t, .inr (0, [.int (0), .int (0), .int (0), .ref (wb w + (t + 1)), .ref (wb w + (t + 2)), .ref (wb w + (t + 3))])), (wb w + (t + 1), .inl (w.2.1.1, 12, .inl (fun _ => 0))), (wb w + (t + 2), .inl (w.2.1.1, 12, .inl (fun _ => 0))), (wb w + (t + 3), .inl (w.2.1.1, 12, .inl (fun _ => 0)))]) := hD
  have hF : va_P (wD w) vwCl (blk w t 4) H := by rw [blk_X0 w ht]; exact hP
  refine W.widen (k := 3) (n := 36) (Nat.le_of_ble_eq_true rfl) (Nat.le_of_ble_eq_true rfl) ?_
  exact W.vret hx hb hr (fun u hu hW => ⟨rfl, by rw [hu]; exact hF, by rw [hAe]; exact hS.F hu⟩) (fun q hq => hS.2.2 q hq) (show decode cX0_init 43 = .ok (.return_, 1) by decide +kernel)
set_option maxHeartbeats 4000000 in
set_option maxRecDepth 100000 in
theorem ct_X2 (w : WT) (l : Launch) (t : Nat) (ht : t = 476) : Met l yX2_init (wsJ yX2_init cX2_init 1 none) (rmI 1 3 4120) (PcI w t 2 [.int 0, .null, .null, .null]) (QcI w t 4) 3 4120 (fun q => wb w + t ≤ q) := by
  refine Met.ofW (cc := cX2_init) (maxL := 1) (ret := none) (by decide +kernel) rfl ?_
  intro p e s m args below meth c s₁ B hml hv
  obtain ⟨rfl, hsz, hP, hK, hNW, hStr⟩ := hv
  have hx := B.exec
  have hb := B.bytes
  have hr := B.returns
  have hlocks : meth.locks = false := B.notSynchronized
  have hown : s.vm.findClass RX2 = some m.cls := findClass_of_methodNamed B.named
  have hin : meth.name = "<init>" := (name_of_methodNamed B.named B.method).1
  have hts0 := atoms_spec (ws := wsJ yX2_init cX2_init 1 none) B.pre
  have hts : ∀ x ∈ lw_good, x.before ([.ref (wb w + t)] : List Value).toArray s = true := fun x hx => hts0 x (List.mem_cons_of_mem _ hx)
  generalize hAe : (fun q : Nat => wb w + t ≤ q) = A at hStr ⊢
  have hA : ∀ q : Nat, s.heap.size ≤ q → A q := fun q h => by rw [← hAe]; dsimp only; omega
  have hA0 : A (wb w + t) := by rw [← hAe]; exact Nat.le_refl _
  have hS : va_S A s.heap s.heap [] := va_S.rf
  have hD : va_D A ([(wb w + t, .inr (2, [.int 0, .null, .null, .null]))]) := ⟨fun i j p q hi hj _ => by
    have h1 := (List.getElem?_eq_some_iff.mp hi).1
    have h2 := (List.getElem?_eq_some_iff.mp hj).1
    simp only [List.length_cons, List.length_nil] at h1 h2
    omega, fun k q hk => by
    have h1 := (List.getElem?_eq_some_iff.mp hk).1
    simp only [List.length_cons, List.length_nil] at h1
    rw [show k = 0 by omega] at hk
    cases hk
    exact hA0⟩
  have hl := lv_entry ([.ref (wb w + t)]) (n := 1) (Nat.le_of_ble_eq_true rfl)
  rw [lg_entry_eq]
  generalize (lg_sl ([.ref (wb w + t)]) ++ List.replicate (1 - (lg_sl ([.ref (wb w + t)])).length) Slot.unset).toArray = ls at hl ⊢
  have hl : lv_has ls 1 [(0, .ref (wb w + t))] := hl
  generalize hH0 : s.heap = H at hP ⊢
  have hS : va_S A s.heap H [] := by
    have h9 := hS
    rw [hH0] at h9 ⊢
    exact h9
  refine lv_aload_n hx hb (show decode cX2_init 0 = .ok (.aload_n 0, 1) by decide +kernel) rfl (lv_at hl 0 rfl) ?_
  refine W.objInit hx hb hown (hts _ wz237) (hts _ wz24) (hts _ wz25) rfl (by rw [hml]; exact hl.1) rfl (show decode cX2_init 1 = .ok (.invokespecial 3, 3) by decide +kernel) (Nat.le_of_ble_eq_true rfl) (Nat.le_of_ble_eq_true rfl) ?_
  refine W.eq (g2 := F0 m 4 ls []) rfl ?_
  refine lv_aload_n hx hb (show decode cX2_init 4 = .ok (.aload_n 0, 1) by decide +kernel) rfl (lv_at hl 0 rfl) ?_
  refine lv_iconst (v := 0) hx hb (show decode cX2_init 5 = .ok (.iconst 0, 1) by decide +kernel) (by decide) ?_
  refine va_put (D := wD w) (ci := 2) (v := .int (0)) (ty := .int) (C := RX2) (T := TX2) (N := 4) hx hb hts inX2g tyX2 tyX2_ok nmX2 hown hK hP hD hS 0 rfl rfl 0 (by decide) (hts _ wz238) (fun _ h9 => h9) rfl (by decide +kernel) rfl rfl (Nat.le_of_ble_eq_true rfl) (show decode cX2_init 6 = .ok (.putfield 9, 3) by decide +kernel) (fun H locs hP hD hS => ?_)
  have hP : va_P (wD w) vwCl ([(wb w + t, .inr (2, [.int (0), .null, .null, .null]))]) H := hP
  have hD : va_D A ([(wb w + t, .inr (2, [.int (0), .null, .null, .null]))]) := hD
  refine lv_aload_n hx hb (show decode cX2_init 9 = .ok (.aload_n 0, 1) by decide +kernel) rfl (lv_at hl 0 rfl) ?_
  refine lv_bipush (v := 12) hx hb (show decode cX2_init 10 = .ok (.bipush 12, 2) by decide +kernel) (by decide) ?_
  have hlow : s.heap.size + 0 ≤ H.size := hS.1
  refine W_size hlow (fun hz => ?_)
  refine vn_newa (atype := .int) (a0 := (12, .inl (fun _ => 0))) (cA := w.2.1.1) (N' := 12) (ty := .int) hx hb (hts _ wz77) rfl hP hD hS hA (hK.2 0 _ rfl).2 rfl (by decide) (by decide) (by decide) (Nat.le_of_ble_eq_true rfl) (Nat.le_of_ble_eq_true rfl) (show decode cX2_init 12 = .ok (.newarray .int, 2) by decide +kernel) (z := wb w + (t + 1)) (by omega) (fun H hP hD hS hz1 => ?_)
  have hP : va_P (wD w) vwCl ([(wb w + t, .inr (2, [.int (0), .null, .null, .null])), (wb w + (t + 1), .inl (w.2.1.1, 12, .inl (fun _ => 0)))]) H := hP
  have hD : va_D A ([(wb w + t, .inr (2, [.int (0), .null, .null, .null])), (wb w + (t + 1), .inl (w.2.1.1, 12, .inl (fun _ => 0)))]) := hD
  clear hlow hz hz1
  refine W.widen (k := 1) (n := 12) (by omega) (by omega) ?_
  refine va_putF (D := wD w) (ci := 2) (v := .ref (wb w + (t + 1))) (ty := .array .int) (C := RX2) (T := TX2) (N := 4) hx hb hts inX2g tyX2 tyX2_ok nmX2 hown hK hP hD hS 0 rfl rfl 1 (by decide) (hts _ wz239) (fun _ h9 => h9) rfl hin rfl (by decide +kernel) rfl rfl (Nat.le_of_ble_eq_true rfl) (show decode cX2_init 14 = .ok (.putfield 15, 3) by decide +kernel) (fun H locs hP hD hS => ?_)
  have hP : va_P (wD w) vwCl ([(wb w + t, .inr (2, [.int (0), .ref (wb w + (t + 1)), .null, .null])), (wb w + (t + 1), .inl (w.2.1.1, 12, .inl (fun _ => 0)))]) H := hP
  have hD : va_D A ([(wb w + t, .inr (2, [.int (0), .ref (wb w + (t + 1)), .null, .null])), (wb w + (t + 1), .inl (w.2.1.1, 12, .inl (fun _ => 0)))]) := hD
  refine lv_aload_n hx hb (show decode cX2_init 17 = .ok (.aload_n 0, 1) by decide +kernel) rfl (lv_at hl 0 rfl) ?_
  refine lv_bipush (v := 12) hx hb (show decode cX2_init 18 = .ok (.bipush 12, 2) by decide +kernel) (by decide) ?_
  have hlow : s.heap.size + 1 ≤ H.size := by have := (hP 1 _ rfl).lt; dsimp only at this; omega
  refine W_size hlow (fun hz => ?_)
  refine vn_newa (atype := .int) (a0 := (12, .inl (fun _ => 0))) (cA := w.2.1.1) (N' := 12) (ty := .int) hx hb (hts _ wz77) rfl hP hD hS hA (hK.2 0 _ rfl).2 rfl (by decide) (by decide) (by decide) (Nat.le_of_ble_eq_true rfl) (Nat.le_of_ble_eq_true rfl) (show decode cX2_init 20 = .ok (.newarray .int, 2) by decide +kernel) (z := wb w + (t + 2)) (by omega) (fun H hP hD hS hz1 => ?_)
  have hP : va_P (wD w) vwCl ([(wb w + t, .inr (2, [.int (0), .ref (wb w + (t + 1)), .null, .null])), (wb w + (t + 1), .inl (w.2.1.1, 12, .inl (fun _ => 0))), (wb w + (t + 2), .inl (w.2.1.1, 12, .inl (fun _ => 0)))]) H := hP
  have hD : va_D A ([(wb w + t, .inr (2, [.int (0), .ref (wb w + (t + 1)), .null, .null])), (wb w + (t + 1), .inl (w.2.1.1, 12, .inl (fun _ => 0))), (wb w + (t + 2), .inl (w.2.1.1, 12, .inl (fun _ => 0)))]) := hD
  clear hlow hz hz1
  refine W.widen (k := 2) (n := 24) (by omega) (by omega) ?_
  refine va_putF (D := wD w) (ci := 2) (v := .ref (wb w + (t + 2))) (ty := .array .int) (C := RX2) (T := TX2) (N := 4) hx hb hts inX2g tyX2 tyX2_ok nmX2 hown hK hP hD hS 0 rfl rfl 2 (by decide) (hts _ wz240) (fun _ h9 => h9) rfl hin rfl (by decide +kernel) rfl rfl (Nat.le_of_ble_eq_true rfl) (show decode cX2_init 22 = .ok (.putfield 19, 3) by decide +kernel) (fun H locs hP hD hS => ?_)
  have hP : va_P (wD w) vwCl ([(wb w + t, .inr (2, [.int (0), .ref (wb w + (t + 1)), .ref (wb w + (t + 2)), .null])), (wb w + (t + 1), .inl (w.2.1.1, 12, .inl (fun _ => 0))), (wb w + (t + 2), .inl (w.2.1.1, 12, .inl (fun _ => 0)))]) H := hP
  have hD : va_D A ([(wb w + t, .inr (2, [.int (0), .ref (wb w + (t + 1)), .ref (wb w + (t + 2)), .null])), (wb w + (t + 1), .inl (w.2.1.1, 12, .inl (fun _ => 0))), (wb w + (t + 2), .inl (w.2.1.1, 12, .inl (fun _ => 0)))]) := hD
  refine lv_aload_n hx hb (show decode cX2_init 25 = .ok (.aload_n 0, 1) by decide +kernel) rfl (lv_at hl 0 rfl) ?_
  refine lv_sipush (v := 4096) hx hb (show decode cX2_init 26 = .ok (.sipush 4096, 3) by decide +kernel) (by decide) ?_
  have hlow : s.heap.size + 2 ≤ H.size := by have := (hP 2 _ rfl).lt; dsimp only at this; omega
  refine W_size hlow (fun hz => ?_)
  refine vn_newa (atype := .int) (a0 := (4096, .inl (fun _ => 0))) (cA := w.2.1.1) (N' := 4096) (ty := .int) hx hb (hts _ wz77) rfl hP hD hS hA (hK.2 0 _ rfl).2 rfl (by decide) (by decide) (by decide) (Nat.le_of_ble_eq_true rfl) (Nat.le_of_ble_eq_true rfl) (show decode cX2_init 29 = .ok (.newarray .int, 2) by decide +kernel) (z := wb w + (t + 3)) (by omega) (fun H hP hD hS hz1 => ?_)
  have hP : va_P (wD w) vwCl ([(wb w + t, .inr (2, [.int (0), .ref (wb w + (t + 1)), .ref (wb w + (t + 2)), .null])), (wb w + (t + 1), .inl (w.2.1.1, 12, .inl (fun _ => 0))), (wb w + (t + 2), .inl (w.2.1.1, 12, .inl (fun _ => 0))), (wb w + (t + 3), .inl (w.2.1.1, 4096, .inl (fun _ => 0)))]) H := hP
  have hD : va_D A ([(wb w + t, .inr (2, [.int (0), .ref (wb w + (t + 1)), .ref (wb w + (t + 2)), .null])), (wb w + (t + 1), .inl (w.2.1.1, 12, .inl (fun _ => 0))), (wb w + (t + 2), .inl (w.2.1.1, 12, .inl (fun _ => 0))), (wb w + (t + 3), .inl (w.2.1.1, 4096, .inl (fun _ => 0)))]) := hD
  clear hlow hz hz1
  refine W.widen (k := 3) (n := 4120) (by omega) (by omega) ?_
  refine va_putF (D := wD w) (ci := 2) (v := .ref (wb w + (t + 3))) (ty := .array .int) (C := RX2) (T := TX2) (N := 4) hx hb hts inX2g tyX2 tyX2_ok nmX2 hown hK hP hD hS 0 rfl rfl 3 (by decide) (hts _ wz241) (fun _ h9 => h9) rfl hin rfl (by decide +kernel) rfl rfl (Nat.le_of_ble_eq_true rfl) (show decode cX2_init 31 = .ok (.putfield 22, 3) by decide +kernel) (fun H locs hP hD hS => ?_)
  have hP : va_P (wD w) vwCl ([(wb w + t, .inr (2, [.int (0), .ref (wb w + (t + 1)), .ref (wb w + (t + 2)), .ref (wb w + (t + 3))])), (wb w + (t + 1), .inl (w.2.1.1, 12, .inl (fun _ => 0))), (wb w + (t + 2), .inl (w.2.1.1, 12, .inl (fun _ => 0))), (wb w + (t + 3), .inl (w.2.1.1, 4096, .inl (fun _ => 0)))]) H := hP
  have hD : va_D A ([(wb w + t, .inr (2, [.int (0), .ref (wb w + (t + 1)), .ref (wb w + (t + 2)), .ref (wb w + (t + 3))])), (wb w + (t + 1), .inl (w.2.1.1, 12, .inl (fun _ => 0))), (wb w + (t + 2), .inl (w.2.1.1, 12, .inl (fun _ => 0))), (wb w + (t + 3), .inl (w.2.1.1, 4096, .inl (fun _ => 0)))]) := hD
  have hF : va_P (wD w) vwCl (blk w t 4) H := by rw [blk_X2 w ht]; exact hP
  refine W.widen (k := 3) (n := 4120) (Nat.le_of_ble_eq_true rfl) (Nat.le_of_ble_eq_true rfl) ?_
  exact W.vret hx hb hr (fun u hu hW => ⟨rfl, by rw [hu]; exact hF, by rw [hAe]; exact hS.F hu⟩) (fun q hq => hS.2.2 q hq) (show decode cX2_init 34 = .ok (.return_, 1) by decide +kernel)
set_option maxHeartbeats 4000000 in
set_option maxRecDepth 100000 in
theorem ct_X3 (w : WT) (l : Launch) (t : Nat) (ht : t = 1) : Met l yX3_init (wsJ yX3_init cX3_init 1 none) (rmI 3 14 1957) (PcI w t 3 [.null, .int 0, .int 0, .int 0, .null, .null, .null, .int 0, .int 0, .int 0, .null]) (QcI w t 15) 14 1957 (fun q => wb w + t ≤ q) := by
  refine Met.ofW (cc := cX3_init) (maxL := 1) (ret := none) (by decide +kernel) rfl ?_
  intro p e s m args below meth c s₁ B hml hv
  obtain ⟨rfl, hsz, hP, hK, hNW, hStr⟩ := hv
  have hx := B.exec
  have hb := B.bytes
  have hr := B.returns
  have hlocks : meth.locks = false := B.notSynchronized
  have hown : s.vm.findClass RX3 = some m.cls := findClass_of_methodNamed B.named
  have hin : meth.name = "<init>" := (name_of_methodNamed B.named B.method).1
  have hts0 := atoms_spec (ws := wsJ yX3_init cX3_init 1 none) B.pre
  have hts : ∀ x ∈ lw_good, x.before ([.ref (wb w + t)] : List Value).toArray s = true := fun x hx => hts0 x (List.mem_cons_of_mem _ hx)
  generalize hAe : (fun q : Nat => wb w + t ≤ q) = A at hStr ⊢
  have hA : ∀ q : Nat, s.heap.size ≤ q → A q := fun q h => by rw [← hAe]; dsimp only; omega
  have hA0 : A (wb w + t) := by rw [← hAe]; exact Nat.le_refl _
  have hS : va_S A s.heap s.heap [] := va_S.rf
  have hD : va_D A ([(wb w + t, .inr (3, [.null, .int 0, .int 0, .int 0, .null, .null, .null, .int 0, .int 0, .int 0, .null]))]) := ⟨fun i j p q hi hj _ => by
    have h1 := (List.getElem?_eq_some_iff.mp hi).1
    have h2 := (List.getElem?_eq_some_iff.mp hj).1
    simp only [List.length_cons, List.length_nil] at h1 h2
    omega, fun k q hk => by
    have h1 := (List.getElem?_eq_some_iff.mp hk).1
    simp only [List.length_cons, List.length_nil] at h1
    rw [show k = 0 by omega] at hk
    cases hk
    exact hA0⟩
  have hl := lv_entry ([.ref (wb w + t)]) (n := 1) (Nat.le_of_ble_eq_true rfl)
  rw [lg_entry_eq]
  generalize (lg_sl ([.ref (wb w + t)]) ++ List.replicate (1 - (lg_sl ([.ref (wb w + t)])).length) Slot.unset).toArray = ls at hl ⊢
  have hl : lv_has ls 1 [(0, .ref (wb w + t))] := hl
  generalize hH0 : s.heap = H at hP ⊢
  have hS : va_S A s.heap H [] := by
    have h9 := hS
    rw [hH0] at h9 ⊢
    exact h9
  refine lv_aload_n hx hb (show decode cX3_init 0 = .ok (.aload_n 0, 1) by decide +kernel) rfl (lv_at hl 0 rfl) ?_
  refine W.objInit hx hb hown (hts _ wz31) (hts _ wz24) (hts _ wz25) rfl (by rw [hml]; exact hl.1) rfl (show decode cX3_init 1 = .ok (.invokespecial 3, 3) by decide +kernel) (Nat.le_of_ble_eq_true rfl) (Nat.le_of_ble_eq_true rfl) ?_
  refine W.eq (g2 := F0 m 4 ls []) rfl ?_
  refine lv_aload_n hx hb (show decode cX3_init 4 = .ok (.aload_n 0, 1) by decide +kernel) rfl (lv_at hl 0 rfl) ?_
  refine lv_sipush (v := 300) hx hb (show decode cX3_init 5 = .ok (.sipush 300, 3) by decide +kernel) (by decide) ?_
  have hlow : s.heap.size + 0 ≤ H.size := hS.1
  refine W_size hlow (fun hz => ?_)
  refine vn_newa (atype := .int) (a0 := (300, .inl (fun _ => 0))) (cA := w.2.1.1) (N' := 300) (ty := .int) hx hb (hts _ wz77) rfl hP hD hS hA (hK.2 0 _ rfl).2 rfl (by decide) (by decide) (by decide) (Nat.le_of_ble_eq_true rfl) (Nat.le_of_ble_eq_true rfl) (show decode cX3_init 8 = .ok (.newarray .int, 2) by decide +kernel) (z := wb w + (t + 1)) (by omega) (fun H hP hD hS hz1 => ?_)
  have hP : va_P (wD w) vwCl ([(wb w + t, .inr (3, [.null, .int 0, .int 0, .int 0, .null, .null, .null, .int 0, .int 0, .int 0, .null])), (wb w + (t + 1), .inl (w.2.1.1, 300, .inl (fun _ => 0)))]) H := hP
  have hD : va_D A ([(wb w + t, .inr (3, [.null, .int 0, .int 0, .int 0, .null, .null, .null, .int 0, .int 0, .int 0, .null])), (wb w + (t + 1), .inl (w.2.1.1, 300, .inl (fun _ => 0)))]) := hD
  clear hlow hz hz1
  refine W.widen (k := 1) (n := 300) (by omega) (by omega) ?_
  refine va_putF (D := wD w) (ci := 3) (v := .ref (wb w + (t + 1))) (ty := .array .int) (C := RX3) (T := TX3) (N := 11) hx hb hts inX3g tyX3 tyX3_ok nmX3 hown hK hP hD hS 0 rfl rfl 0 (by decide) (hts _ wz78) (fun _ h9 => h9) rfl hin rfl (by decide +kernel) rfl rfl (Nat.le_of_ble_eq_true rfl) (show decode cX3_init 10 = .ok (.putfield 9, 3) by decide +kernel) (fun H locs hP hD hS => ?_)
  have hP : va_P (wD w) vwCl ([(wb w + t, .inr (3, [.ref (wb w + (t + 1)), .int 0, .int 0, .int 0, .null, .null, .null, .int 0, .int 0, .int 0, .null])), (wb w + (t + 1), .inl (w.2.1.1, 300, .inl (fun _ => 0)))]) H := hP
  have hD : va_D A ([(wb w + t, .inr (3, [.ref (wb w + (t + 1)), .int 0, .int 0, .int 0, .null, .null, .null, .int 0, .int 0, .int 0, .null])), (wb w + (t + 1), .inl (w.2.1.1, 300, .inl (fun _ => 0)))]) := hD
  refine lv_aload_n hx hb (show decode cX3_init 13 = .ok (.aload_n 0, 1) by decide +kernel) rfl (lv_at hl 0 rfl) ?_
  refine lv_iconst (v := 0) hx hb (show decode cX3_init 14 = .ok (.iconst 0, 1) by decide +kernel) (by decide) ?_
  refine va_put (D := wD w) (ci := 3) (v := .int (0)) (ty := .int) (C := RX3) (T := TX3) (N := 11) hx hb hts inX3g tyX3 tyX3_ok nmX3 hown hK hP hD hS 0 rfl rfl 1 (by decide) (hts _ wz79) (fun _ h9 => h9) rfl (by decide +kernel) rfl rfl (Nat.le_of_ble_eq_true rfl) (show decode cX3_init 15 = .ok (.putfield 15, 3) by decide +kernel) (fun H locs hP hD hS => ?_)
  have hP : va_P (wD w) vwCl ([(wb w + t, .inr (3, [.ref (wb w + (t + 1)), .int (0), .int 0, .int 0, .null, .null, .null, .int 0, .int 0, .int 0, .null])), (wb w + (t + 1), .inl (w.2.1.1, 300, .inl (fun _ => 0)))]) H := hP
  have hD : va_D A ([(wb w + t, .inr (3, [.ref (wb w + (t + 1)), .int (0), .int 0, .int 0, .null, .null, .null, .int 0, .int 0, .int 0, .null])), (wb w + (t + 1), .inl (w.2.1.1, 300, .inl (fun _ => 0)))]) := hD
  refine lv_aload_n hx hb (show decode cX3_init 18 = .ok (.aload_n 0, 1) by decide +kernel) rfl (lv_at hl 0 rfl) ?_
  refine lv_iconst (v := -1) hx hb (show decode cX3_init 19 = .ok (.iconst (-1), 1) by decide +kernel) (by decide) ?_
  refine va_put (D := wD w) (ci := 3) (v := .int (-1)) (ty := .int) (C := RX3) (T := TX3) (N := 11) hx hb hts inX3g tyX3 tyX3_ok nmX3 hown hK hP hD hS 0 rfl rfl 2 (by decide) (hts _ wz81) (fun _ h9 => h9) rfl (by decide +kernel) rfl rfl (Nat.le_of_ble_eq_true rfl) (show decode cX3_init 20 = .ok (.putfield 19, 3) by decide +kernel) (fun H locs hP hD hS => ?_)
  have hP : va_P (wD w) vwCl ([(wb w + t, .inr (3, [.ref (wb w + (t + 1)), .int (0), .int (-1), .int 0, .null, .null, .null, .int 0, .int 0, .int 0, .null])), (wb w + (t + 1), .inl (w.2.1.1, 300, .inl (fun _ => 0)))]) H := hP
  have hD : va_D A ([(wb w + t, .inr (3, [.ref (wb w + (t + 1)), .int (0), .int (-1), .int 0, .null, .null, .null, .int 0, .int 0, .int 0, .null])), (wb w + (t + 1), .inl (w.2.1.1, 300, .inl (fun _ => 0)))]) := hD
  refine lv_aload_n hx hb (show decode cX3_init 23 = .ok (.aload_n 0, 1) by decide +kernel) rfl (lv_at hl 0 rfl) ?_
  refine lv_iconst (v := -1) hx hb (show decode cX3_init 24 = .ok (.iconst (-1), 1) by decide +kernel) (by decide) ?_
  refine va_put (D := wD w) (ci := 3) (v := .int (-1)) (ty := .int) (C := RX3) (T := TX3) (N := 11) hx hb hts inX3g tyX3 tyX3_ok nmX3 hown hK hP hD hS 0 rfl rfl 3 (by decide) (hts _ wz83) (fun _ h9 => h9) rfl (by decide +kernel) rfl rfl (Nat.le_of_ble_eq_true rfl) (show decode cX3_init 25 = .ok (.putfield 22, 3) by decide +kernel) (fun H locs hP hD hS => ?_)
  have hP : va_P (wD w) vwCl ([(wb w + t, .inr (3, [.ref (wb w + (t + 1)), .int (0), .int (-1), .int (-1), .null, .null, .null, .int 0, .int 0, .int 0, .null])), (wb w + (t + 1), .inl (w.2.1.1, 300, .inl (fun _ => 0)))]) H := hP
  have hD : va_D A ([(wb w + t, .inr (3, [.ref (wb w + (t + 1)), .int (0), .int (-1), .int (-1), .null, .null, .null, .int 0, .int 0, .int 0, .null])), (wb w + (t + 1), .inl (w.2.1.1, 300, .inl (fun _ => 0)))]) := hD
  refine lv_aload_n hx hb (show decode cX3_init 28 = .ok (.aload_n 0, 1) by decide +kernel) rfl (lv_at hl 0 rfl) ?_
  refine lv_sipush (v := 300) hx hb (show decode cX3_init 29 = .ok (.sipush 300, 3) by decide +kernel) (by decide) ?_
  have hlow : s.heap.size + 1 ≤ H.size := by have := (hP 1 _ rfl).lt; dsimp only at this; omega
  refine W_size hlow (fun hz => ?_)
  refine vn_newa (atype := .int) (a0 := (300, .inl (fun _ => 0))) (cA := w.2.1.1) (N' := 300) (ty := .int) hx hb (hts _ wz77) rfl hP hD hS hA (hK.2 0 _ rfl).2 rfl (by decide) (by decide) (by decide) (Nat.le_of_ble_eq_true rfl) (Nat.le_of_ble_eq_true rfl) (show decode cX3_init 32 = .ok (.newarray .int, 2) by decide +kernel) (z := wb w + (t + 2)) (by omega) (fun H hP hD hS hz1 => ?_)
  have hP : va_P (wD w) vwCl ([(wb w + t, .inr (3, [.ref (wb w + (t + 1)), .int (0), .int (-1), .int (-1), .null, .null, .null, .int 0, .int 0, .int 0, .null])), (wb w + (t + 1), .inl (w.2.1.1, 300, .inl (fun _ => 0))), (wb w + (t + 2), .inl (w.2.1.1, 300, .inl (fun _ => 0)))]) H := hP
  have hD : va_D A ([(wb w + t, .inr (3, [.ref (wb w + (t + 1)), .int (0), .int (-1), .int (-1), .null, .null, .null, .int 0, .int 0, .int 0, .null])), (wb w + (t + 1), .inl (w.2.1.1, 300, .inl (fun _ => 0))), (wb w + (t + 2), .inl (w.2.1.1, 300, .inl (fun _ => 0)))]) := hD
  clear hlow hz hz1
  refine W.widen (k := 2) (n := 600) (by omega) (by omega) ?_
  refine va_putF (D := wD w) (ci := 3) (v := .ref (wb w + (t + 2))) (ty := .array .int) (C := RX3) (T := TX3) (N := 11) hx hb hts inX3g tyX3 tyX3_ok nmX3 hown hK hP hD hS 0 rfl rfl 4 (by decide) (hts _ wz85) (fun _ h9 => h9) rfl hin rfl (by decide +kernel) rfl rfl (Nat.le_of_ble_eq_true rfl) (show decode cX3_init 34 = .ok (.putfield 25, 3) by decide +kernel) (fun H locs hP hD hS => ?_)
  have hP : va_P (wD w) vwCl ([(wb w + t, .inr (3, [.ref (wb w + (t + 1)), .int (0), .int (-1), .int (-1), .ref (wb w + (t + 2)), .null, .null, .int 0, .int 0, .int 0, .null])), (wb w + (t + 1), .inl (w.2.1.1, 300, .inl (fun _ => 0))), (wb w + (t + 2), .inl (w.2.1.1, 300, .inl (fun _ => 0)))]) H := hP
  have hD : va_D A ([(wb w + t, .inr (3, [.ref (wb w + (t + 1)), .int (0), .int (-1), .int (-1), .ref (wb w + (t + 2)), .null, .null, .int 0, .int 0, .int 0, .null])), (wb w + (t + 1), .inl (w.2.1.1, 300, .inl (fun _ => 0))), (wb w + (t + 2), .inl (w.2.1.1, 300, .inl (fun _ => 0)))]) := hD
  refine lv_aload_n hx hb (show decode cX3_init 37 = .ok (.aload_n 0, 1) by decide +kernel) rfl (lv_at hl 0 rfl) ?_
  refine lv_sipush (v := 300) hx hb (show decode cX3_init 38 = .ok (.sipush 300, 3) by decide +kernel) (by decide) ?_
  have hlow : s.heap.size + 2 ≤ H.size := by have := (hP 2 _ rfl).lt; dsimp only at this; omega
  refine W_size hlow (fun hz => ?_)
  refine vn_newa (atype := .int) (a0 := (300, .inl (fun _ => 0))) (cA := w.2.1.1) (N' := 300) (ty := .int) hx hb (hts _ wz77) rfl hP hD hS hA (hK.2 0 _ rfl).2 rfl (by decide) (by decide) (by decide) (Nat.le_of_ble_eq_true rfl) (Nat.le_of_ble_eq_true rfl) (show decode cX3_init 41 = .ok (.newarray .int, 2) by decide +kernel) (z := wb w + (t + 3)) (by omega) (fun H hP hD hS hz1 => ?_)
  have hP : va_P (wD w) vwCl ([(wb w + t, .inr (3, [.ref (wb w + (t + 1)), .int (0), .int (-1), .int (-1), .ref (wb w + (t + 2)), .null, .null, .int 0, .int 0, .int 0, .null])), (wb w + (t + 1), .inl (w.2.1.1, 300, .inl (fun _ => 0))), (wb w + (t + 2), .inl (w.2.1.1, 300, .inl (fun _ => 0))), (wb w + (t + 3), .inl (w.2.1.1, 300, .inl (fun _ => 0)))]) H := hP
  have hD : va_D A ([(wb w + t, .inr (3, [.ref (wb w + (t + 1)), .int (0), .int (-1), .int (-1), .ref (wb w + (t + 2)), .null, .null, .int 0, .int 0, .int 0, .null])), (wb w + (t + 1), .inl (w.2.1.1, 300, .inl (fun _ => 0))), (wb w + (t + 2), .inl (w.2.1.1, 300, .inl (fun _ => 0))), (wb w + (t + 3), .inl (w.2.1.1, 300, .inl (fun _ => 0)))]) := hD
  clear hlow hz hz1
  refine W.widen (k := 3) (n := 900) (by omega) (by omega) ?_
  refine va_putF (D := wD w) (ci := 3) (v := .ref (wb w + (t + 3))) (ty := .array .int) (C := RX3) (T := TX3) (N := 11) hx hb hts inX3g tyX3 tyX3_ok nmX3 hown hK hP hD hS 0 rfl rfl 5 (by decide) (hts _ wz86) (fun _ h9 => h9) rfl hin rfl (by decide +kernel) rfl rfl (Nat.le_of_ble_eq_true rfl) (show decode cX3_init 43 = .ok (.putfield 28, 3) by decide +kernel) (fun H locs hP hD hS => ?_)
  have hP : va_P (wD w) vwCl ([(wb w + t, .inr (3, [.ref (wb w + (t + 1)), .int (0), .int (-1), .int (-1), .ref (wb w + (t + 2)), .ref (wb w + (t + 3)), .null, .int 0, .int 0, .int 0, .null])), (wb w + (t + 1), .inl (w.2.1.1, 300, .inl (fun _ => 0))), (wb w + (t + 2), .inl (w.2.1.1, 300, .inl (fun _ => 0))), (wb w + (t + 3), .inl (w.2.1.1, 300, .inl (fun _ => 0)))]) H := hP
  have hD : va_D A ([(wb w + t, .inr (3, [.ref (wb w + (t + 1)), .int (0), .int (-1), .int (-1), .ref (wb w + (t + 2)), .ref (wb w + (t + 3)), .null, .int 0, .int 0, .int 0, .null])), (wb w + (t + 1), .inl (w.2.1.1, 300, .inl (fun _ => 0))), (wb w + (t + 2), .inl (w.2.1.1, 300, .inl (fun _ => 0))), (wb w + (t + 3), .inl (w.2.1.1, 300, .inl (fun _ => 0)))]) := hD
  refine lv_aload_n hx hb (show decode cX3_init 46 = .ok (.aload_n 0, 1) by decide +kernel) rfl (lv_at hl 0 rfl) ?_
  refine lv_sipush (v := 300) hx hb (show decode cX3_init 47 = .ok (.sipush 300, 3) by decide +kernel) (by decide) ?_
  have hlow : s.heap.size + 3 ≤ H.size := by have := (hP 3 _ rfl).lt; dsimp only at this; omega
  refine W_size hlow (fun hz => ?_)
  refine vn_newa (atype := .int) (a0 := (300, .inl (fun _ => 0))) (cA := w.2.1.1) (N' := 300) (ty := .int) hx hb (hts _ wz77) rfl hP hD hS hA (hK.2 0 _ rfl).2 rfl (by decide) (by decide) (by decide) (Nat.le_of_ble_eq_true rfl) (Nat.le_of_ble_eq_true rfl) (show decode cX3_init 50 = .ok (.newarray .int, 2) by decide +kernel) (z := wb w + (t + 4)) (by omega) (fun H hP hD hS hz1 => ?_)
  have hP : va_P (wD w) vwCl ([(wb w + t, .inr (3, [.ref (wb w + (t + 1)), .int (0), .int (-1), .int (-1), .ref (wb w + (t + 2)), .ref (wb w + (t + 3)), .null, .int 0, .int 0, .int 0, .null])), (wb w + (t + 1), .inl (w.2.1.1, 300, .inl (fun _ => 0))), (wb w + (t + 2), .inl (w.2.1.1, 300, .inl (fun _ => 0))), (wb w + (t + 3), .inl (w.2.1.1, 300, .inl (fun _ => 0))), (wb w + (t + 4), .inl (w.2.1.1, 300, .inl (fun _ => 0)))]) H := hP
  have hD : va_D A ([(wb w + t, .inr (3, [.ref (wb w + (t + 1)), .int (0), .int (-1), .int (-1), .ref (wb w + (t + 2)), .ref (wb w + (t + 3)), .null, .int 0, .int 0, .int 0, .null])), (wb w + (t + 1), .inl (w.2.1.1, 300, .inl (fun _ => 0))), (wb w + (t + 2), .inl (w.2.1.1, 300, .inl (fun _ => 0))), (wb w + (t + 3), .inl (w.2.1.1, 300, .inl (fun _ => 0))), (wb w + (t + 4), .inl (w.2.1.1, 300, .inl (fun _ => 0)))]) := hD
  clear hlow hz hz1
  refine W.widen (k := 4) (n := 1200) (by omega) (by omega) ?_
  refine va_putF (D := wD w) (ci := 3) (v := .ref (wb w + (t + 4))) (ty := .array .int) (C := RX3) (T := TX3) (N := 11) hx hb hts inX3g tyX3 tyX3_ok nmX3 hown hK hP hD hS 0 rfl rfl 6 (by decide) (hts _ wz87) (fun _ h9 => h9) rfl hin rfl (by decide +kernel) rfl rfl (Nat.le_of_ble_eq_true rfl) (show decode cX3_init 52 = .ok (.putfield 31, 3) by decide +kernel) (fun H locs hP hD hS => ?_)
  have hP : va_P (wD w) vwCl ([(wb w + t, .inr (3, [.ref (wb w + (t + 1)), .int (0), .int (-1), .int (-1), .ref (wb w + (t + 2)), .ref (wb w + (t + 3)), .ref (wb w + (t + 4)), .int 0, .int 0, .int 0, .null])), (wb w + (t + 1), .inl (w.2.1.1, 300, .inl (fun _ => 0))), (wb w + (t + 2), .inl (w.2.1.1, 300, .inl (fun _ => 0))), (wb w + (t + 3), .inl (w.2.1.1, 300, .inl (fun _ => 0))), (wb w + (t + 4), .inl (w.2.1.1, 300, .inl (fun _ => 0)))]) H := hP
  have hD : va_D A ([(wb w + t, .inr (3, [.ref (wb w + (t + 1)), .int (0), .int (-1), .int (-1), .ref (wb w + (t + 2)), .ref (wb w + (t + 3)), .ref (wb w + (t + 4)), .int 0, .int 0, .int 0, .null])), (wb w + (t + 1), .inl (w.2.1.1, 300, .inl (fun _ => 0))), (wb w + (t + 2), .inl (w.2.1.1, 300, .inl (fun _ => 0))), (wb w + (t + 3), .inl (w.2.1.1, 300, .inl (fun _ => 0))), (wb w + (t + 4), .inl (w.2.1.1, 300, .inl (fun _ => 0)))]) := hD
  refine lv_aload_n hx hb (show decode cX3_init 55 = .ok (.aload_n 0, 1) by decide +kernel) rfl (lv_at hl 0 rfl) ?_
  refine lv_iconst (v := 0) hx hb (show decode cX3_init 56 = .ok (.iconst 0, 1) by decide +kernel) (by decide) ?_
  refine va_put (D := wD w) (ci := 3) (v := .int (0)) (ty := .int) (C := RX3) (T := TX3) (N := 11) hx hb hts inX3g tyX3 tyX3_ok nmX3 hown hK hP hD hS 0 rfl rfl 7 (by decide) (hts _ wz88) (fun _ h9 => h9) rfl (by decide +kernel) rfl rfl (Nat.le_of_ble_eq_true rfl) (show decode cX3_init 57 = .ok (.putfield 34, 3) by decide +kernel) (fun H locs hP hD hS => ?_)
  have hP : va_P (wD w) vwCl ([(wb w + t, .inr (3, [.ref (wb w + (t + 1)), .int (0), .int (-1), .int (-1), .ref (wb w + (t + 2)), .ref (wb w + (t + 3)), .ref (wb w + (t + 4)), .int (0), .int 0, .int 0, .null])), (wb w + (t + 1), .inl (w.2.1.1, 300, .inl (fun _ => 0))), (wb w + (t + 2), .inl (w.2.1.1, 300, .inl (fun _ => 0))), (wb w + (t + 3), .inl (w.2.1.1, 300, .inl (fun _ => 0))), (wb w + (t + 4), .inl (w.2.1.1, 300, .inl (fun _ => 0)))]) H := hP
  have hD : va_D A ([(wb w + t, .inr (3, [.ref (wb w + (t + 1)), .int (0), .int (-1), .int (-1), .ref (wb w + (t + 2)), .ref (wb w + (t + 3)), .ref (wb w + (t + 4)), .int (0), .int 0, .int 0, .null])), (wb w + (t + 1), .inl (w.2.1.1, 300, .inl (fun _ => 0))), (wb w + (t + 2), .inl (w.2.1.1, 300, .inl (fun _ => 0))), (wb w + (t + 3), .inl (w.2.1.1, 300, .inl (fun _ => 0))), (wb w + (t + 4), .inl (w.2.1.1, 300, .inl (fun _ => 0)))]) := hD
  refine lv_aload_n hx hb (show decode cX3_init 60 = .ok (.aload_n 0, 1) by decide +kernel) rfl (lv_at hl 0 rfl) ?_
  refine lv_iconst (v := 0) hx hb (show decode cX3_init 61 = .ok (.iconst 0, 1) by decide +kernel) (by decide) ?_
  refine va_put (D := wD w) (ci := 3) (v := .int (0)) (ty := .int) (C := RX3) (T := TX3) (N := 11) hx hb hts inX3g tyX3 tyX3_ok nmX3 hown hK hP hD hS 0 rfl rfl 8 (by decide) (hts _ wz89) (fun _ h9 => h9) rfl (by decide +kernel) rfl rfl (Nat.le_of_ble_eq_true rfl) (show decode cX3_init 62 = .ok (.putfield 37, 3) by decide +kernel) (fun H locs hP hD hS => ?_)
  have hP : va_P (wD w) vwCl ([(wb w + t, .inr (3, [.ref (wb w + (t + 1)), .int (0), .int (-1), .int (-1), .ref (wb w + (t + 2)), .ref (wb w + (t + 3)), .ref (wb w + (t + 4)), .int (0), .int (0), .int 0, .null])), (wb w + (t + 1), .inl (w.2.1.1, 300, .inl (fun _ => 0))), (wb w + (t + 2), .inl (w.2.1.1, 300, .inl (fun _ => 0))), (wb w + (t + 3), .inl (w.2.1.1, 300, .inl (fun _ => 0))), (wb w + (t + 4), .inl (w.2.1.1, 300, .inl (fun _ => 0)))]) H := hP
  have hD : va_D A ([(wb w + t, .inr (3, [.ref (wb w + (t + 1)), .int (0), .int (-1), .int (-1), .ref (wb w + (t + 2)), .ref (wb w + (t + 3)), .ref (wb w + (t + 4)), .int (0), .int (0), .int 0, .null])), (wb w + (t + 1), .inl (w.2.1.1, 300, .inl (fun _ => 0))), (wb w + (t + 2), .inl (w.2.1.1, 300, .inl (fun _ => 0))), (wb w + (t + 3), .inl (w.2.1.1, 300, .inl (fun _ => 0))), (wb w + (t + 4), .inl (w.2.1.1, 300, .inl (fun _ => 0)))]) := hD
  refine lv_aload_n hx hb (show decode cX3_init 65 = .ok (.aload_n 0, 1) by decide +kernel) rfl (lv_at hl 0 rfl) ?_
  refine lv_iconst (v := -1) hx hb (show decode cX3_init 66 = .ok (.iconst (-1), 1) by decide +kernel) (by decide) ?_
  refine va_put (D := wD w) (ci := 3) (v := .int (-1)) (ty := .int) (C := RX3) (T := TX3) (N := 11) hx hb hts inX3g tyX3 tyX3_ok nmX3 hown hK hP hD hS 0 rfl rfl 9 (by decide) (hts _ wz90) (fun _ h9 => h9) rfl (by decide +kernel) rfl rfl (Nat.le_of_ble_eq_true rfl) (show decode cX3_init 67 = .ok (.putfield 40, 3) by decide +kernel) (fun H locs hP hD hS => ?_)
  have hP : va_P (wD w) vwCl ([(wb w + t, .inr (3, [.ref (wb w + (t + 1)), .int (0), .int (-1), .int (-1), .ref (wb w + (t + 2)), .ref (wb w + (t + 3)), .ref (wb w + (t + 4)), .int (0), .int (0), .int (-1), .null])), (wb w + (t + 1), .inl (w.2.1.1, 300, .inl (fun _ => 0))), (wb w + (t + 2), .inl (w.2.1.1, 300, .inl (fun _ => 0))), (wb w + (t + 3), .inl (w.2.1.1, 300, .inl (fun _ => 0))), (wb w + (t + 4), .inl (w.2.1.1, 300, .inl (fun _ => 0)))]) H := hP
  have hD : va_D A ([(wb w + t, .inr (3, [.ref (wb w + (t + 1)), .int (0), .int (-1), .int (-1), .ref (wb w + (t + 2)), .ref (wb w + (t + 3)), .ref (wb w + (t + 4)), .int (0), .int (0), .int (-1), .null])), (wb w + (t + 1), .inl (w.2.1.1, 300, .inl (fun _ => 0))), (wb w + (t + 2), .inl (w.2.1.1, 300, .inl (fun _ => 0))), (wb w + (t + 3), .inl (w.2.1.1, 300, .inl (fun _ => 0))), (wb w + (t + 4), .inl (w.2.1.1, 300, .inl (fun _ => 0)))]) := hD
  refine lv_aload_n hx hb (show decode cX3_init 70 = .ok (.aload_n 0, 1) by decide +kernel) rfl (lv_at hl 0 rfl) ?_
  have hlow : s.heap.size + 4 ≤ H.size := by have := (hP 4 _ rfl).lt; dsimp only at this; omega
  refine W_size hlow (fun hz => ?_)
  refine vn_make (t := t + 5) (n := 10) (mc := 9) (ms := 746) (ci := 5) (N := 11) (fs := [.int 0, .null, .null, .null, .null, .null, .int 0, .null, .null, .null, .null]) (C := RX5) (T := TX5) (y := yX5_init) (host := "MeshedPages") (dd := 1) (own := RX3) hx hb hml hl.1 hown hts hK hNW hStr hP hD hS hA (by omega) (show decode cX3_init 71 = .ok (.new 43, 3) by decide +kernel) (show decode cX3_init 74 = .ok (.dup, 1) by decide +kernel) (show decode cX3_init 75 = .ok (.invokespecial 45, 3) by decide +kernel) rfl inX5g tyX5 tyX5_ok (by decide) wz32 wz33 wz3 (ct_X5 w l (t + 5) (show isTX (t + 5) = true by rw [ht]; decide)) (by decide +kernel) (Or.inr hNW.2.1) wz35 wz36 (Nat.le_of_ble_eq_true rfl) (Nat.le_of_ble_eq_true rfl) (Nat.le_of_ble_eq_true rfl) (Nat.le_of_ble_eq_true rfl) (Nat.le_of_ble_eq_true rfl) (fun H locs hP hD hS => ?_)
  have hP : va_P (wD w) vwCl ([(wb w + t, .inr (3, [.ref (wb w + (t + 1)), .int (0), .int (-1), .int (-1), .ref (wb w + (t + 2)), .ref (wb w + (t + 3)), .ref (wb w + (t + 4)), .int (0), .int (0), .int (-1), .null])), (wb w + (t + 1), .inl (w.2.1.1, 300, .inl (fun _ => 0))), (wb w + (t + 2), .inl (w.2.1.1, 300, .inl (fun _ => 0))), (wb w + (t + 3), .inl (w.2.1.1, 300, .inl (fun _ => 0))), (wb w + (t + 4), .inl (w.2.1.1, 300, .inl (fun _ => 0)))] ++ blk w (t + 5) 10) H := hP
  have hD : va_D A ([(wb w + t, .inr (3, [.ref (wb w + (t + 1)), .int (0), .int (-1), .int (-1), .ref (wb w + (t + 2)), .ref (wb w + (t + 3)), .ref (wb w + (t + 4)), .int (0), .int (0), .int (-1), .null])), (wb w + (t + 1), .inl (w.2.1.1, 300, .inl (fun _ => 0))), (wb w + (t + 2), .inl (w.2.1.1, 300, .inl (fun _ => 0))), (wb w + (t + 3), .inl (w.2.1.1, 300, .inl (fun _ => 0))), (wb w + (t + 4), .inl (w.2.1.1, 300, .inl (fun _ => 0)))] ++ blk w (t + 5) 10) := hD
  clear hlow hz
  refine W.widen (k := 14) (n := 1957) (by omega) (by omega) ?_
  refine va_put (D := wD w) (ci := 3) (v := .ref (wb w + (t + 5))) (ty := .object "MeshedPages$Text") (C := RX3) (T := TX3) (N := 11) hx hb hts inX3g tyX3 tyX3_ok nmX3 hown hK hP hD hS 0 rfl rfl 10 (by decide) (hts _ wz91) (fun _ h9 => h9) rfl (by decide +kernel) rfl rfl (Nat.le_of_ble_eq_true rfl) (show decode cX3_init 78 = .ok (.putfield 46, 3) by decide +kernel) (fun H locs hP hD hS => ?_)
  have hP : va_P (wD w) vwCl ([(wb w + t, .inr (3, [.ref (wb w + (t + 1)), .int (0), .int (-1), .int (-1), .ref (wb w + (t + 2)), .ref (wb w + (t + 3)), .ref (wb w + (t + 4)), .int (0), .int (0), .int (-1), .ref (wb w + (t + 5))])), (wb w + (t + 1), .inl (w.2.1.1, 300, .inl (fun _ => 0))), (wb w + (t + 2), .inl (w.2.1.1, 300, .inl (fun _ => 0))), (wb w + (t + 3), .inl (w.2.1.1, 300, .inl (fun _ => 0))), (wb w + (t + 4), .inl (w.2.1.1, 300, .inl (fun _ => 0)))] ++ blk w (t + 5) 10) H := hP
  have hD : va_D A ([(wb w + t, .inr (3, [.ref (wb w + (t + 1)), .int (0), .int (-1), .int (-1), .ref (wb w + (t + 2)), .ref (wb w + (t + 3)), .ref (wb w + (t + 4)), .int (0), .int (0), .int (-1), .ref (wb w + (t + 5))])), (wb w + (t + 1), .inl (w.2.1.1, 300, .inl (fun _ => 0))), (wb w + (t + 2), .inl (w.2.1.1, 300, .inl (fun _ => 0))), (wb w + (t + 3), .inl (w.2.1.1, 300, .inl (fun _ => 0))), (wb w + (t + 4), .inl (w.2.1.1, 300, .inl (fun _ => 0)))] ++ blk w (t + 5) 10) := hD
  have hF : va_P (wD w) vwCl (blk w t 15) H := by rw [blk_X3 w ht]; exact hP
  refine W.widen (k := 14) (n := 1957) (Nat.le_of_ble_eq_true rfl) (Nat.le_of_ble_eq_true rfl) ?_
  exact W.vret hx hb hr (fun u hu hW => ⟨rfl, by rw [hu]; exact hF, by rw [hAe]; exact hS.F hu⟩) (fun q hq => hS.2.2 q hq) (show decode cX3_init 81 = .ok (.return_, 1) by decide +kernel)
