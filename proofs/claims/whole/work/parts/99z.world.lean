/-! the world at the start -/
theorem tb_1 {x : Cond} {i : Nat} (h : tables_1_1[i]? = some x) : x ∈ lw_tbl := List.mem_append_right _ (show x ∈ tables_1_1 ++ (tables_1_2 ++ (tables_1_3 ++ (tables_1_4 ++ (tables_1_5 ++ (tables_1_6 ++ (tables_1_7 ++ (tables_1_8))))))) from List.mem_append_left _ (List.mem_of_getElem? h))
theorem tb_2 {x : Cond} {i : Nat} (h : tables_1_2[i]? = some x) : x ∈ lw_tbl := List.mem_append_right _ (show x ∈ tables_1_1 ++ (tables_1_2 ++ (tables_1_3 ++ (tables_1_4 ++ (tables_1_5 ++ (tables_1_6 ++ (tables_1_7 ++ (tables_1_8))))))) from List.mem_append_right _ (List.mem_append_left _ (List.mem_of_getElem? h)))
theorem tb_3 {x : Cond} {i : Nat} (h : tables_1_3[i]? = some x) : x ∈ lw_tbl := List.mem_append_right _ (show x ∈ tables_1_1 ++ (tables_1_2 ++ (tables_1_3 ++ (tables_1_4 ++ (tables_1_5 ++ (tables_1_6 ++ (tables_1_7 ++ (tables_1_8))))))) from List.mem_append_right _ (List.mem_append_right _ (List.mem_append_left _ (List.mem_of_getElem? h))))
theorem tb_5 {x : Cond} {i : Nat} (h : tables_1_5[i]? = some x) : x ∈ lw_tbl := List.mem_append_right _ (show x ∈ tables_1_1 ++ (tables_1_2 ++ (tables_1_3 ++ (tables_1_4 ++ (tables_1_5 ++ (tables_1_6 ++ (tables_1_7 ++ (tables_1_8))))))) from List.mem_append_right _ (List.mem_append_right _ (List.mem_append_right _ (List.mem_append_right _ (List.mem_append_left _ (List.mem_of_getElem? h))))))
theorem ar_obj {args : Array Value} {s : State} {n : String} (h : (Cond.arrayOver (.object n)).before args s = true) : ∃ cA, ArrOfT s cA (.object n) ∧ va_RA s cA (.object n) := by
  obtain ⟨comp, c, k, h1, -, h2, h3, h4⟩ := Cond.arrayOver_spec h
  exact ⟨c, fun N z => ⟨(fun k h => by cases h), k, h2, comp, h3⟩, k, comp, h2, h3, h1, h4⟩
theorem ar_prim {args : Array Value} {s : State} {ty : FieldType} (h : (Cond.arrayClass ty).before args s = true) : ∃ cA, ArrOfT s cA ty ∧ s.vm.findClass ("[" ++ ty.toString) = some cA := by
  obtain ⟨c, k, comp, h1, h2, h3⟩ := Cond.arrayClass_spec h
  exact ⟨c, fun N z => ⟨(fun k h => by cases h), k, h2, comp, h3⟩, h1⟩
theorem world_K {args : Array Value} {s : State} (hts : ∀ w ∈ lw_tbl, w.before args s = true) : ∃ (D : va_G) (cI cZ cJ cT cP : ClassId), va_K D vwCl [(cI, .int), (cZ, .boolean), (cJ, .long), (cT, .object "MeshedPages$Text"), (cP, .object "MeshedPages$Pages")] s := by
  have hg : ∀ w ∈ lw_good, w.before args s = true := fun w hw => hts w (List.mem_filter.mp hw).1

  obtain ⟨c0, i0, k0⟩ := u_known (C := RX0) (T := TX0) (N := 6) (n := 6) hg inX0g (hts _ (tb_2 (i := 12) (by decide +kernel)))
  obtain ⟨c1, i1, k1⟩ := u_known (C := RX1) (T := TX1) (N := 13) (n := 13) hg inX1g (hts _ (tb_1 (i := 125) (by decide +kernel)))
  obtain ⟨c2, i2, k2⟩ := u_known (C := RX2) (T := TX2) (N := 4) (n := 4) hg inX2g (hts _ (tb_1 (i := 233) (by decide +kernel)))
  obtain ⟨c3, i3, k3⟩ := u_known (C := RX3) (T := TX3) (N := 11) (n := 11) hg inX3g (hts _ (tb_1 (i := 27) (by decide +kernel)))
  obtain ⟨c4, i4, k4⟩ := u_known (C := RX4) (T := TX4) (N := 3) (n := 3) hg inX4g (hts _ (tb_1 (i := 186) (by decide +kernel)))
  obtain ⟨c5, i5, k5⟩ := u_known (C := RX5) (T := TX5) (N := 11) (n := 11) hg inX5g (hts _ (tb_1 (i := 33) (by decide +kernel)))
  obtain ⟨c6, i6, k6⟩ := u_known (C := RX6) (T := TX6) (N := 6) (n := 6) hg inX6g (hts _ (tb_1 (i := 119) (by decide +kernel)))
  obtain ⟨c7, i7, k7⟩ := u_known (C := RX7) (T := TX7) (N := 8) (n := 8) hg inX7g (hts _ (tb_1 (i := 19) (by decide +kernel)))
  obtain ⟨c8, i8, k8⟩ := u_known (C := RX8) (T := TX8) (N := 32) (n := 32) hg inX8g (hts _ (tb_5 (i := 77) (by decide +kernel)))
  obtain ⟨cI, aI, rI⟩ := ar_prim (ty := .int) (hts _ (tb_1 (i := 77) (by decide +kernel)))
  obtain ⟨cZ, aZ, rZ⟩ := ar_prim (ty := .boolean) (hts _ (tb_5 (i := 183) (by decide +kernel)))
  obtain ⟨cJ, aJ, rJ⟩ := ar_prim (ty := .long) (hts _ (tb_5 (i := 182) (by decide +kernel)))
  obtain ⟨cT, aT, rT⟩ := ar_obj (n := "MeshedPages$Text") (hts _ (tb_1 (i := 116) (by decide +kernel)))
  obtain ⟨cP, aP, rP⟩ := ar_obj (n := "MeshedPages$Pages") (hts _ (tb_1 (i := 192) (by decide +kernel)))
  refine ⟨(fun c => match c with | 0 => c0 | 1 => c1 | 2 => c2 | 3 => c3 | 4 => c4 | 5 => c5 | 6 => c6 | 7 => c7 | 8 => c8 | _ => c0, fun c => match c with | 0 => i0 | 1 => i1 | 2 => i2 | 3 => i3 | 4 => i4 | 5 => i5 | 6 => i6 | 7 => i7 | 8 => i8 | _ => i0), cI, cZ, cJ, cT, cP, fun c q hq => ?_, fun k q hq => ?_⟩
  · match c, hq with
    | 0, hq => cases hq; exact k0
    | 1, hq => cases hq; exact k1
    | 2, hq => cases hq; exact k2
    | 3, hq => cases hq; exact k3
    | 4, hq => cases hq; exact k4
    | 5, hq => cases hq; exact k5
    | 6, hq => cases hq; exact k6
    | 7, hq => cases hq; exact k7
    | 8, hq => cases hq; exact k8
    | n + 9, hq => cases hq
  · match k, hq with
    | 0, hq => cases hq; exact ⟨aI, rI⟩
    | 1, hq => cases hq; exact ⟨aZ, rZ⟩
    | 2, hq => cases hq; exact ⟨aJ, rJ⟩
    | 3, hq => cases hq; exact ⟨aT, rT⟩
    | 4, hq => cases hq; exact ⟨aP, rP⟩
    | n + 5, hq => cases hq
theorem world_N {args : Array Value} {s : State} (hts : ∀ w ∈ lw_tbl, w.before args s = true) : NWs s := ⟨va_Nw.of rfl (hts _ (tb_1 (i := 28) (by decide +kernel))), va_Nw.of rfl (hts _ (tb_1 (i := 34) (by decide +kernel))), va_Nw.of rfl (hts _ (tb_1 (i := 117) (by decide +kernel))), va_Nw.of rfl (hts _ (tb_1 (i := 120) (by decide +kernel))), va_Nw.of rfl (hts _ (tb_1 (i := 234) (by decide +kernel))), va_Nw.of rfl (hts _ (tb_2 (i := 13) (by decide +kernel)))⟩
theorem world_S {args : Array Value} {s : State} {A : Nat → Prop} (hts : ∀ w ∈ lw_tbl, w.before args s = true) (hgv : (Jvm.Cond.and given_1 narrow_1).before args s = true) (hA : ∀ a : Nat, a < s.heap.size → ¬ A a) : ∃ wK wV : Nat → Nat, vk_S 1 [129] [wTxl] wK wV A s s.heap ∧ vk_R "MeshedPages$Reader" 99 "meshes probes give free write mesh compact day at with live place if then else end or and not time pages frames one other sparse " (wK 0) s ∧ va_Nw (.methodLinkNest "MeshedPages$Pages" 122 yX7_isPage "MeshedPages") s ∧ va_Z "java/lang/String" "COMPACT_STRINGS" "Z" (.int 1) A s s.heap ∧ va_Zq "jdk/internal/util/Preconditions" "SIOOBE_FORMATTER" "Ljava/util/function/BiFunction;" A s s.heap := by
  have hs := flat_of_before _ hgv
  obtain ⟨wK, wV, h1, h2⟩ := vk_Sof (args := args) (s := s) (N := 1) (tm := fun _ => Term.string "MeshedPages$Reader" 99) (len := [129]) (byt := [wTxl]) (A := A) (fun i hi => by rw [show i = 0 by omega]; decide) (fun i hi => hs _ (by decide +kernel)) (fun i hi => hs _ (by decide +kernel)) (fun i hi => hs _ (by decide +kernel)) (fun i hi => by rw [show i = 0 by omega]; exact hs _ (by decide +kernel)) (fun i hi j hj => by
    rw [show i = 0 by omega] at hj ⊢
    have hj : j < 129 := hj
    have key : ∀ j : Fin 129, (Cond.eq (.elem (.field (Term.string "MeshedPages$Reader" 99) "java/lang/String" "value" "[B") (.int (Int32.ofNat j.1))) (.int (([wTxl].getD 0 []).getD j.1 0))) ∈ flatC (Jvm.Cond.and given_1 narrow_1) := by decide +kernel
    exact hs _ (key ⟨j, hj⟩)) (fun i j hi hj hne => absurd (show i = j by omega) hne) hA
  refine ⟨wK, wV, h1, vk_R.of (hts _ (tb_2 (i := 105) (by decide +kernel))) (h2 0 (by decide)), va_Nw.of rfl (hts _ (tb_3 (i := 158) (by decide +kernel))), va_Zof (hts _ (tb_2 (i := 115) (by decide +kernel))) (hts _ (tb_1 (i := 11) (by decide +kernel))) (va_eqt (hs (Cond.eq (.static "java/lang/String" "COMPACT_STRINGS" "Z") (.int 1)) (by decide +kernel))) hA, va_Zqof (hts _ (tb_2 (i := 131) (by decide +kernel))) (hts _ (tb_1 (i := 13) (by decide +kernel))) (hs _ (by decide +kernel)) hA⟩
