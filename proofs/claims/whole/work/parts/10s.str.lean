/-! the String's two methods, over the JDK's own code -/
theorem eJ0_coder_7d493_0 : decode cJ0_coder_7d493 0 = .ok (.getstatic 38, 3) := by decide +kernel
theorem eJ0_coder_7d493_3 : decode cJ0_coder_7d493 3 = .ok (.ifCond .eq 10, 3) := by decide +kernel
theorem eJ0_coder_7d493_6 : decode cJ0_coder_7d493 6 = .ok (.aload_n 0, 1) := by decide +kernel
theorem eJ0_coder_7d493_7 : decode cJ0_coder_7d493 7 = .ok (.getfield 15, 3) := by decide +kernel
theorem eJ0_coder_7d493_10 : decode cJ0_coder_7d493 10 = .ok (.goto 4, 3) := by decide +kernel
theorem eJ0_coder_7d493_13 : decode cJ0_coder_7d493 13 = .ok (.iconst 1, 1) := by decide +kernel
theorem eJ0_coder_7d493_14 : decode cJ0_coder_7d493 14 = .ok (.ireturn, 1) := by decide +kernel
theorem eJ0_length_8abf5_0 : decode cJ0_length_8abf5 0 = .ok (.aload_n 0, 1) := by decide +kernel
theorem eJ0_length_8abf5_1 : decode cJ0_length_8abf5 1 = .ok (.getfield 9, 3) := by decide +kernel
theorem eJ0_length_8abf5_4 : decode cJ0_length_8abf5 4 = .ok (.arraylength, 1) := by decide +kernel
theorem eJ0_length_8abf5_5 : decode cJ0_length_8abf5 5 = .ok (.aload_n 0, 1) := by decide +kernel
theorem eJ0_length_8abf5_6 : decode cJ0_length_8abf5 6 = .ok (.invokevirtual 335, 3) := by decide +kernel
theorem eJ0_length_8abf5_9 : decode cJ0_length_8abf5 9 = .ok (.ishr, 1) := by decide +kernel
theorem eJ0_length_8abf5_10 : decode cJ0_length_8abf5 10 = .ok (.ireturn, 1) := by decide +kernel
theorem eJ0_isLatin1_aae02_0 : decode cJ0_isLatin1_aae02 0 = .ok (.getstatic 38, 3) := by decide +kernel
theorem eJ0_isLatin1_aae02_3 : decode cJ0_isLatin1_aae02 3 = .ok (.ifCond .eq 14, 3) := by decide +kernel
theorem eJ0_isLatin1_aae02_6 : decode cJ0_isLatin1_aae02 6 = .ok (.aload_n 0, 1) := by decide +kernel
theorem eJ0_isLatin1_aae02_7 : decode cJ0_isLatin1_aae02 7 = .ok (.getfield 15, 3) := by decide +kernel
theorem eJ0_isLatin1_aae02_10 : decode cJ0_isLatin1_aae02 10 = .ok (.ifCond .ne 7, 3) := by decide +kernel
theorem eJ0_isLatin1_aae02_13 : decode cJ0_isLatin1_aae02 13 = .ok (.iconst 1, 1) := by decide +kernel
theorem eJ0_isLatin1_aae02_14 : decode cJ0_isLatin1_aae02 14 = .ok (.goto 4, 3) := by decide +kernel
theorem eJ0_isLatin1_aae02_17 : decode cJ0_isLatin1_aae02 17 = .ok (.iconst 0, 1) := by decide +kernel
theorem eJ0_isLatin1_aae02_18 : decode cJ0_isLatin1_aae02 18 = .ok (.ireturn, 1) := by decide +kernel
theorem eJ3_checkIndex_8e157_0 : decode cJ3_checkIndex_8e157 0 = .ok (.iload_n 0, 1) := by decide +kernel
theorem eJ3_checkIndex_8e157_1 : decode cJ3_checkIndex_8e157 1 = .ok (.ifCond .lt 8, 3) := by decide +kernel
theorem eJ3_checkIndex_8e157_4 : decode cJ3_checkIndex_8e157 4 = .ok (.iload_n 0, 1) := by decide +kernel
theorem eJ3_checkIndex_8e157_5 : decode cJ3_checkIndex_8e157 5 = .ok (.iload_n 1, 1) := by decide +kernel
theorem eJ3_checkIndex_8e157_6 : decode cJ3_checkIndex_8e157 6 = .ok (.if_icmp .lt 10, 3) := by decide +kernel
theorem eJ3_checkIndex_8e157_9 : decode cJ3_checkIndex_8e157 9 = .ok (.aload_n 2, 1) := by decide +kernel
theorem eJ3_checkIndex_8e157_10 : decode cJ3_checkIndex_8e157 10 = .ok (.iload_n 0, 1) := by decide +kernel
theorem eJ3_checkIndex_8e157_11 : decode cJ3_checkIndex_8e157 11 = .ok (.iload_n 1, 1) := by decide +kernel
theorem eJ3_checkIndex_8e157_12 : decode cJ3_checkIndex_8e157 12 = .ok (.invokestatic 95, 3) := by decide +kernel
theorem eJ3_checkIndex_8e157_15 : decode cJ3_checkIndex_8e157 15 = .ok (.athrow, 1) := by decide +kernel
theorem eJ3_checkIndex_8e157_16 : decode cJ3_checkIndex_8e157 16 = .ok (.iload_n 0, 1) := by decide +kernel
theorem eJ3_checkIndex_8e157_17 : decode cJ3_checkIndex_8e157 17 = .ok (.ireturn, 1) := by decide +kernel
theorem eJ0_checkIndex_df160_0 : decode cJ0_checkIndex_df160 0 = .ok (.iload_n 0, 1) := by decide +kernel
theorem eJ0_checkIndex_df160_1 : decode cJ0_checkIndex_df160 1 = .ok (.iload_n 1, 1) := by decide +kernel
theorem eJ0_checkIndex_df160_2 : decode cJ0_checkIndex_df160 2 = .ok (.getstatic 1053, 3) := by decide +kernel
theorem eJ0_checkIndex_df160_5 : decode cJ0_checkIndex_df160 5 = .ok (.invokestatic 1059, 3) := by decide +kernel
theorem eJ0_checkIndex_df160_8 : decode cJ0_checkIndex_df160 8 = .ok (.pop, 1) := by decide +kernel
theorem eJ0_checkIndex_df160_9 : decode cJ0_checkIndex_df160 9 = .ok (.return_, 1) := by decide +kernel
theorem eJ1_charAt_3b067_0 : decode cJ1_charAt_3b067 0 = .ok (.iload_n 1, 1) := by decide +kernel
theorem eJ1_charAt_3b067_1 : decode cJ1_charAt_3b067 1 = .ok (.aload_n 0, 1) := by decide +kernel
theorem eJ1_charAt_3b067_2 : decode cJ1_charAt_3b067 2 = .ok (.arraylength, 1) := by decide +kernel
theorem eJ1_charAt_3b067_3 : decode cJ1_charAt_3b067 3 = .ok (.invokestatic 9, 3) := by decide +kernel
theorem eJ1_charAt_3b067_6 : decode cJ1_charAt_3b067 6 = .ok (.aload_n 0, 1) := by decide +kernel
theorem eJ1_charAt_3b067_7 : decode cJ1_charAt_3b067 7 = .ok (.iload_n 1, 1) := by decide +kernel
theorem eJ1_charAt_3b067_8 : decode cJ1_charAt_3b067 8 = .ok (.baload, 1) := by decide +kernel
theorem eJ1_charAt_3b067_9 : decode cJ1_charAt_3b067 9 = .ok (.sipush 255, 3) := by decide +kernel
theorem eJ1_charAt_3b067_12 : decode cJ1_charAt_3b067 12 = .ok (.iand, 1) := by decide +kernel
theorem eJ1_charAt_3b067_13 : decode cJ1_charAt_3b067 13 = .ok (.i2c, 1) := by decide +kernel
theorem eJ1_charAt_3b067_14 : decode cJ1_charAt_3b067 14 = .ok (.ireturn, 1) := by decide +kernel
theorem eJ0_charAt_5068e_0 : decode cJ0_charAt_5068e 0 = .ok (.aload_n 0, 1) := by decide +kernel
theorem eJ0_charAt_5068e_1 : decode cJ0_charAt_5068e 1 = .ok (.invokevirtual 492, 3) := by decide +kernel
theorem eJ0_charAt_5068e_4 : decode cJ0_charAt_5068e 4 = .ok (.ifCond .eq 12, 3) := by decide +kernel
theorem eJ0_charAt_5068e_7 : decode cJ0_charAt_5068e 7 = .ok (.aload_n 0, 1) := by decide +kernel
theorem eJ0_charAt_5068e_8 : decode cJ0_charAt_5068e 8 = .ok (.getfield 9, 3) := by decide +kernel
theorem eJ0_charAt_5068e_11 : decode cJ0_charAt_5068e 11 = .ok (.iload_n 1, 1) := by decide +kernel
theorem eJ0_charAt_5068e_12 : decode cJ0_charAt_5068e 12 = .ok (.invokestatic 495, 3) := by decide +kernel
theorem eJ0_charAt_5068e_15 : decode cJ0_charAt_5068e 15 = .ok (.ireturn, 1) := by decide +kernel
theorem eJ0_charAt_5068e_16 : decode cJ0_charAt_5068e 16 = .ok (.aload_n 0, 1) := by decide +kernel
theorem eJ0_charAt_5068e_17 : decode cJ0_charAt_5068e 17 = .ok (.getfield 9, 3) := by decide +kernel
theorem eJ0_charAt_5068e_20 : decode cJ0_charAt_5068e 20 = .ok (.iload_n 1, 1) := by decide +kernel
theorem eJ0_charAt_5068e_21 : decode cJ0_charAt_5068e 21 = .ok (.invokestatic 498, 3) := by decide +kernel
theorem eJ0_charAt_5068e_24 : decode cJ0_charAt_5068e 24 = .ok (.ireturn, 1) := by decide +kernel
theorem wTx_c : ∀ i, i < 129 → ((wTxl.getD i 0 &&& 255).toUInt32 % 65536).toInt32 = wTxl.getD i 0 ∧ narrow .char (.int (wTxl.getD i 0)) = .int (wTxl.getD i 0) := by decide +kernel
theorem wd_inJ (x : Cond) (i : Nat) (h : tables_1[i]? = some x) (hg : goodWord x = true) : x ∈ lw_good := List.mem_filter.mpr ⟨List.mem_append_right _ (List.mem_of_getElem? h), hg⟩
theorem ww11 : (Jvm.Cond.initialized "java/lang/String") ∈ lw_good := wd_inJ _ 11 (by decide +kernel) (by decide +kernel)
theorem ww12 : (Jvm.Cond.initialized "java/lang/StringLatin1") ∈ lw_good := wd_inJ _ 12 (by decide +kernel) (by decide +kernel)
theorem ww13 : (Jvm.Cond.initialized "jdk/internal/util/Preconditions") ∈ lw_good := wd_inJ _ 13 (by decide +kernel) (by decide +kernel)
theorem ww347 : (Jvm.Cond.instanceMethod ({ cls := "java/lang/String", name := "length", desc := "()I" } : Jvm.MethodName)) ∈ lw_good := wd_inJ _ 347 (by decide +kernel) (by decide +kernel)
theorem ww348 : (Jvm.Cond.selects "java/lang/String" ({ cls := "java/lang/String", name := "length", desc := "()I" } : Jvm.MethodName) ({ cls := "java/lang/String", name := "length", desc := "()I" } : Jvm.MethodName)) ∈ lw_good := wd_inJ _ 348 (by decide +kernel) (by decide +kernel)
theorem ww349 : (Jvm.Cond.code ({ cls := "java/lang/String", name := "length", desc := "()I" } : Jvm.MethodName) prog_13_method_54_code (1 : Nat) (Option.some Jvm.ClassFile.FieldType.int)) ∈ lw_good := wd_inJ _ 349 (by decide +kernel) (by decide +kernel)
theorem ww350 : (Jvm.Cond.methodLink "java/lang/String" (335 : Nat) ({ cls := "java/lang/String", name := "coder", desc := "()B" } : Jvm.MethodName)) ∈ lw_good := wd_inJ _ 350 (by decide +kernel) (by decide +kernel)
theorem ww351 : (Jvm.Cond.instanceMethod ({ cls := "java/lang/String", name := "coder", desc := "()B" } : Jvm.MethodName)) ∈ lw_good := wd_inJ _ 351 (by decide +kernel) (by decide +kernel)
theorem ww352 : (Jvm.Cond.selects "java/lang/String" ({ cls := "java/lang/String", name := "coder", desc := "()B" } : Jvm.MethodName) ({ cls := "java/lang/String", name := "coder", desc := "()B" } : Jvm.MethodName)) ∈ lw_good := wd_inJ _ 352 (by decide +kernel) (by decide +kernel)
theorem ww353 : (Jvm.Cond.code ({ cls := "java/lang/String", name := "coder", desc := "()B" } : Jvm.MethodName) prog_13_method_152_code (1 : Nat) (Option.some Jvm.ClassFile.FieldType.byte)) ∈ lw_good := wd_inJ _ 353 (by decide +kernel) (by decide +kernel)
theorem ww354 : (Jvm.Cond.fieldLink "java/lang/String" (38 : Nat) "java/lang/String" "COMPACT_STRINGS" "Z") ∈ lw_good := wd_inJ _ 354 (by decide +kernel) (by decide +kernel)
theorem ww357 : (Jvm.Cond.instanceMethod ({ cls := "java/lang/String", name := "charAt", desc := "(I)C" } : Jvm.MethodName)) ∈ lw_good := wd_inJ _ 357 (by decide +kernel) (by decide +kernel)
theorem ww358 : (Jvm.Cond.selects "java/lang/String" ({ cls := "java/lang/String", name := "charAt", desc := "(I)C" } : Jvm.MethodName) ({ cls := "java/lang/String", name := "charAt", desc := "(I)C" } : Jvm.MethodName)) ∈ lw_good := wd_inJ _ 358 (by decide +kernel) (by decide +kernel)
theorem ww359 : (Jvm.Cond.code ({ cls := "java/lang/String", name := "charAt", desc := "(I)C" } : Jvm.MethodName) prog_13_method_56_code (2 : Nat) (Option.some Jvm.ClassFile.FieldType.char)) ∈ lw_good := wd_inJ _ 359 (by decide +kernel) (by decide +kernel)
theorem ww360 : (Jvm.Cond.methodLink "java/lang/String" (492 : Nat) ({ cls := "java/lang/String", name := "isLatin1", desc := "()Z" } : Jvm.MethodName)) ∈ lw_good := wd_inJ _ 360 (by decide +kernel) (by decide +kernel)
theorem ww361 : (Jvm.Cond.instanceMethod ({ cls := "java/lang/String", name := "isLatin1", desc := "()Z" } : Jvm.MethodName)) ∈ lw_good := wd_inJ _ 361 (by decide +kernel) (by decide +kernel)
theorem ww362 : (Jvm.Cond.selects "java/lang/String" ({ cls := "java/lang/String", name := "isLatin1", desc := "()Z" } : Jvm.MethodName) ({ cls := "java/lang/String", name := "isLatin1", desc := "()Z" } : Jvm.MethodName)) ∈ lw_good := wd_inJ _ 362 (by decide +kernel) (by decide +kernel)
theorem ww363 : (Jvm.Cond.code ({ cls := "java/lang/String", name := "isLatin1", desc := "()Z" } : Jvm.MethodName) prog_13_method_154_code (1 : Nat) (Option.some Jvm.ClassFile.FieldType.boolean)) ∈ lw_good := wd_inJ _ 363 (by decide +kernel) (by decide +kernel)
theorem ww364 : (Jvm.Cond.methodLink "java/lang/String" (495 : Nat) ({ cls := "java/lang/StringLatin1", name := "charAt", desc := "([BI)C" } : Jvm.MethodName)) ∈ lw_good := wd_inJ _ 364 (by decide +kernel) (by decide +kernel)
theorem ww365 : (Jvm.Cond.static ({ cls := "java/lang/StringLatin1", name := "charAt", desc := "([BI)C" } : Jvm.MethodName)) ∈ lw_good := wd_inJ _ 365 (by decide +kernel) (by decide +kernel)
theorem ww366 : (Jvm.Cond.code ({ cls := "java/lang/StringLatin1", name := "charAt", desc := "([BI)C" } : Jvm.MethodName) prog_14_method_2_code (2 : Nat) (Option.some Jvm.ClassFile.FieldType.char)) ∈ lw_good := wd_inJ _ 366 (by decide +kernel) (by decide +kernel)
theorem ww367 : (Jvm.Cond.methodLink "java/lang/StringLatin1" (9 : Nat) ({ cls := "java/lang/String", name := "checkIndex", desc := "(II)V" } : Jvm.MethodName)) ∈ lw_good := wd_inJ _ 367 (by decide +kernel) (by decide +kernel)
theorem ww368 : (Jvm.Cond.static ({ cls := "java/lang/String", name := "checkIndex", desc := "(II)V" } : Jvm.MethodName)) ∈ lw_good := wd_inJ _ 368 (by decide +kernel) (by decide +kernel)
theorem ww369 : (Jvm.Cond.code ({ cls := "java/lang/String", name := "checkIndex", desc := "(II)V" } : Jvm.MethodName) prog_13_method_155_code (2 : Nat) (Option.none : Option Jvm.ClassFile.FieldType)) ∈ lw_good := wd_inJ _ 369 (by decide +kernel) (by decide +kernel)
theorem ww370 : (Jvm.Cond.fieldLink "java/lang/String" (1053 : Nat) "jdk/internal/util/Preconditions" "SIOOBE_FORMATTER" "Ljava/util/function/BiFunction;") ∈ lw_good := wd_inJ _ 370 (by decide +kernel) (by decide +kernel)
theorem ww372 : (Jvm.Cond.methodLink "java/lang/String" (1059 : Nat) ({ cls := "jdk/internal/util/Preconditions", name := "checkIndex", desc := "(IILjava/util/function/BiFunction;)I" } : Jvm.MethodName)) ∈ lw_good := wd_inJ _ 372 (by decide +kernel) (by decide +kernel)
theorem ww373 : (Jvm.Cond.static ({ cls := "jdk/internal/util/Preconditions", name := "checkIndex", desc := "(IILjava/util/function/BiFunction;)I" } : Jvm.MethodName)) ∈ lw_good := wd_inJ _ 373 (by decide +kernel) (by decide +kernel)
theorem ww374 : (Jvm.Cond.code ({ cls := "jdk/internal/util/Preconditions", name := "checkIndex", desc := "(IILjava/util/function/BiFunction;)I" } : Jvm.MethodName) prog_18_method_11_code (3 : Nat) (Option.some Jvm.ClassFile.FieldType.int)) ∈ lw_good := wd_inJ _ 374 (by decide +kernel) (by decide +kernel)
theorem ww1775 : (Jvm.Cond.fieldLink "java/lang/String" (9 : Nat) "java/lang/String" "value" "[B") ∈ lw_good := wd_inJ _ 1775 (by decide +kernel) (by decide +kernel)
theorem ww1776 : (Jvm.Cond.fieldLink "java/lang/String" (15 : Nat) "java/lang/String" "coder" "B") ∈ lw_good := wd_inJ _ 1776 (by decide +kernel) (by decide +kernel)
def wsJ (y : MethodName) (b : ByteArray) (n : Nat) (r : Option FieldType) : List Cond := .code y b n r :: lw_good
def PcS (w : WT) (av : List Value) : Array Value → State → Prop := fun v U => v = av.toArray ∧ StrW w (A1 w) U U.heap
def QcS (r : Option Value) : Array Value → State → Outcome → State → Prop := fun _ st oc t => oc = .returned r ∧ t.heap = st.heap
theorem PcS_blind {w : WT} {av : List Value} : FrameBlind (PcS w av) := by
  intro a U g mk h
  obtain ⟨h1, h6⟩ := h
  refine ⟨h1, ⟨?_, ?_, ?_, ?_, ?_⟩⟩
  · exact vk_S.moved (u := U) (U := U.calling g mk a) (Vm.Alike.refl U.vm) h6.1
  · exact vk_R.same (u := U) (U := U.calling g mk a) rfl h6.2.1
  · exact va_Nw.same (u := U) (U := U.calling g mk a) rfl rfl h6.2.2.1
  · exact va_Z.moved (u := U) (U := U.calling g mk a) (Vm.Alike.refl U.vm) h6.2.2.2.1
  · exact va_Zq.moved (u := U) (U := U.calling g mk a) (Vm.Alike.refl U.vm) h6.2.2.2.2
theorem goodJ {y : MethodName} {b : ByteArray} {n : Nat} {r : Option FieldType} (h5 : Cond.code y b n r ∈ lw_good) : GoodIn lw_good (wsJ y b n r) := by
  have hg : ∀ w ∈ lw_good, (w.onTables && w.keeps) = true ∨ ∃ ty, w = .arrayClass ty := fun w hw => good_of_word (List.mem_filter.mp hw).2
  intro x hx
  unfold wsJ at hx
  rcases List.mem_cons.mp hx with rfl | hx
  · exact ⟨h5, hg _ h5⟩
  · exact ⟨hx, hg _ hx⟩
theorem goodJV {idx : Nat} {own C : String} {y : MethodName} {b : ByteArray} {n : Nat} {r : Option FieldType} (h1 : Cond.methodLink own idx y ∈ lw_good) (h2 : Cond.instanceMethod y ∈ lw_good) (h3 : Cond.selects C y y ∈ lw_good) (h4 : Cond.initialized C ∈ lw_good) (h5 : Cond.code y b n r ∈ lw_good) : GoodIn lw_good (wsV own idx C y (wsJ y b n r)) := by
  have hg : ∀ w ∈ lw_good, (w.onTables && w.keeps) = true ∨ ∃ ty, w = .arrayClass ty := fun w hw => good_of_word (List.mem_filter.mp hw).2
  intro x hx
  have hm : x ∈ lw_good := by
    unfold wsV wsJ at hx
    simp only [List.mem_append, List.mem_cons, List.not_mem_nil, or_false] at hx
    rcases hx with (rfl | rfl | rfl | rfl) | rfl | hx
    · exact h1
    · exact h2
    · exact h3
    · exact h4
    · exact h5
    · exact hx
  exact ⟨hm, hg _ hm⟩
theorem am_s {p : Program} {l : Launch} {e : Env} {R : Room} {s : State} {m : MethodId} {args args1 : Array Value} {below : List Frame} {meth : Method} {c : Code} {H : Heap} {locs : List Loc} {cells slots : Nat} {Q : State → Prop} {pc : Nat} {ls : Array Slot} {st0 rest : List Value} {r : Option Value}
    (hr : va_Run p l e R s m args below meth c H locs cells slots 0 0 (F0 m pc ls st0) rest (QcS r args1) (fun _ => False)) (kk : W p l e R s m args below meth c H locs cells slots Q (F0 m (pc + 3) ls (r.toList ++ rest))) : W p l e R s m args below meth c H locs cells slots Q (F0 m pc ls st0) := by
  intro T hT X
  obtain ⟨v, st₀, t, T', L, h0, X', hL, e1, e2, ⟨hv, hh⟩, st⟩ := hr T hT X
  cases hv
  obtain ⟨t2, a1, b1⟩ := kk T' (by rw [e1, hh, h0]) (Stand.forget X' (fun q h => (hL q h).elim))
  exact ⟨t2, st t2 a1, b1⟩
theorem cJ0_coder_7d493_ (w : WT) (l : Launch)  : Met l yJ0_coder_7d493 (wsJ yJ0_coder_7d493 cJ0_coder_7d493 1 (Option.some Jvm.ClassFile.FieldType.byte)) (rmD 0) (PcS w [.ref (wK w 0)]) (QcS (some (.int 0))) 0 0 (fun _ => False) := by
  refine Met.ofW (cc := cJ0_coder_7d493) (maxL := 1) (ret := (Option.some Jvm.ClassFile.FieldType.byte)) (by decide +kernel) rfl ?_
  intro p e s m args below meth c s₁ B hml hv
  obtain ⟨rfl, hStr⟩ := hv
  have hx := B.exec
  have hb := B.bytes
  have hr := B.returns
  have hlocks : meth.locks = false := B.notSynchronized
  have hown := findClass_of_methodNamed B.named
  have hts0 := atoms_spec (ws := wsJ yJ0_coder_7d493 cJ0_coder_7d493 1 (Option.some Jvm.ClassFile.FieldType.byte)) B.pre
  have hts : ∀ x ∈ lw_good, x.before ([.ref (wK w 0)] : List Value).toArray s = true := fun x hx => hts0 x (List.mem_cons_of_mem _ hx)
  have hS : va_S (A1 w) s.heap s.heap [] := va_S.rf
  have hW0 : s.WarmedH s.vm := State.WarmedH.refl s
  have hl := lv_entry ([.ref (wK w 0)]) (n := 1) (Nat.le_of_ble_eq_true rfl)
  rw [lg_entry_eq]
  generalize (lg_sl ([.ref (wK w 0)]) ++ List.replicate (1 - (lg_sl ([.ref (wK w 0)])).length) Slot.unset).toArray = ls at hl ⊢
  have hl : lv_has ls 1 [(0, .ref (wK w 0))] := hl
  have hq : ∀ t : State, t.heap = s.heap → s.WarmedH t.vm → QcS (some (.int 0)) ([.ref (wK w 0)] : List Value).toArray s (.returned (some (.int 0))) t := fun t ht _ => ⟨rfl, ht⟩
  have hf : ∀ q ∈ ([] : List Loc), (fun _ : Addr => False) q.base := fun _ h => by cases h
  have hK := hStr.1.1 0 (by decide)
  refine va_gets hx hb hStr.2.2.2.1 hS hown (hts _ ww354) (fun _ h => h) eJ0_coder_7d493_0 ?_
  refine lv_if_eq (tgt := 13) hx hb eJ0_coder_7d493_3 (by decide) (fun z => absurd z (by decide)) (fun _ => ?_)
  refine lv_aload_n hx hb eJ0_coder_7d493_6 rfl (lv_at hl 0 rfl) ?_
  refine vk_getf hx hb hK.2.1 hS hown (hts _ ww1776) (fun _ h => h) eJ0_coder_7d493_7 ?_
  refine lv_goto (tgt := 14) hx hb eJ0_coder_7d493_10 (by decide) ?_
  exact W.zret hx hb hr rfl hq hf eJ0_coder_7d493_14
theorem cJ0_isLatin1_aae02_ (w : WT) (l : Launch)  : Met l yJ0_isLatin1_aae02 (wsJ yJ0_isLatin1_aae02 cJ0_isLatin1_aae02 1 (Option.some Jvm.ClassFile.FieldType.boolean)) (rmD 0) (PcS w [.ref (wK w 0)]) (QcS (some (.int 1))) 0 0 (fun _ => False) := by
  refine Met.ofW (cc := cJ0_isLatin1_aae02) (maxL := 1) (ret := (Option.some Jvm.ClassFile.FieldType.boolean)) (by decide +kernel) rfl ?_
  intro p e s m args below meth c s₁ B hml hv
  obtain ⟨rfl, hStr⟩ := hv
  have hx := B.exec
  have hb := B.bytes
  have hr := B.returns
  have hlocks : meth.locks = false := B.notSynchronized
  have hown := findClass_of_methodNamed B.named
  have hts0 := atoms_spec (ws := wsJ yJ0_isLatin1_aae02 cJ0_isLatin1_aae02 1 (Option.some Jvm.ClassFile.FieldType.boolean)) B.pre
  have hts : ∀ x ∈ lw_good, x.before ([.ref (wK w 0)] : List Value).toArray s = true := fun x hx => hts0 x (List.mem_cons_of_mem _ hx)
  have hS : va_S (A1 w) s.heap s.heap [] := va_S.rf
  have hW0 : s.WarmedH s.vm := State.WarmedH.refl s
  have hl := lv_entry ([.ref (wK w 0)]) (n := 1) (Nat.le_of_ble_eq_true rfl)
  rw [lg_entry_eq]
  generalize (lg_sl ([.ref (wK w 0)]) ++ List.replicate (1 - (lg_sl ([.ref (wK w 0)])).length) Slot.unset).toArray = ls at hl ⊢
  have hl : lv_has ls 1 [(0, .ref (wK w 0))] := hl
  have hq : ∀ t : State, t.heap = s.heap → s.WarmedH t.vm → QcS (some (.int 1)) ([.ref (wK w 0)] : List Value).toArray s (.returned (some (.int 1))) t := fun t ht _ => ⟨rfl, ht⟩
  have hf : ∀ q ∈ ([] : List Loc), (fun _ : Addr => False) q.base := fun _ h => by cases h
  have hK := hStr.1.1 0 (by decide)
  refine va_gets hx hb hStr.2.2.2.1 hS hown (hts _ ww354) (fun _ h => h) eJ0_isLatin1_aae02_0 ?_
  refine lv_if_eq (tgt := 17) hx hb eJ0_isLatin1_aae02_3 (by decide) (fun z => absurd z (by decide)) (fun _ => ?_)
  refine lv_aload_n hx hb eJ0_isLatin1_aae02_6 rfl (lv_at hl 0 rfl) ?_
  refine vk_getf hx hb hK.2.1 hS hown (hts _ ww1776) (fun _ h => h) eJ0_isLatin1_aae02_7 ?_
  refine lv_if_ne (tgt := 17) hx hb eJ0_isLatin1_aae02_10 (by decide) (fun z => absurd rfl z) (fun _ => ?_)
  refine lv_iconst (v := 1) hx hb eJ0_isLatin1_aae02_13 (by decide) ?_
  refine lv_goto (tgt := 18) hx hb eJ0_isLatin1_aae02_14 (by decide) ?_
  exact W.zret hx hb hr rfl hq hf eJ0_isLatin1_aae02_18
theorem cJ3_checkIndex_8e157_ (w : WT) (l : Launch) {i n : Int32} (v : Value) (hc : v.category = 1) (h1 : ¬ i < 0) (h2 : i < n) : Met l yJ3_checkIndex_8e157 (wsJ yJ3_checkIndex_8e157 cJ3_checkIndex_8e157 3 (Option.some Jvm.ClassFile.FieldType.int)) (rmD 0) (PcS w [.int i, .int n, v]) (QcS (some (.int i))) 0 0 (fun _ => False) := by
  refine Met.ofW (cc := cJ3_checkIndex_8e157) (maxL := 3) (ret := (Option.some Jvm.ClassFile.FieldType.int)) (by decide +kernel) rfl ?_
  intro p e s m args below meth c s₁ B hml hv
  obtain ⟨rfl, hStr⟩ := hv
  have hx := B.exec
  have hb := B.bytes
  have hr := B.returns
  have hlocks : meth.locks = false := B.notSynchronized
  have hown := findClass_of_methodNamed B.named
  have hts0 := atoms_spec (ws := wsJ yJ3_checkIndex_8e157 cJ3_checkIndex_8e157 3 (Option.some Jvm.ClassFile.FieldType.int)) B.pre
  have hts : ∀ x ∈ lw_good, x.before ([.int i, .int n, v] : List Value).toArray s = true := fun x hx => hts0 x (List.mem_cons_of_mem _ hx)
  have hS : va_S (A1 w) s.heap s.heap [] := va_S.rf
  have hW0 : s.WarmedH s.vm := State.WarmedH.refl s
  have hl := lv_entry ([.int i, .int n, v]) (n := 3) (by
    have h3 : (lg_sl [Value.int i, Value.int n, v]).length = 3 := by
      show ([Slot.val (Value.int i)] ++ ([Slot.val (Value.int n)] ++ ((if v.category = 2 then [Slot.val v, Slot.second] else [Slot.val v]) ++ []))).length = 3
      rw [if_neg (by rw [hc]; decide)]; rfl
    rw [h3]; exact Nat.le_refl 3)
  rw [lg_entry_eq]
  generalize (lg_sl ([.int i, .int n, v]) ++ List.replicate (3 - (lg_sl ([.int i, .int n, v])).length) Slot.unset).toArray = ls at hl ⊢
  have hl : lv_has ls 3 [(0, .int i), (1, .int n), (2, v)] := hl
  have hq : ∀ t : State, t.heap = s.heap → s.WarmedH t.vm → QcS (some (.int i)) ([.int i, .int n, v] : List Value).toArray s (.returned (some (.int i))) t := fun t ht _ => ⟨rfl, ht⟩
  have hf : ∀ q ∈ ([] : List Loc), (fun _ : Addr => False) q.base := fun _ h => by cases h
  refine lv_iload_n hx hb eJ3_checkIndex_8e157_0 rfl (lv_at hl 0 rfl) ?_
  refine lv_if_lt (tgt := 9) hx hb eJ3_checkIndex_8e157_1 (by decide) (fun z => absurd z h1) (fun _ => ?_)
  refine lv_iload_n hx hb eJ3_checkIndex_8e157_4 rfl (lv_at hl 0 rfl) ?_
  refine lv_iload_n hx hb eJ3_checkIndex_8e157_5 rfl (lv_at hl 1 rfl) ?_
  refine lv_icmp_lt (tgt := 16) hx hb eJ3_checkIndex_8e157_6 (by decide) (fun _ => ?_) (fun z => absurd h2 z)
  refine lv_iload_n hx hb eJ3_checkIndex_8e157_16 rfl (lv_at hl 0 rfl) ?_
  exact W.iret hx hb hr hq hf eJ3_checkIndex_8e157_17
theorem cJ0_checkIndex_df160_ (w : WT) (l : Launch) {i n : Int32} (h1 : ¬ i < 0) (h2 : i < n) : Met l yJ0_checkIndex_df160 (wsJ yJ0_checkIndex_df160 cJ0_checkIndex_df160 2 (Option.none : Option Jvm.ClassFile.FieldType)) (rmD 1) (PcS w [.int i, .int n]) (QcS none) 0 0 (fun _ => False) := by
  refine Met.ofW (cc := cJ0_checkIndex_df160) (maxL := 2) (ret := (Option.none : Option Jvm.ClassFile.FieldType)) (by decide +kernel) rfl ?_
  intro p e s m args below meth c s₁ B hml hv
  obtain ⟨rfl, hStr⟩ := hv
  have hx := B.exec
  have hb := B.bytes
  have hr := B.returns
  have hlocks : meth.locks = false := B.notSynchronized
  have hown := findClass_of_methodNamed B.named
  have hts0 := atoms_spec (ws := wsJ yJ0_checkIndex_df160 cJ0_checkIndex_df160 2 (Option.none : Option Jvm.ClassFile.FieldType)) B.pre
  have hts : ∀ x ∈ lw_good, x.before ([.int i, .int n] : List Value).toArray s = true := fun x hx => hts0 x (List.mem_cons_of_mem _ hx)
  have hS : va_S (A1 w) s.heap s.heap [] := va_S.rf
  have hW0 : s.WarmedH s.vm := State.WarmedH.refl s
  have hl := lv_entry ([.int i, .int n]) (n := 2) (Nat.le_of_ble_eq_true rfl)
  rw [lg_entry_eq]
  generalize (lg_sl ([.int i, .int n]) ++ List.replicate (2 - (lg_sl ([.int i, .int n])).length) Slot.unset).toArray = ls at hl ⊢
  have hl : lv_has ls 2 [(0, .int i), (1, .int n)] := hl
  have hq : ∀ t : State, t.heap = s.heap → s.WarmedH t.vm → QcS none ([.int i, .int n] : List Value).toArray s (.returned none) t := fun t ht _ => ⟨rfl, ht⟩
  have hf : ∀ q ∈ ([] : List Loc), (fun _ : Addr => False) q.base := fun _ h => by cases h
  refine lv_iload_n hx hb eJ0_checkIndex_df160_0 rfl (lv_at hl 0 rfl) ?_
  refine lv_iload_n hx hb eJ0_checkIndex_df160_1 rfl (lv_at hl 1 rfl) ?_
  obtain ⟨v, hc, hZ⟩ : ∃ v : Value, v.category = 1 ∧ va_Z "jdk/internal/util/Preconditions" "SIOOBE_FORMATTER" "Ljava/util/function/BiFunction;" v (A1 w) s s.heap := by
    rcases hStr.2.2.2.2 with z | ⟨t, z⟩
    · exact ⟨_, rfl, z⟩
    · exact ⟨_, rfl, z⟩
  refine va_gets hx hb hZ hS hown (hts _ ww370) (fun _ h => h) eJ0_checkIndex_df160_2 ?_
  refine am_s (va_runS (As := [.int i, .int n, v]) (rest := []) (mc := 0) (ms := 0) ⟨hx, hb, hml, hown, hts⟩ (cJ3_checkIndex_8e157_ w l v hc h1 h2) ⟨callB_of 3 hts (goodJ ww374) rfl rfl rfl (hts _ ww13) (hts _ ww372) (by decide +kernel) ⟨Nat.le_of_ble_eq_true rfl, Nat.le_of_ble_eq_true rfl⟩, hts _ ww373⟩ ⟨PcS_blind, fun U hU hW2 => ⟨rfl, StrW_to hStr hS (fun _ q => q) hU hW2⟩⟩ rfl rfl hl.1 rfl (lv_room (Nat.le_of_ble_eq_true rfl)) eJ0_checkIndex_df160_5 ⟨Nat.le_refl _, Nat.le_refl _⟩) ?_
  refine lv_pop hx hb eJ0_checkIndex_df160_8 rfl ?_
  exact W.vret hx hb hr hq hf eJ0_checkIndex_df160_9
theorem cJ1_charAt_3b067_ (w : WT) (l : Launch) {i : Nat} (h : i < 129) : Met l yJ1_charAt_3b067 (wsJ yJ1_charAt_3b067 cJ1_charAt_3b067 2 (Option.some Jvm.ClassFile.FieldType.char)) (rmD 2) (PcS w [.ref (wV w 0), .int (nI i)]) (QcS (some (.int (wTxl.getD i 0)))) 0 0 (fun _ => False) := by
  refine Met.ofW (cc := cJ1_charAt_3b067) (maxL := 2) (ret := (Option.some Jvm.ClassFile.FieldType.char)) (by decide +kernel) rfl ?_
  intro p e s m args below meth c s₁ B hml hv
  obtain ⟨rfl, hStr⟩ := hv
  have hx := B.exec
  have hb := B.bytes
  have hr := B.returns
  have hlocks : meth.locks = false := B.notSynchronized
  have hown := findClass_of_methodNamed B.named
  have hts0 := atoms_spec (ws := wsJ yJ1_charAt_3b067 cJ1_charAt_3b067 2 (Option.some Jvm.ClassFile.FieldType.char)) B.pre
  have hts : ∀ x ∈ lw_good, x.before ([.ref (wV w 0), .int (nI i)] : List Value).toArray s = true := fun x hx => hts0 x (List.mem_cons_of_mem _ hx)
  have hS : va_S (A1 w) s.heap s.heap [] := va_S.rf
  have hW0 : s.WarmedH s.vm := State.WarmedH.refl s
  have hl := lv_entry ([.ref (wV w 0), .int (nI i)]) (n := 2) (Nat.le_of_ble_eq_true rfl)
  rw [lg_entry_eq]
  generalize (lg_sl ([.ref (wV w 0), .int (nI i)]) ++ List.replicate (2 - (lg_sl ([.ref (wV w 0), .int (nI i)])).length) Slot.unset).toArray = ls at hl ⊢
  have hl : lv_has ls 2 [(0, .ref (wV w 0)), (1, .int (nI i))] := hl
  have hq : ∀ t : State, t.heap = s.heap → s.WarmedH t.vm → QcS (some (.int (wTxl.getD i 0))) ([.ref (wV w 0), .int (nI i)] : List Value).toArray s (.returned (some (.int (wTxl.getD i 0)))) t := fun t ht _ => ⟨rfl, ht⟩
  have hf : ∀ q ∈ ([] : List Loc), (fun _ : Addr => False) q.base := fun _ h => by cases h
  have hK := hStr.1.1 0 (by decide)
  refine lv_iload_n hx hb eJ1_charAt_3b067_0 rfl (lv_at hl 1 rfl) ?_
  refine lv_aload_n hx hb eJ1_charAt_3b067_1 rfl (lv_at hl 0 rfl) ?_
  refine va_tlen hx hb hK.2.2.2 hS (v := nI 129) rfl eJ1_charAt_3b067_2 ?_
  refine am_s (va_runS (As := [.int (nI i), .int (nI 129)]) (rest := []) (mc := 0) (ms := 0) ⟨hx, hb, hml, hown, hts⟩ (cJ0_checkIndex_df160_ w l (nI_pos (by omega)) (nI_lt h (by decide))) ⟨callB_of 2 hts (goodJ ww369) rfl rfl rfl (hts _ ww11) (hts _ ww367) (by decide +kernel) ⟨Nat.le_of_ble_eq_true rfl, Nat.le_of_ble_eq_true rfl⟩, hts _ ww368⟩ ⟨PcS_blind, fun U hU hW2 => ⟨rfl, StrW_to hStr hS (fun _ q => q) hU hW2⟩⟩ rfl rfl hl.1 rfl (lv_room (Nat.le_of_ble_eq_true rfl)) eJ1_charAt_3b067_3 ⟨Nat.le_refl _, Nat.le_refl _⟩) ?_
  refine lv_aload_n hx hb eJ1_charAt_3b067_6 rfl (lv_at hl 0 rfl) ?_
  refine lv_iload_n hx hb eJ1_charAt_3b067_7 rfl (lv_at hl 1 rfl) ?_
  refine va_tb hx hb hK.2.2.2 hS (vp_in_nI h (by decide)) (v := .int (wTxl.getD i 0)) (by rw [nI_clamp (by omega)]; rfl) eJ1_charAt_3b067_8 ?_
  refine lv_sipush (v := 255) hx hb eJ1_charAt_3b067_9 (by decide) ?_
  refine lv_iand hx hb eJ1_charAt_3b067_12 ?_
  refine lv_i2c hx hb eJ1_charAt_3b067_13 (v := wTxl.getD i 0) (wTx_c i h).1 ?_
  exact W.zret hx hb hr (wTx_c i h).2 hq hf eJ1_charAt_3b067_14
theorem cJ0_length_8abf5_ (w : WT) (l : Launch)  : Met l yJ0_length_8abf5 (wsJ yJ0_length_8abf5 cJ0_length_8abf5 1 (Option.some Jvm.ClassFile.FieldType.int)) (rmD 1) (PcS w [.ref (wK w 0)]) (QcS (some (.int 129))) 0 0 (fun _ => False) := by
  refine Met.ofW (cc := cJ0_length_8abf5) (maxL := 1) (ret := (Option.some Jvm.ClassFile.FieldType.int)) (by decide +kernel) rfl ?_
  intro p e s m args below meth c s₁ B hml hv
  obtain ⟨rfl, hStr⟩ := hv
  have hx := B.exec
  have hb := B.bytes
  have hr := B.returns
  have hlocks : meth.locks = false := B.notSynchronized
  have hown := findClass_of_methodNamed B.named
  have hts0 := atoms_spec (ws := wsJ yJ0_length_8abf5 cJ0_length_8abf5 1 (Option.some Jvm.ClassFile.FieldType.int)) B.pre
  have hts : ∀ x ∈ lw_good, x.before ([.ref (wK w 0)] : List Value).toArray s = true := fun x hx => hts0 x (List.mem_cons_of_mem _ hx)
  have hS : va_S (A1 w) s.heap s.heap [] := va_S.rf
  have hW0 : s.WarmedH s.vm := State.WarmedH.refl s
  have hl := lv_entry ([.ref (wK w 0)]) (n := 1) (Nat.le_of_ble_eq_true rfl)
  rw [lg_entry_eq]
  generalize (lg_sl ([.ref (wK w 0)]) ++ List.replicate (1 - (lg_sl ([.ref (wK w 0)])).length) Slot.unset).toArray = ls at hl ⊢
  have hl : lv_has ls 1 [(0, .ref (wK w 0))] := hl
  have hq : ∀ t : State, t.heap = s.heap → s.WarmedH t.vm → QcS (some (.int 129)) ([.ref (wK w 0)] : List Value).toArray s (.returned (some (.int 129))) t := fun t ht _ => ⟨rfl, ht⟩
  have hf : ∀ q ∈ ([] : List Loc), (fun _ : Addr => False) q.base := fun _ h => by cases h
  have hK := hStr.1.1 0 (by decide)
  refine lv_aload_n hx hb eJ0_length_8abf5_0 rfl (lv_at hl 0 rfl) ?_
  refine vk_getf hx hb hK.2.2.1 hS hown (hts _ ww1775) (fun _ h => h) eJ0_length_8abf5_1 ?_
  refine va_tlen hx hb hK.2.2.2 hS (v := nI 129) rfl eJ0_length_8abf5_4 ?_
  refine lv_aload_n hx hb eJ0_length_8abf5_5 rfl (lv_at hl 0 rfl) ?_
  refine am_s (va_runV (As := []) (rest := [.int (nI 129)]) (mc := 0) (ms := 0) ⟨hx, hb, hml, hown, hts⟩ (cJ0_coder_7d493_ w l) (cwV 0 hts (goodJV ww350 ww351 ww352 ww11 ww353) rfl rfl rfl (by decide +kernel) ⟨Nat.le_of_ble_eq_true rfl, Nat.le_of_ble_eq_true rfl⟩) ⟨PcS_blind, vk_recv hStr.1 (by decide) hS, fun U hU hW2 => ⟨rfl, StrW_to hStr hS (fun _ q => q) hU hW2⟩⟩ rfl rfl hl.1 rfl (lv_room (Nat.le_of_ble_eq_true rfl)) eJ0_length_8abf5_6 ⟨Nat.le_refl _, Nat.le_refl _⟩) ?_
  refine lv_ishr hx hb eJ0_length_8abf5_9 ?_
  exact W.iret hx hb hr hq hf eJ0_length_8abf5_10
theorem cJ0_charAt_5068e_ (w : WT) (l : Launch) {i : Nat} (h : i < 129) : Met l yJ0_charAt_5068e (wsJ yJ0_charAt_5068e cJ0_charAt_5068e 2 (Option.some Jvm.ClassFile.FieldType.char)) (rmD 3) (PcS w [.ref (wK w 0), .int (nI i)]) (QcS (some (.int (wTxl.getD i 0)))) 0 0 (fun _ => False) := by
  refine Met.ofW (cc := cJ0_charAt_5068e) (maxL := 2) (ret := (Option.some Jvm.ClassFile.FieldType.char)) (by decide +kernel) rfl ?_
  intro p e s m args below meth c s₁ B hml hv
  obtain ⟨rfl, hStr⟩ := hv
  have hx := B.exec
  have hb := B.bytes
  have hr := B.returns
  have hlocks : meth.locks = false := B.notSynchronized
  have hown := findClass_of_methodNamed B.named
  have hts0 := atoms_spec (ws := wsJ yJ0_charAt_5068e cJ0_charAt_5068e 2 (Option.some Jvm.ClassFile.FieldType.char)) B.pre
  have hts : ∀ x ∈ lw_good, x.before ([.ref (wK w 0), .int (nI i)] : List Value).toArray s = true := fun x hx => hts0 x (List.mem_cons_of_mem _ hx)
  have hS : va_S (A1 w) s.heap s.heap [] := va_S.rf
  have hW0 : s.WarmedH s.vm := State.WarmedH.refl s
  have hl := lv_entry ([.ref (wK w 0), .int (nI i)]) (n := 2) (Nat.le_of_ble_eq_true rfl)
  rw [lg_entry_eq]
  generalize (lg_sl ([.ref (wK w 0), .int (nI i)]) ++ List.replicate (2 - (lg_sl ([.ref (wK w 0), .int (nI i)])).length) Slot.unset).toArray = ls at hl ⊢
  have hl : lv_has ls 2 [(0, .ref (wK w 0)), (1, .int (nI i))] := hl
  have hq : ∀ t : State, t.heap = s.heap → s.WarmedH t.vm → QcS (some (.int (wTxl.getD i 0))) ([.ref (wK w 0), .int (nI i)] : List Value).toArray s (.returned (some (.int (wTxl.getD i 0)))) t := fun t ht _ => ⟨rfl, ht⟩
  have hf : ∀ q ∈ ([] : List Loc), (fun _ : Addr => False) q.base := fun _ h => by cases h
  have hK := hStr.1.1 0 (by decide)
  refine lv_aload_n hx hb eJ0_charAt_5068e_0 rfl (lv_at hl 0 rfl) ?_
  refine am_s (va_runV (As := []) (rest := []) (mc := 0) (ms := 0) ⟨hx, hb, hml, hown, hts⟩ (cJ0_isLatin1_aae02_ w l) (cwV 0 hts (goodJV ww360 ww361 ww362 ww11 ww363) rfl rfl rfl (by decide +kernel) ⟨Nat.le_of_ble_eq_true rfl, Nat.le_of_ble_eq_true rfl⟩) ⟨PcS_blind, vk_recv hStr.1 (by decide) hS, fun U hU hW2 => ⟨rfl, StrW_to hStr hS (fun _ q => q) hU hW2⟩⟩ rfl rfl hl.1 rfl (lv_room (Nat.le_of_ble_eq_true rfl)) eJ0_charAt_5068e_1 ⟨Nat.le_refl _, Nat.le_refl _⟩) ?_
  refine lv_if_eq (tgt := 16) hx hb eJ0_charAt_5068e_4 (by decide) (fun z => absurd z (by decide)) (fun _ => ?_)
  refine lv_aload_n hx hb eJ0_charAt_5068e_7 rfl (lv_at hl 0 rfl) ?_
  refine vk_getf hx hb hK.2.2.1 hS hown (hts _ ww1775) (fun _ h => h) eJ0_charAt_5068e_8 ?_
  refine lv_iload_n hx hb eJ0_charAt_5068e_11 rfl (lv_at hl 1 rfl) ?_
  refine am_s (va_runS (As := [.ref (wV w 0), .int (nI i)]) (rest := []) (mc := 0) (ms := 0) ⟨hx, hb, hml, hown, hts⟩ (cJ1_charAt_3b067_ w l h) ⟨callB_of 2 hts (goodJ ww366) rfl rfl rfl (hts _ ww12) (hts _ ww364) (by decide +kernel) ⟨Nat.le_of_ble_eq_true rfl, Nat.le_of_ble_eq_true rfl⟩, hts _ ww365⟩ ⟨PcS_blind, fun U hU hW2 => ⟨rfl, StrW_to hStr hS (fun _ q => q) hU hW2⟩⟩ rfl rfl hl.1 rfl (lv_room (Nat.le_of_ble_eq_true rfl)) eJ0_charAt_5068e_12 ⟨Nat.le_refl _, Nat.le_refl _⟩) ?_
  exact W.zret hx hb hr (wTx_c i h).2 hq hf eJ0_charAt_5068e_15
section SOS
variable {w : WT} {l : Launch} {hs : Bool} {mid pc : Nat}
theorem recS {κ t : Nat} (hk : κ = 30) : cv w (vR κ t) = .ref (wK w 0) := by subst hk; rfl
theorem so_slen {idx : Nat} (hd : decode (cdB mid) pc = .ok (.invokevirtual idx, 3)) (hl : Cond.methodLink (yM mid).cls idx yJ0_length_8abf5 ∈ lw_good) : Snd w l hs mid pc (opSln 129 (pc + 3)) := by
  intro C0 N0 d hC hN lv st S R' h
  unfold opSln at h
  split at h
  next κ t r =>
    replace h := cond_some h
    obtain ⟨hk0, h⟩ := h
    simp only [Bool.and_eq_true] at hk0
    obtain ⟨⟨hk1, hk2⟩, hk3⟩ := hk0
    have kN := hN _ _ _ _ _ h
    refine ⟨kN.1, fun p ee R s m args below meth c cells slots Q A a b H locs ls r1 r2 r3 r4 => ?_⟩
    have kk := kN.2 p ee R s m args below meth c cells slots Q A a b H locs ls r1 r2 r3 (VRs_cons VR_I (VRs_tl r4))
    rw [List.map_cons, show cv w (Sum.inr (Sum.inr (κ, t))) = Value.ref (wK w 0) from recS (Nat.eq_of_beq_eq_true hk1)]
    have hrm := a.2.2.2.2.2.2.1
    have hd5 := Nat.le_of_ble_eq_true hk3
    have hStr := a.2.2.2.2.2.2.2.2.1
    refine am_s (va_runV (As := []) (rest := r.map (cv w)) (mc := 0) (ms := 0) ⟨a.1, a.2.1, a.2.2.1, a.2.2.2.1, a.2.2.2.2.1⟩ (cJ0_length_8abf5_ w l) (cwV 0 a.2.2.2.2.1 (goodJV hl ww347 ww348 ww11 ww349) rfl rfl rfl (by decide +kernel) ⟨by show 1 + 1 ≤ R.frames; omega, by show 8 + (1 + 11) + 64 * 1 ≤ R.locals; omega⟩) ⟨PcS_blind, vk_recv hStr.1 (by decide) r1.2.2.1, fun U hU hW2 => ⟨rfl, StrW_to hStr r1.2.2.1 a.2.2.2.2.2.2.2.2.2.2 hU hW2⟩⟩ rfl rfl r2.1 rfl (lv_room (by rw [cats_map]; exact Nat.le_of_ble_eq_true hk2)) hd ⟨a.2.2.2.2.2.2.2.1.1, a.2.2.2.2.2.2.2.1.2⟩) kk
  next => cases h
theorem so_scha {idx : Nat} (hd : decode (cdB mid) pc = .ok (.invokevirtual idx, 3)) (hl : Cond.methodLink (yM mid).cls idx yJ0_charAt_5068e ∈ lw_good) : Snd w l hs mid pc (opSch 129 wTx (pc + 3)) := by
  intro C0 N0 d hC hN lv st S R' h
  unfold opSch at h
  split at h
  next i κ t r =>
    replace h := cond_some h
    obtain ⟨hk0, h⟩ := h
    replace h := gd_some h
    obtain ⟨hb0, h⟩ := h
    simp only [Bool.and_eq_true] at hk0
    obtain ⟨⟨hk1, hk2⟩, hk3⟩ := hk0
    have kN := hN _ _ _ _ _ h
    refine ⟨kN.1, fun p ee R s m args below meth c cells slots Q A a b H locs ls r1 r2 r3 r4 => ?_⟩
    have kk := kN.2 p ee R s m args below meth c cells slots Q A a b H locs ls r1 r2 r3 (VRs_cons VR_I (VRs_tl (VRs_tl r4)))
    rw [List.map_cons, List.map_cons, show cv w (Sum.inr (Sum.inr (κ, t))) = Value.ref (wK w 0) from recS (Nat.eq_of_beq_eq_true hk1)]
    obtain ⟨j, hj, rfl⟩ := vp_in_of (inb_vp hb0) (n := 129) (by decide)
    rw [show ix (nI j) = j from nI_clamp (by omega)] at kk
    have hrm := a.2.2.2.2.2.2.1
    have hd5 := Nat.le_of_ble_eq_true hk3
    have hStr := a.2.2.2.2.2.2.2.2.1
    refine am_s (va_runV (As := [.int (nI j)]) (rest := r.map (cv w)) (mc := 0) (ms := 0) ⟨a.1, a.2.1, a.2.2.1, a.2.2.2.1, a.2.2.2.2.1⟩ (cJ0_charAt_5068e_ w l hj) (cwV 1 a.2.2.2.2.1 (goodJV hl ww357 ww358 ww11 ww359) rfl rfl rfl (by decide +kernel) ⟨by show 3 + 1 ≤ R.frames; omega, by show 8 + (2 + 11) + 64 * 3 ≤ R.locals; omega⟩) ⟨PcS_blind, vk_recv hStr.1 (by decide) r1.2.2.1, fun U hU hW2 => ⟨rfl, StrW_to hStr r1.2.2.1 a.2.2.2.2.2.2.2.2.2.2 hU hW2⟩⟩ rfl rfl r2.1 rfl (lv_room (by rw [cats_map]; exact Nat.le_of_ble_eq_true hk2)) hd ⟨a.2.2.2.2.2.2.2.1.1, a.2.2.2.2.2.2.2.1.2⟩) kk
  next => cases h
end SOS
theorem so_astore_n {w : WT} {l : Launch} {hs : Bool} {mid pc : Nat} {i : Fin 4} (hd : decode (cdB mid) pc = .ok (.astore_n i, 1)) : Snd w l hs mid pc (opAst (i : Nat) (pc + 1)) := by
  intro C N d hC hN lv st S R' h
  unfold opAst at h
  split at h
  next κ t r =>
    cases hk0 : Nat.beq κ 99
    next =>
      rw [hk0] at h
      replace h := cond_some h
      obtain ⟨hk, h⟩ := h
      have k := hN _ _ _ _ _ h
      refine ⟨k.1, fun p e R s m args below meth c cells slots Q A a b H locs ls r1 r2 r3 r4 => ?_⟩
      have hlt := Nat.le_of_ble_eq_true hk
      rw [r2.2.2.1] at hlt
      obtain ⟨q, hq⟩ : ∃ q, cv w (vR κ t) = .ref q := by
        show ∃ q, (if κ = 40 then Value.ref (wsc w) else if κ = 30 then Value.ref (wK w 0) else Value.ref (wb w + t)) = .ref q
        split
        · exact ⟨_, rfl⟩
        · split <;> exact ⟨_, rfl⟩
      have kk := fun (ls' : Array Slot) h' => k.2 p e R s m args below meth c cells slots Q A a b H locs ls' r1 (r2.st1 (v := vR κ t) h') (VRs_ls1 r3 (VRs_hd r4)) (VRs_tl r4)
      rw [hq] at kk
      rw [List.map_cons, show cv w (Sum.inr (Sum.inr (κ, t))) = Value.ref q from hq]
      exact lv_astore_n a.1 a.2.1 hd rfl r2.has (by omega) rfl (fun ls' h' => kk ls' h')
    next => rw [hk0] at h; cases h
  next => cases h
