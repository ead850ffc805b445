/-! CONSTRUCTORS: all of it -/
def ws7 (w : WT) (t j : Nat) : va_W := [(wb w + t, .inr (7, [.ref (wb w + (t + 1)), .ref (wb w + (t + 16)), .ref (wb w + (t + 17)), .ref (wb w + (t + 27)), .ref (wb w + (t + 248)), .ref (wb w + (t + 469)), .ref (wb w + (t + 476)), .ref (wb w + (t + 480))]))] ++ blk w (t + 1) 15 ++ [(wb w + (t + 16), .inl (w.2.1.2.2.2.1, 4, (.inr (.inr (.inr (.inr (gR 4 (fun i => wb w + (t + 16 + 468 + 10 * i)) j)))))))] ++ blk w (t + 17) 10 ++ blk w (t + 27) 221 ++ blk w (t + 248) 221 ++ blk w (t + 469) 7 ++ blk w (t + 476) 4 ++ blk w (t + 480) 4 ++ blk w (t + 484) (10 * j)
theorem blk_len (w : WT) (t n : Nat) : (blk w t n).length = n := by
  unfold blk
  rw [List.length_map, List.length_range]
theorem ws7_len {w : WT} {t j : Nat} : (ws7 w t j).length = 484 + 10 * j := by
  unfold ws7
  simp only [List.length_append, blk_len, List.length_cons, List.length_nil]
theorem tx_484 : ∀ j : Fin 4, isTX (0 + 484 + 10 * j.1) = true ∧ K0 (0 + 484 + 10 * j.1) = 5 := by decide +kernel
set_option maxRecDepth 100000 in
theorem blk_X7 (w : WT) {t : Nat} (ht : t = 0) : blk w t 524 = ws7 w t 4 := by
  subst ht
  rw [show (524 : Nat) = 1 + (15 + (1 + (10 + (221 + (221 + (7 + (4 + (4 + 10 * 4)))))))) from rfl, blk_app, blk_app, blk_app, blk_app, blk_app, blk_app, blk_app, blk_app, blk_app]
  unfold ws7
  rw [gR_N]
  simp only [List.append_assoc]
  rfl
theorem wz2 : (Jvm.Cond.initialized "MeshedPages$Reader") ∈ lw_good := wt_1 (i := 2) (by decide +kernel) rfl
theorem wz4 : (Jvm.Cond.initialized "MeshedPages$Whole") ∈ lw_good := wt_1 (i := 4) (by decide +kernel) rfl
theorem wz8 : (Jvm.Cond.initialized "MeshedPages$Pairs") ∈ lw_good := wt_1 (i := 8) (by decide +kernel) rfl
theorem wz9 : (Jvm.Cond.initialized "MeshedPages$Cover") ∈ lw_good := wt_1 (i := 9) (by decide +kernel) rfl
theorem wz23 : (Jvm.Cond.methodLink "MeshedPages" (1 : Nat) ({ cls := "java/lang/Object", name := "<init>", desc := "()V" } : Jvm.MethodName)) ∈ lw_good := wt_1 (i := 23) (by decide +kernel) rfl
theorem wz26 : (Jvm.Cond.classLink "MeshedPages" (7 : Nat) "MeshedPages$Reader") ∈ lw_good := wt_1 (i := 26) (by decide +kernel) rfl
theorem wz27 : (Jvm.Cond.instantiable "MeshedPages$Reader" (11 : Nat)) ∈ lw_good := wt_1 (i := 27) (by decide +kernel) rfl
theorem wz29 : (Jvm.Cond.instanceMethod ({ cls := "MeshedPages$Reader", name := "<init>", desc := "()V" } : Jvm.MethodName)) ∈ lw_good := wt_1 (i := 29) (by decide +kernel) rfl
theorem wz30 : (Jvm.Cond.code ({ cls := "MeshedPages$Reader", name := "<init>", desc := "()V" } : Jvm.MethodName) prog_5_method_1_code (1 : Nat) (Option.none : Option Jvm.ClassFile.FieldType)) ∈ lw_good := wt_1 (i := 30) (by decide +kernel) rfl
theorem wz115 : (Jvm.Cond.classLink "MeshedPages" (16 : Nat) "MeshedPages$Text") ∈ lw_good := wt_1 (i := 115) (by decide +kernel) rfl
theorem wz118 : (Jvm.Cond.classLink "MeshedPages" (27 : Nat) "MeshedPages$Whole") ∈ lw_good := wt_1 (i := 118) (by decide +kernel) rfl
theorem wz119 : (Jvm.Cond.instantiable "MeshedPages$Whole" (6 : Nat)) ∈ lw_good := wt_1 (i := 119) (by decide +kernel) rfl
theorem wz121 : (Jvm.Cond.instanceMethod ({ cls := "MeshedPages$Whole", name := "<init>", desc := "()V" } : Jvm.MethodName)) ∈ lw_good := wt_1 (i := 121) (by decide +kernel) rfl
theorem wz122 : (Jvm.Cond.code ({ cls := "MeshedPages$Whole", name := "<init>", desc := "()V" } : Jvm.MethodName) prog_8_method_1_code (1 : Nat) (Option.none : Option Jvm.ClassFile.FieldType)) ∈ lw_good := wt_1 (i := 122) (by decide +kernel) rfl
theorem wz230 : (Jvm.Cond.classLink "MeshedPages" (37 : Nat) "MeshedPages$Pages") ∈ lw_good := wt_1 (i := 230) (by decide +kernel) rfl
theorem wz231 : (Jvm.Cond.methodLink "MeshedPages" (39 : Nat) ({ cls := "MeshedPages$Pages", name := "<init>", desc := "()V" } : Jvm.MethodName)) ∈ lw_good := wt_1 (i := 231) (by decide +kernel) rfl
theorem wz232 : (Jvm.Cond.classLink "MeshedPages" (44 : Nat) "MeshedPages$Pairs") ∈ lw_good := wt_1 (i := 232) (by decide +kernel) rfl
theorem wz233 : (Jvm.Cond.instantiable "MeshedPages$Pairs" (4 : Nat)) ∈ lw_good := wt_1 (i := 233) (by decide +kernel) rfl
theorem wz235 : (Jvm.Cond.instanceMethod ({ cls := "MeshedPages$Pairs", name := "<init>", desc := "()V" } : Jvm.MethodName)) ∈ lw_good := wt_1 (i := 235) (by decide +kernel) rfl
theorem wz236 : (Jvm.Cond.code ({ cls := "MeshedPages$Pairs", name := "<init>", desc := "()V" } : Jvm.MethodName) prog_4_method_1_code (1 : Nat) (Option.none : Option Jvm.ClassFile.FieldType)) ∈ lw_good := wt_1 (i := 236) (by decide +kernel) rfl
theorem wz251 : (Jvm.Cond.classLink "MeshedPages" (51 : Nat) "MeshedPages$Cover") ∈ lw_good := wt_2 (i := 11) (by decide +kernel) rfl
theorem wz252 : (Jvm.Cond.instantiable "MeshedPages$Cover" (6 : Nat)) ∈ lw_good := wt_2 (i := 12) (by decide +kernel) rfl
theorem wz254 : (Jvm.Cond.instanceMethod ({ cls := "MeshedPages$Cover", name := "<init>", desc := "()V" } : Jvm.MethodName)) ∈ lw_good := wt_2 (i := 14) (by decide +kernel) rfl
theorem wz255 : (Jvm.Cond.code ({ cls := "MeshedPages$Cover", name := "<init>", desc := "()V" } : Jvm.MethodName) prog_2_method_1_code (1 : Nat) (Option.none : Option Jvm.ClassFile.FieldType)) ∈ lw_good := wt_2 (i := 15) (by decide +kernel) rfl
theorem wz276 : (Jvm.Cond.fieldLink "MeshedPages" (10 : Nat) "MeshedPages" "reader" "LMeshedPages$Reader;") ∈ lw_good := wt_2 (i := 36) (by decide +kernel) rfl
theorem wz277 : (Jvm.Cond.fieldLink "MeshedPages" (18 : Nat) "MeshedPages" "texts" "[LMeshedPages$Text;") ∈ lw_good := wt_2 (i := 37) (by decide +kernel) rfl
theorem wz278 : (Jvm.Cond.fieldLink "MeshedPages" (23 : Nat) "MeshedPages" "lawless" "LMeshedPages$Text;") ∈ lw_good := wt_2 (i := 38) (by decide +kernel) rfl
theorem wz279 : (Jvm.Cond.fieldLink "MeshedPages" (30 : Nat) "MeshedPages" "now" "LMeshedPages$Whole;") ∈ lw_good := wt_2 (i := 39) (by decide +kernel) rfl
theorem wz280 : (Jvm.Cond.fieldLink "MeshedPages" (34 : Nat) "MeshedPages" "kept" "LMeshedPages$Whole;") ∈ lw_good := wt_2 (i := 40) (by decide +kernel) rfl
theorem wz281 : (Jvm.Cond.fieldLink "MeshedPages" (40 : Nat) "MeshedPages" "trial" "LMeshedPages$Pages;") ∈ lw_good := wt_2 (i := 41) (by decide +kernel) rfl
theorem wz282 : (Jvm.Cond.fieldLink "MeshedPages" (47 : Nat) "MeshedPages" "pairs" "LMeshedPages$Pairs;") ∈ lw_good := wt_2 (i := 42) (by decide +kernel) rfl
theorem wz283 : (Jvm.Cond.fieldLink "MeshedPages" (54 : Nat) "MeshedPages" "cover" "LMeshedPages$Cover;") ∈ lw_good := wt_2 (i := 43) (by decide +kernel) rfl
section LP7
variable {p : Program} {e : Jvm.Env} {R : Room} {s : State} {m : MethodId} {args : Array Value} {below : List Frame} {meth : Method} {c : Code} {Q : State → Prop} {A : Nat → Prop}
set_option maxHeartbeats 4000000 in
set_option maxRecDepth 100000 in
theorem lp_X7 {w : WT} (l : Launch) {t : Nat} (ht : t = 0) (hsz : s.heap.size = wb w + t + 1) (hx : p.tables.exec = Jvm.exec) (hb : c.code = cX7_init) (hml : c.maxLocals = 2) (hown : s.vm.findClass RX7 = some m.cls) (hts : ∀ w ∈ lw_good, w.before args s = true) (hK : va_K (wD w) vwCl (wty w) s) (hNW : NWs s) (hStr : StrW w A s s.heap) (hA : ∀ q : Nat, s.heap.size ≤ q → A q) (hfr : 2 ≤ R.frames) (hlo : 84 ≤ R.locals) (hce : 523 ≤ R.cells) (hsl : 38871 ≤ R.slots)
    (kk : ∀ (H : Heap) (locs : List Loc) (ls : Array Slot), va_P (wD w) vwCl (ws7 w t 4) H → va_D A (ws7 w t 4) → va_S A s.heap H locs → W p l e R s m args below meth c H locs (483 + 10 * 4) (35843 + 757 * 4) Q (F0 m 115 ls [])) : ∀ (n j : Nat), j + n = 4 → ∀ (H : Heap) (locs : List Loc) (ls : Array Slot), lv_has ls 2 [(1, .int (nI j)), (0, .ref (wb w + t))] → va_P (wD w) vwCl (ws7 w t j) H → va_D A (ws7 w t j) → va_S A s.heap H locs → W p l e R s m args below meth c H locs (483 + 10 * j) (35843 + 757 * j) Q (F0 m 91 ls []) := by
  intro n
  induction n with
  | zero =>
    intro j hj H locs ls hl hP hD hS
    have hj : j = 4 := hj
    subst hj
    refine lv_iload_n hx hb (show decode cX7_init 91 = .ok (.iload_n 1, 1) by decide +kernel) rfl (lv_at hl 0 rfl) ?_
    refine lv_iconst (v := 4) hx hb (show decode cX7_init 92 = .ok (.iconst 4, 1) by decide +kernel) (by decide) ?_
    exact lv_icmp_ge (tgt := 115) hx hb (show decode cX7_init 93 = .ok (.if_icmp .ge 22, 3) by decide +kernel) (by decide) (fun _ => kk H locs ls hP hD hS) (fun h => absurd (show (4 : Int32) ≤ nI 4 by decide) h)
  | succ n ih =>
    intro j hj H locs ls hl hP hD hS
    have hj3 : j < 4 := by omega
    have htx : isTX (t + 484 + 10 * j) = true := by rw [ht]; exact (tx_484 ⟨j, hj3⟩).1
    refine lv_iload_n hx hb (show decode cX7_init 91 = .ok (.iload_n 1, 1) by decide +kernel) rfl (lv_at hl 0 rfl) ?_
    refine lv_iconst (v := 4) hx hb (show decode cX7_init 92 = .ok (.iconst 4, 1) by decide +kernel) (by decide) ?_
    refine lv_icmp_ge (tgt := 115) hx hb (show decode cX7_init 93 = .ok (.if_icmp .ge 22, 3) by decide +kernel) (by decide) (fun h => absurd h (show ¬ (4 : Int32) ≤ nI j from nI_ge (b := 4) hj3 (by decide))) (fun _ => ?_)
    refine lv_aload_n hx hb (show decode cX7_init 96 = .ok (.aload_n 0, 1) by decide +kernel) rfl (lv_at hl 1 rfl) ?_
    refine va_get (D := wD w) (Ts := lw_good) (C := RX7) (T := TX7) (N := 8) (ci := 7) (v := .ref (wb w + (t + 16))) hx hb hts inX7g hown hK hP 0 rfl rfl 1 (by decide) (hts _ wz277) (fun _ h9 => h9) rfl (show decode cX7_init 97 = .ok (.getfield 18, 3) by decide +kernel) ?_
    refine lv_iload_n hx hb (show decode cX7_init 100 = .ok (.iload_n 1, 1) by decide +kernel) rfl (lv_at hl 0 rfl) ?_
    have hlow : s.heap.size + (483 + 10 * j) ≤ H.size := by
      rcases Nat.eq_zero_or_pos j with z | z
      · subst z
        have h9 : va_P (wD w) vwCl (([(wb w + t, .inr (7, [.ref (wb w + (t + 1)), .ref (wb w + (t + 16)), .ref (wb w + (t + 17)), .ref (wb w + (t + 27)), .ref (wb w + (t + 248)), .ref (wb w + (t + 469)), .ref (wb w + (t + 476)), .ref (wb w + (t + 480))]))] ++ blk w (t + 1) 15 ++ [(wb w + (t + 16), .inl (w.2.1.2.2.2.1, 4, (.inr (.inr (.inr (.inr (gR 4 (fun i => wb w + (t + 16 + 468 + 10 * i)) 0)))))))] ++ blk w (t + 17) 10 ++ blk w (t + 27) 221 ++ blk w (t + 248) 221 ++ blk w (t + 469) 7 ++ blk w (t + 476) 4) ++ blk w (t + 480) 4) H := by
          have h8 := hP
          unfold ws7 at h8
          rw [show blk w (t + 484) (10 * 0) = [] from rfl, List.append_nil] at h8
          exact h8
        have := blk_last h9 (by decide)
        omega
      · have := blk_last hP (show 0 < 10 * j by omega)
        omega
    refine W_size hlow (fun hz => ?_)
    refine vn_make (t := t + 484 + 10 * j) (n := 10) (mc := 9) (ms := 746) (ci := 5) (N := 11) (fs := [.int 0, .null, .null, .null, .null, .null, .int 0, .null, .null, .null, .null]) (C := RX5) (T := TX5) (y := yX5_init) (host := "MeshedPages") (dd := 1) (own := RX7) hx hb hml hl.1 hown hts hK hNW hStr hP hD hS hA (by omega) (show decode cX7_init 101 = .ok (.new 16, 3) by decide +kernel) (show decode cX7_init 104 = .ok (.dup, 1) by decide +kernel) (show decode cX7_init 105 = .ok (.invokespecial 22, 3) by decide +kernel) rfl inX5g tyX5 tyX5_ok (by decide) wz115 wz33 wz3 (ct_X5 w l (t + 484 + 10 * j) htx) (by decide +kernel) (Or.inr hNW.2.2.1) wz35 wz36 hfr hlo (by omega) (by omega) (Nat.le_of_ble_eq_true rfl) (fun H locs hP hD hS => ?_)
    have ei : (nI j).toNatClampNeg = j := ix_nI (by omega)
    have kp : K0 (t + 484 + 10 * j) = 5 := by rw [ht]; exact (tx_484 ⟨j, hj3⟩).2
    have hv : (ws7 w t j ++ blk w (t + 484 + 10 * j) 10)[484 + 10 * j]? = some (wb w + (t + 484 + 10 * j), .inr (5, flds (wb w) (t + 484 + 10 * j) S00 5)) := by
      rw [List.getElem?_append_right (by rw [ws7_len]; exact Nat.le_refl _), ws7_len, Nat.sub_self, blk_get (by omega)]
      show some (wb w + (t + 484 + 10 * j), encK w (K0 (t + 484 + 10 * j)) (t + 484 + 10 * j) S00) = _
      rw [kp, encK_8 (by decide)]
    refine va_astq hx hb hK hP hD hS 16 3 (484 + 10 * j) 5 (r := (RX5, TX5, 11)) rfl rfl hv rfl (inb_vp (inb_t hj3 (by decide))) (show decode cX7_init 108 = .ok (.aastore, 1) by decide +kernel) (fun H locs hP hD hS => ?_)
    have ews : (ws7 w t j ++ blk w (t + 484 + 10 * j) 10).set 16 (wb w + (t + 16), .inl (w.2.1.2.2.2.1, 4, .inr (.inr (.inr (.inr (va_up (gR 4 (fun i => wb w + (t + 16 + 468 + 10 * i)) j) (nI j).toNatClampNeg (some (wb w + (t + 484 + 10 * j))))))))) = ws7 w t (j + 1) := by
      rw [ei, show wb w + (t + 484 + 10 * j) = (fun i => wb w + (t + 16 + 468 + 10 * i)) j from rfl, gR_up hj3]
      unfold ws7
      rw [show 10 * (j + 1) = 10 * j + 10 by omega, blk_app, ← List.append_assoc]; rfl
    rw [ews] at hP hD
    refine lv_iinc (k := 0) (x := nI j) (v := nI (j + 1)) (lv' := [(1, .int (nI (j + 1))), (0, .ref (wb w + t))]) hx hb (show decode cX7_init 109 = .ok (.iinc 1 1, 3) by decide +kernel) hl rfl (show nI j + 1 = nI (j + 1) from nI_1 j) (by decide) rfl (fun ls hl => ?_)
    refine lv_goto (tgt := 91) hx hb (show decode cX7_init 112 = .ok (.goto (-21), 3) by decide +kernel) (by decide) ?_
    refine W.widen (k := 483 + 10 * (j + 1)) (n := 35843 + 757 * (j + 1)) (by omega) (by omega) ?_
    exact ih (j + 1) (by omega) H locs ls hl hP hD hS
end LP7
set_option maxHeartbeats 4000000 in
set_option maxRecDepth 100000 in
theorem ct_X7 (w : WT) (l : Launch) (t : Nat) (ht : t = 0) : Met l yX7_init (wsJ yX7_init cX7_init 2 none) (rmI 9 523 38871) (PcJ w t 7 [.null, .null, .null, .null, .null, .null, .null, .null]) (QcI w t 524) 523 38871 (fun q => wb w + t ≤ q) := by
  refine Met.ofW (cc := cX7_init) (maxL := 2) (ret := none) (by decide +kernel) rfl ?_
  intro p e s m args below meth c s₁ B hml hv
  obtain ⟨⟨rfl, hsz, hP, hK, hNW, hStr⟩, hAP, hAT⟩ := hv
  have hx := B.exec
  have hb := B.bytes
  have hr := B.returns
  have hlocks : meth.locks = false := B.notSynchronized
  have hown : s.vm.findClass RX7 = some m.cls := findClass_of_methodNamed B.named
  have hin : meth.name = "<init>" := (name_of_methodNamed B.named B.method).1
  have hts0 := atoms_spec (ws := wsJ yX7_init cX7_init 2 none) B.pre
  have hts : ∀ x ∈ lw_good, x.before ([.ref (wb w + t)] : List Value).toArray s = true := fun x hx => hts0 x (List.mem_cons_of_mem _ hx)
  generalize hAe : (fun q : Nat => wb w + t ≤ q) = A at hStr ⊢
  have hA : ∀ q : Nat, s.heap.size ≤ q → A q := fun q h => by rw [← hAe]; dsimp only; omega
  have hA0 : A (wb w + t) := by rw [← hAe]; exact Nat.le_refl _
  have hS : va_S A s.heap s.heap [] := va_S.rf
  have hD : va_D A ([(wb w + t, .inr (7, [.null, .null, .null, .null, .null, .null, .null, .null]))]) := ⟨fun i j p q hi hj _ => by
    have h1 := (List.getElem?_eq_some_iff.mp hi).1
    have h2 := (List.getElem?_eq_some_iff.mp hj).1
    simp only [List.length_cons, List.length_nil] at h1 h2
    omega, fun k q hk => by
    have h1 := (List.getElem?_eq_some_iff.mp hk).1
    simp only [List.length_cons, List.length_nil] at h1
    rw [show k = 0 by omega] at hk
    cases hk
    exact hA0⟩
  have hl := lv_entry ([.ref (wb w + t)]) (n := 2) (Nat.le_of_ble_eq_true rfl)
  rw [lg_entry_eq]
  generalize (lg_sl ([.ref (wb w + t)]) ++ List.replicate (2 - (lg_sl ([.ref (wb w + t)])).length) Slot.unset).toArray = ls at hl ⊢
  have hl : lv_has ls 2 [(0, .ref (wb w + t))] := hl
  generalize hH0 : s.heap = H at hP ⊢
  have hS : va_S A s.heap H [] := by
    have h9 := hS
    rw [hH0] at h9 ⊢
    exact h9
  refine lv_aload_n hx hb (show decode cX7_init 0 = .ok (.aload_n 0, 1) by decide +kernel) rfl (lv_at hl 0 rfl) ?_
  refine W.objInit hx hb hown (hts _ wz23) (hts _ wz24) (hts _ wz25) rfl (by rw [hml]; exact hl.1) rfl (show decode cX7_init 1 = .ok (.invokespecial 1, 3) by decide +kernel) (Nat.le_of_ble_eq_true rfl) (Nat.le_of_ble_eq_true rfl) ?_
  refine W.eq (g2 := F0 m 4 ls []) rfl ?_
  refine lv_aload_n hx hb (show decode cX7_init 4 = .ok (.aload_n 0, 1) by decide +kernel) rfl (lv_at hl 0 rfl) ?_
  have hlow : s.heap.size + 0 ≤ H.size := hS.1
  refine W_size hlow (fun hz => ?_)
  refine vn_make (t := t + 1) (n := 15) (mc := 14) (ms := 1957) (ci := 3) (N := 11) (fs := [.null, .int 0, .int 0, .int 0, .null, .null, .null, .int 0, .int 0, .int 0, .null]) (C := RX3) (T := TX3) (y := yX3_init) (host := "MeshedPages") (dd := 3) (own := RX7) hx hb hml hl.1 hown hts hK hNW hStr hP hD hS hA (by omega) (show decode cX7_init 5 = .ok (.new 7, 3) by decide +kernel) (show decode cX7_init 8 = .ok (.dup, 1) by decide +kernel) (show decode cX7_init 9 = .ok (.invokespecial 9, 3) by decide +kernel) rfl inX3g tyX3 tyX3_ok (by decide) wz26 wz27 wz2 (ct_X3 w l (t + 1) (show t + 1 = 1 by omega)) (by decide +kernel) (Or.inr hNW.1) wz29 wz30 (Nat.le_of_ble_eq_true rfl) (Nat.le_of_ble_eq_true rfl) (Nat.le_of_ble_eq_true rfl) (Nat.le_of_ble_eq_true rfl) (Nat.le_of_ble_eq_true rfl) (fun H locs hP hD hS => ?_)
  have hP : va_P (wD w) vwCl ([(wb w + t, .inr (7, [.null, .null, .null, .null, .null, .null, .null, .null]))] ++ blk w (t + 1) 15) H := hP
  have hD : va_D A ([(wb w + t, .inr (7, [.null, .null, .null, .null, .null, .null, .null, .null]))] ++ blk w (t + 1) 15) := hD
  clear hlow hz
  refine W.widen (k := 15) (n := 1968) (by omega) (by omega) ?_
  refine va_putF (D := wD w) (ci := 7) (v := .ref (wb w + (t + 1))) (ty := .object "MeshedPages$Reader") (C := RX7) (T := TX7) (N := 8) hx hb hts inX7g tyX7 tyX7_ok nmX7 hown hK hP hD hS 0 rfl rfl 0 (by decide) (hts _ wz276) (fun _ h9 => h9) rfl hin rfl (by decide +kernel) rfl rfl (Nat.le_of_ble_eq_true rfl) (show decode cX7_init 12 = .ok (.putfield 10, 3) by decide +kernel) (fun H locs hP hD hS => ?_)
  have hP : va_P (wD w) vwCl ([(wb w + t, .inr (7, [.ref (wb w + (t + 1)), .null, .null, .null, .null, .null, .null, .null]))] ++ blk w (t + 1) 15) H := hP
  have hD : va_D A ([(wb w + t, .inr (7, [.ref (wb w + (t + 1)), .null, .null, .null, .null, .null, .null, .null]))] ++ blk w (t + 1) 15) := hD
  refine lv_aload_n hx hb (show decode cX7_init 15 = .ok (.aload_n 0, 1) by decide +kernel) rfl (lv_at hl 0 rfl) ?_
  refine lv_iconst (v := 4) hx hb (show decode cX7_init 16 = .ok (.iconst 4, 1) by decide +kernel) (by decide) ?_
  have hlow : s.heap.size + 15 ≤ H.size := by have := blk_last hP (by decide); omega
  refine W_size hlow (fun hz => ?_)
  refine vn_newG (f := gR 4 (fun i => wb w + (t + 16 + 468 + 10 * i)) 0) (cA := w.2.1.2.2.2.1) (N' := 4) hx hb (fun j hj => gR_0 hj) hown (hts _ wz115) (va_AO.use hAT) hP hD hS hA (by obtain ⟨_, _, -, -, -, h4⟩ := (hK.2 3 _ rfl).2; exact h4) (by decide) (by decide) (by decide) (Nat.le_of_ble_eq_true rfl) (Nat.le_of_ble_eq_true rfl) (show decode cX7_init 17 = .ok (.anewarray 16, 3) by decide +kernel) (z := wb w + (t + 16)) (by omega) (fun H hP hD hS hz1 => ?_)
  have hP : va_P (wD w) vwCl ([(wb w + t, .inr (7, [.ref (wb w + (t + 1)), .null, .null, .null, .null, .null, .null, .null]))] ++ blk w (t + 1) 15 ++ [(wb w + (t + 16), .inl (w.2.1.2.2.2.1, 4, (.inr (.inr (.inr (.inr (gR 4 (fun i => wb w + (t + 16 + 468 + 10 * i)) 0)))))))]) H := hP
  have hD : va_D A ([(wb w + t, .inr (7, [.ref (wb w + (t + 1)), .null, .null, .null, .null, .null, .null, .null]))] ++ blk w (t + 1) 15 ++ [(wb w + (t + 16), .inl (w.2.1.2.2.2.1, 4, (.inr (.inr (.inr (.inr (gR 4 (fun i => wb w + (t + 16 + 468 + 10 * i)) 0)))))))]) := hD
  clear hlow hz hz1
  refine W.widen (k := 16) (n := 1972) (by omega) (by omega) ?_
  refine va_putF (D := wD w) (ci := 7) (v := .ref (wb w + (t + 16))) (ty := .array (.object "MeshedPages$Text")) (C := RX7) (T := TX7) (N := 8) hx hb hts inX7g tyX7 tyX7_ok nmX7 hown hK hP hD hS 0 rfl rfl 1 (by decide) (hts _ wz277) (fun _ h9 => h9) rfl hin rfl (by decide +kernel) rfl rfl (Nat.le_of_ble_eq_true rfl) (show decode cX7_init 20 = .ok (.putfield 18, 3) by decide +kernel) (fun H locs hP hD hS => ?_)
  have hP : va_P (wD w) vwCl ([(wb w + t, .inr (7, [.ref (wb w + (t + 1)), .ref (wb w + (t + 16)), .null, .null, .null, .null, .null, .null]))] ++ blk w (t + 1) 15 ++ [(wb w + (t + 16), .inl (w.2.1.2.2.2.1, 4, (.inr (.inr (.inr (.inr (gR 4 (fun i => wb w + (t + 16 + 468 + 10 * i)) 0)))))))]) H := hP
  have hD : va_D A ([(wb w + t, .inr (7, [.ref (wb w + (t + 1)), .ref (wb w + (t + 16)), .null, .null, .null, .null, .null, .null]))] ++ blk w (t + 1) 15 ++ [(wb w + (t + 16), .inl (w.2.1.2.2.2.1, 4, (.inr (.inr (.inr (.inr (gR 4 (fun i => wb w + (t + 16 + 468 + 10 * i)) 0)))))))]) := hD
  refine lv_aload_n hx hb (show decode cX7_init 23 = .ok (.aload_n 0, 1) by decide +kernel) rfl (lv_at hl 0 rfl) ?_
  have hlow : s.heap.size + 16 ≤ H.size := by have := seg_last hP; dsimp only at this; omega
  refine W_size hlow (fun hz => ?_)
  refine vn_make (t := t + 17) (n := 10) (mc := 9) (ms := 746) (ci := 5) (N := 11) (fs := [.int 0, .null, .null, .null, .null, .null, .int 0, .null, .null, .null, .null]) (C := RX5) (T := TX5) (y := yX5_init) (host := "MeshedPages") (dd := 1) (own := RX7) hx hb hml hl.1 hown hts hK hNW hStr hP hD hS hA (by omega) (show decode cX7_init 24 = .ok (.new 16, 3) by decide +kernel) (show decode cX7_init 27 = .ok (.dup, 1) by decide +kernel) (show decode cX7_init 28 = .ok (.invokespecial 22, 3) by decide +kernel) rfl inX5g tyX5 tyX5_ok (by decide) wz115 wz33 wz3 (ct_X5 w l (t + 17) (show isTX (t + 17) = true by rw [ht]; decide)) (by decide +kernel) (Or.inr hNW.2.2.1) wz35 wz36 (Nat.le_of_ble_eq_true rfl) (Nat.le_of_ble_eq_true rfl) (Nat.le_of_ble_eq_true rfl) (Nat.le_of_ble_eq_true rfl) (Nat.le_of_ble_eq_true rfl) (fun H locs hP hD hS => ?_)
  have hP : va_P (wD w) vwCl ([(wb w + t, .inr (7, [.ref (wb w + (t + 1)), .ref (wb w + (t + 16)), .null, .null, .null, .null, .null, .null]))] ++ blk w (t + 1) 15 ++ [(wb w + (t + 16), .inl (w.2.1.2.2.2.1, 4, (.inr (.inr (.inr (.inr (gR 4 (fun i => wb w + (t + 16 + 468 + 10 * i)) 0)))))))] ++ blk w (t + 17) 10) H := hP
  have hD : va_D A ([(wb w + t, .inr (7, [.ref (wb w + (t + 1)), .ref (wb w + (t + 16)), .null, .null, .null, .null, .null, .null]))] ++ blk w (t + 1) 15 ++ [(wb w + (t + 16), .inl (w.2.1.2.2.2.1, 4, (.inr (.inr (.inr (.inr (gR 4 (fun i => wb w + (t + 16 + 468 + 10 * i)) 0)))))))] ++ blk w (t + 17) 10) := hD
  clear hlow hz
  refine W.widen (k := 26) (n := 2729) (by omega) (by omega) ?_
  refine va_putF (D := wD w) (ci := 7) (v := .ref (wb w + (t + 17))) (ty := .object "MeshedPages$Text") (C := RX7) (T := TX7) (N := 8) hx hb hts inX7g tyX7 tyX7_ok nmX7 hown hK hP hD hS 0 rfl rfl 2 (by decide) (hts _ wz278) (fun _ h9 => h9) rfl hin rfl (by decide +kernel) rfl rfl (Nat.le_of_ble_eq_true rfl) (show decode cX7_init 31 = .ok (.putfield 23, 3) by decide +kernel) (fun H locs hP hD hS => ?_)
  have hP : va_P (wD w) vwCl ([(wb w + t, .inr (7, [.ref (wb w + (t + 1)), .ref (wb w + (t + 16)), .ref (wb w + (t + 17)), .null, .null, .null, .null, .null]))] ++ blk w (t + 1) 15 ++ [(wb w + (t + 16), .inl (w.2.1.2.2.2.1, 4, (.inr (.inr (.inr (.inr (gR 4 (fun i => wb w + (t + 16 + 468 + 10 * i)) 0)))))))] ++ blk w (t + 17) 10) H := hP
  have hD : va_D A ([(wb w + t, .inr (7, [.ref (wb w + (t + 1)), .ref (wb w + (t + 16)), .ref (wb w + (t + 17)), .null, .null, .null, .null, .null]))] ++ blk w (t + 1) 15 ++ [(wb w + (t + 16), .inl (w.2.1.2.2.2.1, 4, (.inr (.inr (.inr (.inr (gR 4 (fun i => wb w + (t + 16 + 468 + 10 * i)) 0)))))))] ++ blk w (t + 17) 10) := hD
  refine lv_aload_n hx hb (show decode cX7_init 34 = .ok (.aload_n 0, 1) by decide +kernel) rfl (lv_at hl 0 rfl) ?_
  have hlow : s.heap.size + 26 ≤ H.size := by have := blk_last hP (by decide); omega
  refine W_size hlow (fun hz => ?_)
  refine vn_makeJ (t := t + 27) (n := 221) (mc := 220) (ms := 14239) (ci := 6) (N := 6) (fs := [.null, .null, .null, .int 0, .int 0, .int 0]) (C := RX6) (T := TX6) (y := yX6_init) (host := "MeshedPages") (dd := 7) (own := RX7) hx hb hml hl.1 hown hts hK hNW hStr hAP hAT hP hD hS hA (by omega) (show decode cX7_init 35 = .ok (.new 27, 3) by decide +kernel) (show decode cX7_init 38 = .ok (.dup, 1) by decide +kernel) (show decode cX7_init 39 = .ok (.invokespecial 29, 3) by decide +kernel) rfl inX6g tyX6 tyX6_ok (by decide) wz118 wz119 wz4 (ct_X6 w l (t + 27) (show t + 27 = 27 ∨ t + 27 = 248 by omega)) (by decide +kernel) (Or.inr hNW.2.2.2.1) wz121 wz122 (Nat.le_of_ble_eq_true rfl) (Nat.le_of_ble_eq_true rfl) (Nat.le_of_ble_eq_true rfl) (Nat.le_of_ble_eq_true rfl) (Nat.le_of_ble_eq_true rfl) (fun H locs hP hD hS => ?_)
  have hP : va_P (wD w) vwCl ([(wb w + t, .inr (7, [.ref (wb w + (t + 1)), .ref (wb w + (t + 16)), .ref (wb w + (t + 17)), .null, .null, .null, .null, .null]))] ++ blk w (t + 1) 15 ++ [(wb w + (t + 16), .inl (w.2.1.2.2.2.1, 4, (.inr (.inr (.inr (.inr (gR 4 (fun i => wb w + (t + 16 + 468 + 10 * i)) 0)))))))] ++ blk w (t + 17) 10 ++ blk w (t + 27) 221) H := hP
  have hD : va_D A ([(wb w + t, .inr (7, [.ref (wb w + (t + 1)), .ref (wb w + (t + 16)), .ref (wb w + (t + 17)), .null, .null, .null, .null, .null]))] ++ blk w (t + 1) 15 ++ [(wb w + (t + 16), .inl (w.2.1.2.2.2.1, 4, (.inr (.inr (.inr (.inr (gR 4 (fun i => wb w + (t + 16 + 468 + 10 * i)) 0)))))))] ++ blk w (t + 17) 10 ++ blk w (t + 27) 221) := hD
  clear hlow hz
  refine W.widen (k := 247) (n := 16974) (by omega) (by omega) ?_
  refine va_putF (D := wD w) (ci := 7) (v := .ref (wb w + (t + 27))) (ty := .object "MeshedPages$Whole") (C := RX7) (T := TX7) (N := 8) hx hb hts inX7g tyX7 tyX7_ok nmX7 hown hK hP hD hS 0 rfl rfl 3 (by decide) (hts _ wz279) (fun _ h9 => h9) rfl hin rfl (by decide +kernel) rfl rfl (Nat.le_of_ble_eq_true rfl) (show decode cX7_init 42 = .ok (.putfield 30, 3) by decide +kernel) (fun H locs hP hD hS => ?_)
  have hP : va_P (wD w) vwCl ([(wb w + t, .inr (7, [.ref (wb w + (t + 1)), .ref (wb w + (t + 16)), .ref (wb w + (t + 17)), .ref (wb w + (t + 27)), .null, .null, .null, .null]))] ++ blk w (t + 1) 15 ++ [(wb w + (t + 16), .inl (w.2.1.2.2.2.1, 4, (.inr (.inr (.inr (.inr (gR 4 (fun i => wb w + (t + 16 + 468 + 10 * i)) 0)))))))] ++ blk w (t + 17) 10 ++ blk w (t + 27) 221) H := hP
  have hD : va_D A ([(wb w + t, .inr (7, [.ref (wb w + (t + 1)), .ref (wb w + (t + 16)), .ref (wb w + (t + 17)), .ref (wb w + (t + 27)), .null, .null, .null, .null]))] ++ blk w (t + 1) 15 ++ [(wb w + (t + 16), .inl (w.2.1.2.2.2.1, 4, (.inr (.inr (.inr (.inr (gR 4 (fun i => wb w + (t + 16 + 468 + 10 * i)) 0)))))))] ++ blk w (t + 17) 10 ++ blk w (t + 27) 221) := hD
  refine lv_aload_n hx hb (show decode cX7_init 45 = .ok (.aload_n 0, 1) by decide +kernel) rfl (lv_at hl 0 rfl) ?_
  have hlow : s.heap.size + 247 ≤ H.size := by have := blk_last hP (by decide); omega
  refine W_size hlow (fun hz => ?_)
  refine vn_makeJ (t := t + 248) (n := 221) (mc := 220) (ms := 14239) (ci := 6) (N := 6) (fs := [.null, .null, .null, .int 0, .int 0, .int 0]) (C := RX6) (T := TX6) (y := yX6_init) (host := "MeshedPages") (dd := 7) (own := RX7) hx hb hml hl.1 hown hts hK hNW hStr hAP hAT hP hD hS hA (by omega) (show decode cX7_init 46 = .ok (.new 27, 3) by decide +kernel) (show decode cX7_init 49 = .ok (.dup, 1) by decide +kernel) (show decode cX7_init 50 = .ok (.invokespecial 29, 3) by decide +kernel) rfl inX6g tyX6 tyX6_ok (by decide) wz118 wz119 wz4 (ct_X6 w l (t + 248) (show t + 248 = 27 ∨ t + 248 = 248 by omega)) (by decide +kernel) (Or.inr hNW.2.2.2.1) wz121 wz122 (Nat.le_of_ble_eq_true rfl) (Nat.le_of_ble_eq_true rfl) (Nat.le_of_ble_eq_true rfl) (Nat.le_of_ble_eq_true rfl) (Nat.le_of_ble_eq_true rfl) (fun H locs hP hD hS => ?_)
  have hP : va_P (wD w) vwCl ([(wb w + t, .inr (7, [.ref (wb w + (t + 1)), .ref (wb w + (t + 16)), .ref (wb w + (t + 17)), .ref (wb w + (t + 27)), .null, .null, .null, .null]))] ++ blk w (t + 1) 15 ++ [(wb w + (t + 16), .inl (w.2.1.2.2.2.1, 4, (.inr (.inr (.inr (.inr (gR 4 (fun i => wb w + (t + 16 + 468 + 10 * i)) 0)))))))] ++ blk w (t + 17) 10 ++ blk w (t + 27) 221 ++ blk w (t + 248) 221) H := hP
  have hD : va_D A ([(wb w + t, .inr (7, [.ref (wb w + (t + 1)), .ref (wb w + (t + 16)), .ref (wb w + (t + 17)), .ref (wb w + (t + 27)), .null, .null, .null, .null]))] ++ blk w (t + 1) 15 ++ [(wb w + (t + 16), .inl (w.2.1.2.2.2.1, 4, (.inr (.inr (.inr (.inr (gR 4 (fun i => wb w + (t + 16 + 468 + 10 * i)) 0)))))))] ++ blk w (t + 17) 10 ++ blk w (t + 27) 221 ++ blk w (t + 248) 221) := hD
  clear hlow hz
  refine W.widen (k := 468) (n := 31219) (by omega) (by omega) ?_
  refine va_putF (D := wD w) (ci := 7) (v := .ref (wb w + (t + 248))) (ty := .object "MeshedPages$Whole") (C := RX7) (T := TX7) (N := 8) hx hb hts inX7g tyX7 tyX7_ok nmX7 hown hK hP hD hS 0 rfl rfl 4 (by decide) (hts _ wz280) (fun _ h9 => h9) rfl hin rfl (by decide +kernel) rfl rfl (Nat.le_of_ble_eq_true rfl) (show decode cX7_init 53 = .ok (.putfield 34, 3) by decide +kernel) (fun H locs hP hD hS => ?_)
  have hP : va_P (wD w) vwCl ([(wb w + t, .inr (7, [.ref (wb w + (t + 1)), .ref (wb w + (t + 16)), .ref (wb w + (t + 17)), .ref (wb w + (t + 27)), .ref (wb w + (t + 248)), .null, .null, .null]))] ++ blk w (t + 1) 15 ++ [(wb w + (t + 16), .inl (w.2.1.2.2.2.1, 4, (.inr (.inr (.inr (.inr (gR 4 (fun i => wb w + (t + 16 + 468 + 10 * i)) 0)))))))] ++ blk w (t + 17) 10 ++ blk w (t + 27) 221 ++ blk w (t + 248) 221) H := hP
  have hD : va_D A ([(wb w + t, .inr (7, [.ref (wb w + (t + 1)), .ref (wb w + (t + 16)), .ref (wb w + (t + 17)), .ref (wb w + (t + 27)), .ref (wb w + (t + 248)), .null, .null, .null]))] ++ blk w (t + 1) 15 ++ [(wb w + (t + 16), .inl (w.2.1.2.2.2.1, 4, (.inr (.inr (.inr (.inr (gR 4 (fun i => wb w + (t + 16 + 468 + 10 * i)) 0)))))))] ++ blk w (t + 17) 10 ++ blk w (t + 27) 221 ++ blk w (t + 248) 221) := hD
  refine lv_aload_n hx hb (show decode cX7_init 56 = .ok (.aload_n 0, 1) by decide +kernel) rfl (lv_at hl 0 rfl) ?_
  have hlow : s.heap.size + 468 ≤ H.size := by have := blk_last hP (by decide); omega
  refine W_size hlow (fun hz => ?_)
  refine vn_make (t := t + 469) (n := 7) (mc := 6) (ms := 445) (ci := 1) (N := 13) (fs := [.int 0, .int 0, .int 0, .int 0, .int 0, .int 0, .int 0, .null, .null, .null, .null, .null, .null]) (C := RX1) (T := TX1) (y := yX1_init) (host := "") (dd := 3) (own := RX7) hx hb hml hl.1 hown hts hK hNW hStr hP hD hS hA (by omega) (show decode cX7_init 57 = .ok (.new 37, 3) by decide +kernel) (show decode cX7_init 60 = .ok (.dup, 1) by decide +kernel) (show decode cX7_init 61 = .ok (.invokespecial 39, 3) by decide +kernel) rfl inX1g tyX1 tyX1_ok (by decide) wz230 wz125 wz5 (ct_X1 w l (t + 469) (show isPG (t + 469) = true by rw [ht]; decide)) (by decide +kernel) (Or.inl wz231) wz127 wz128 (Nat.le_of_ble_eq_true rfl) (Nat.le_of_ble_eq_true rfl) (Nat.le_of_ble_eq_true rfl) (Nat.le_of_ble_eq_true rfl) (Nat.le_of_ble_eq_true rfl) (fun H locs hP hD hS => ?_)
  have hP : va_P (wD w) vwCl ([(wb w + t, .inr (7, [.ref (wb w + (t + 1)), .ref (wb w + (t + 16)), .ref (wb w + (t + 17)), .ref (wb w + (t + 27)), .ref (wb w + (t + 248)), .null, .null, .null]))] ++ blk w (t + 1) 15 ++ [(wb w + (t + 16), .inl (w.2.1.2.2.2.1, 4, (.inr (.inr (.inr (.inr (gR 4 (fun i => wb w + (t + 16 + 468 + 10 * i)) 0)))))))] ++ blk w (t + 17) 10 ++ blk w (t + 27) 221 ++ blk w (t + 248) 221 ++ blk w (t + 469) 7) H := hP
  have hD : va_D A ([(wb w + t, .inr (7, [.ref (wb w + (t + 1)), .ref (wb w + (t + 16)), .ref (wb w + (t + 17)), .ref (wb w + (t + 27)), .ref (wb w + (t + 248)), .null, .null, .null]))] ++ blk w (t + 1) 15 ++ [(wb w + (t + 16), .inl (w.2.1.2.2.2.1, 4, (.inr (.inr (.inr (.inr (gR 4 (fun i => wb w + (t + 16 + 468 + 10 * i)) 0)))))))] ++ blk w (t + 17) 10 ++ blk w (t + 27) 221 ++ blk w (t + 248) 221 ++ blk w (t + 469) 7) := hD
  clear hlow hz
  refine W.widen (k := 475) (n := 31677) (by omega) (by omega) ?_
  refine va_putF (D := wD w) (ci := 7) (v := .ref (wb w + (t + 469))) (ty := .object "MeshedPages$Pages") (C := RX7) (T := TX7) (N := 8) hx hb hts inX7g tyX7 tyX7_ok nmX7 hown hK hP hD hS 0 rfl rfl 5 (by decide) (hts _ wz281) (fun _ h9 => h9) rfl hin rfl (by decide +kernel) rfl rfl (Nat.le_of_ble_eq_true rfl) (show decode cX7_init 64 = .ok (.putfield 40, 3) by decide +kernel) (fun H locs hP hD hS => ?_)
  have hP : va_P (wD w) vwCl ([(wb w + t, .inr (7, [.ref (wb w + (t + 1)), .ref (wb w + (t + 16)), .ref (wb w + (t + 17)), .ref (wb w + (t + 27)), .ref (wb w + (t + 248)), .ref (wb w + (t + 469)), .null, .null]))] ++ blk w (t + 1) 15 ++ [(wb w + (t + 16), .inl (w.2.1.2.2.2.1, 4, (.inr (.inr (.inr (.inr (gR 4 (fun i => wb w + (t + 16 + 468 + 10 * i)) 0)))))))] ++ blk w (t + 17) 10 ++ blk w (t + 27) 221 ++ blk w (t + 248) 221 ++ blk w (t + 469) 7) H := hP
  have hD : va_D A ([(wb w + t, .inr (7, [.ref (wb w + (t + 1)), .ref (wb w + (t + 16)), .ref (wb w + (t + 17)), .ref (wb w + (t + 27)), .ref (wb w + (t + 248)), .ref (wb w + (t + 469)), .null, .null]))] ++ blk w (t + 1) 15 ++ [(wb w + (t + 16), .inl (w.2.1.2.2.2.1, 4, (.inr (.inr (.inr (.inr (gR 4 (fun i => wb w + (t + 16 + 468 + 10 * i)) 0)))))))] ++ blk w (t + 17) 10 ++ blk w (t + 27) 221 ++ blk w (t + 248) 221 ++ blk w (t + 469) 7) := hD
  refine lv_aload_n hx hb (show decode cX7_init 67 = .ok (.aload_n 0, 1) by decide +kernel) rfl (lv_at hl 0 rfl) ?_
  have hlow : s.heap.size + 475 ≤ H.size := by have := blk_last hP (by decide); omega
  refine W_size hlow (fun hz => ?_)
  refine vn_make (t := t + 476) (n := 4) (mc := 3) (ms := 4120) (ci := 2) (N := 4) (fs := [.int 0, .null, .null, .null]) (C := RX2) (T := TX2) (y := yX2_init) (host := "MeshedPages") (dd := 1) (own := RX7) hx hb hml hl.1 hown hts hK hNW hStr hP hD hS hA (by omega) (show decode cX7_init 68 = .ok (.new 44, 3) by decide +kernel) (show decode cX7_init 71 = .ok (.dup, 1) by decide +kernel) (show decode cX7_init 72 = .ok (.invokespecial 46, 3) by decide +kernel) rfl inX2g tyX2 tyX2_ok (by decide) wz232 wz233 wz8 (ct_X2 w l (t + 476) (show t + 476 = 476 by omega)) (by decide +kernel) (Or.inr hNW.2.2.2.2.1) wz235 wz236 (Nat.le_of_ble_eq_true rfl) (Nat.le_of_ble_eq_true rfl) (Nat.le_of_ble_eq_true rfl) (Nat.le_of_ble_eq_true rfl) (Nat.le_of_ble_eq_true rfl) (fun H locs hP hD hS => ?_)
  have hP : va_P (wD w) vwCl ([(wb w + t, .inr (7, [.ref (wb w + (t + 1)), .ref (wb w + (t + 16)), .ref (wb w + (t + 17)), .ref (wb w + (t + 27)), .ref (wb w + (t + 248)), .ref (wb w + (t + 469)), .null, .null]))] ++ blk w (t + 1) 15 ++ [(wb w + (t + 16), .inl (w.2.1.2.2.2.1, 4, (.inr (.inr (.inr (.inr (gR 4 (fun i => wb w + (t + 16 + 468 + 10 * i)) 0)))))))] ++ blk w (t + 17) 10 ++ blk w (t + 27) 221 ++ blk w (t + 248) 221 ++ blk w (t + 469) 7 ++ blk w (t + 476) 4) H := hP
  have hD : va_D A ([(wb w + t, .inr (7, [.ref (wb w + (t + 1)), .ref (wb w + (t + 16)), .ref (wb w + (t + 17)), .ref (wb w + (t + 27)), .ref (wb w + (t + 248)), .ref (wb w + (t + 469)), .null, .null]))] ++ blk w (t + 1) 15 ++ [(wb w + (t + 16), .inl (w.2.1.2.2.2.1, 4, (.inr (.inr (.inr (.inr (gR 4 (fun i => wb w + (t + 16 + 468 + 10 * i)) 0)))))))] ++ blk w (t + 17) 10 ++ blk w (t + 27) 221 ++ blk w (t + 248) 221 ++ blk w (t + 469) 7 ++ blk w (t + 476) 4) := hD
  clear hlow hz
  refine W.widen (k := 479) (n := 35801) (by omega) (by omega) ?_
  refine va_putF (D := wD w) (ci := 7) (v := .ref (wb w + (t + 476))) (ty := .object "MeshedPages$Pairs") (C := RX7) (T := TX7) (N := 8) hx hb hts inX7g tyX7 tyX7_ok nmX7 hown hK hP hD hS 0 rfl rfl 6 (by decide) (hts _ wz282) (fun _ h9 => h9) rfl hin rfl (by decide +kernel) rfl rfl (Nat.le_of_ble_eq_true rfl) (show decode cX7_init 75 = .ok (.putfield 47, 3) by decide +kernel) (fun H locs hP hD hS => ?_)
  have hP : va_P (wD w) vwCl ([(wb w + t, .inr (7, [.ref (wb w + (t + 1)), .ref (wb w + (t + 16)), .ref (wb w + (t + 17)), .ref (wb w + (t + 27)), .ref (wb w + (t + 248)), .ref (wb w + (t + 469)), .ref (wb w + (t + 476)), .null]))] ++ blk w (t + 1) 15 ++ [(wb w + (t + 16), .inl (w.2.1.2.2.2.1, 4, (.inr (.inr (.inr (.inr (gR 4 (fun i => wb w + (t + 16 + 468 + 10 * i)) 0)))))))] ++ blk w (t + 17) 10 ++ blk w (t + 27) 221 ++ blk w (t + 248) 221 ++ blk w (t + 469) 7 ++ blk w (t + 476) 4) H := hP
  have hD : va_D A ([(wb w + t, .inr (7, [.ref (wb w + (t + 1)), .ref (wb w + (t + 16)), .ref (wb w + (t + 17)), .ref (wb w + (t + 27)), .ref (wb w + (t + 248)), .ref (wb w + (t + 469)), .ref (wb w + (t + 476)), .null]))] ++ blk w (t + 1) 15 ++ [(wb w + (t + 16), .inl (w.2.1.2.2.2.1, 4, (.inr (.inr (.inr (.inr (gR 4 (fun i => wb w + (t + 16 + 468 + 10 * i)) 0)))))))] ++ blk w (t + 17) 10 ++ blk w (t + 27) 221 ++ blk w (t + 248) 221 ++ blk w (t + 469) 7 ++ blk w (t + 476) 4) := hD
  refine lv_aload_n hx hb (show decode cX7_init 78 = .ok (.aload_n 0, 1) by decide +kernel) rfl (lv_at hl 0 rfl) ?_
  have hlow : s.heap.size + 479 ≤ H.size := by have := blk_last hP (by decide); omega
  refine W_size hlow (fun hz => ?_)
  refine vn_make (t := t + 480) (n := 4) (mc := 3) (ms := 36) (ci := 0) (N := 6) (fs := [.int 0, .int 0, .int 0, .null, .null, .null]) (C := RX0) (T := TX0) (y := yX0_init) (host := "MeshedPages") (dd := 1) (own := RX7) hx hb hml hl.1 hown hts hK hNW hStr hP hD hS hA (by omega) (show decode cX7_init 79 = .ok (.new 51, 3) by decide +kernel) (show decode cX7_init 82 = .ok (.dup, 1) by decide +kernel) (show decode cX7_init 83 = .ok (.invokespecial 53, 3) by decide +kernel) rfl inX0g tyX0 tyX0_ok (by decide) wz251 wz252 wz9 (ct_X0 w l (t + 480) (show t + 480 = 480 by omega)) (by decide +kernel) (Or.inr hNW.2.2.2.2.2) wz254 wz255 (Nat.le_of_ble_eq_true rfl) (Nat.le_of_ble_eq_true rfl) (Nat.le_of_ble_eq_true rfl) (Nat.le_of_ble_eq_true rfl) (Nat.le_of_ble_eq_true rfl) (fun H locs hP hD hS => ?_)
  have hP : va_P (wD w) vwCl ([(wb w + t, .inr (7, [.ref (wb w + (t + 1)), .ref (wb w + (t + 16)), .ref (wb w + (t + 17)), .ref (wb w + (t + 27)), .ref (wb w + (t + 248)), .ref (wb w + (t + 469)), .ref (wb w + (t + 476)), .null]))] ++ blk w (t + 1) 15 ++ [(wb w + (t + 16), .inl (w.2.1.2.2.2.1, 4, (.inr (.inr (.inr (.inr (gR 4 (fun i => wb w + (t + 16 + 468 + 10 * i)) 0)))))))] ++ blk w (t + 17) 10 ++ blk w (t + 27) 221 ++ blk w (t + 248) 221 ++ blk w (t + 469) 7 ++ blk w (t + 476) 4 ++ blk w (t + 480) 4) H := hP
  have hD : va_D A ([(wb w + t, .inr (7, [.ref (wb w + (t + 1)), .ref (wb w + (t + 16)), .ref (wb w + (t + 17)), .ref (wb w + (t + 27)), .ref (wb w + (t + 248)), .ref (wb w + (t + 469)), .ref (wb w + (t + 476)), .null]))] ++ blk w (t + 1) 15 ++ [(wb w + (t + 16), .inl (w.2.1.2.2.2.1, 4, (.inr (.inr (.inr (.inr (gR 4 (fun i => wb w + (t + 16 + 468 + 10 * i)) 0)))))))] ++ blk w (t + 17) 10 ++ blk w (t + 27) 221 ++ blk w (t + 248) 221 ++ blk w (t + 469) 7 ++ blk w (t + 476) 4 ++ blk w (t + 480) 4) := hD
  clear hlow hz
  refine W.widen (k := 483) (n := 35843) (by omega) (by omega) ?_
  refine va_putF (D := wD w) (ci := 7) (v := .ref (wb w + (t + 480))) (ty := .object "MeshedPages$Cover") (C := RX7) (T := TX7) (N := 8) hx hb hts inX7g tyX7 tyX7_ok nmX7 hown hK hP hD hS 0 rfl rfl 7 (by decide) (hts _ wz283) (fun _ h9 => h9) rfl hin rfl (by decide +kernel) rfl rfl (Nat.le_of_ble_eq_true rfl) (show decode cX7_init 86 = .ok (.putfield 54, 3) by decide +kernel) (fun H locs hP hD hS => ?_)
  have hP : va_P (wD w) vwCl ([(wb w + t, .inr (7, [.ref (wb w + (t + 1)), .ref (wb w + (t + 16)), .ref (wb w + (t + 17)), .ref (wb w + (t + 27)), .ref (wb w + (t + 248)), .ref (wb w + (t + 469)), .ref (wb w + (t + 476)), .ref (wb w + (t + 480))]))] ++ blk w (t + 1) 15 ++ [(wb w + (t + 16), .inl (w.2.1.2.2.2.1, 4, (.inr (.inr (.inr (.inr (gR 4 (fun i => wb w + (t + 16 + 468 + 10 * i)) 0)))))))] ++ blk w (t + 17) 10 ++ blk w (t + 27) 221 ++ blk w (t + 248) 221 ++ blk w (t + 469) 7 ++ blk w (t + 476) 4 ++ blk w (t + 480) 4) H := hP
  have hD : va_D A ([(wb w + t, .inr (7, [.ref (wb w + (t + 1)), .ref (wb w + (t + 16)), .ref (wb w + (t + 17)), .ref (wb w + (t + 27)), .ref (wb w + (t + 248)), .ref (wb w + (t + 469)), .ref (wb w + (t + 476)), .ref (wb w + (t + 480))]))] ++ blk w (t + 1) 15 ++ [(wb w + (t + 16), .inl (w.2.1.2.2.2.1, 4, (.inr (.inr (.inr (.inr (gR 4 (fun i => wb w + (t + 16 + 468 + 10 * i)) 0)))))))] ++ blk w (t + 17) 10 ++ blk w (t + 27) 221 ++ blk w (t + 248) 221 ++ blk w (t + 469) 7 ++ blk w (t + 476) 4 ++ blk w (t + 480) 4) := hD
  refine lv_iconst (v := 0) hx hb (show decode cX7_init 89 = .ok (.iconst 0, 1) by decide +kernel) (by decide) ?_
  refine lv_istore_n (i := 1) (nL := 2) (lv' := [(1, .int (nI 0)), (0, .ref (wb w + t))]) hx hb (show decode cX7_init 90 = .ok (.istore_n 1, 1) by decide +kernel) rfl hl (by decide) rfl (fun ls hl => ?_)
  have hP : va_P (wD w) vwCl (ws7 w t 0) H := by
    unfold ws7
    rw [show blk w (t + 484) (10 * 0) = [] from rfl, List.append_nil]; exact hP
  have hD : va_D A (ws7 w t 0) := by
    unfold ws7
    rw [show blk w (t + 484) (10 * 0) = [] from rfl, List.append_nil]; exact hD
  refine lp_X7 l ht hsz hx hb hml hown hts hK hNW hStr hA (Nat.le_of_ble_eq_true rfl) (Nat.le_of_ble_eq_true rfl) (Nat.le_of_ble_eq_true rfl) (Nat.le_of_ble_eq_true rfl) (fun H locs ls hP hD hS => ?_) 4 0 rfl H locs ls hl hP hD hS
  have hF : va_P (wD w) vwCl (blk w t 524) H := by rw [blk_X7 w ht]; exact hP
  refine W.widen (k := 523) (n := 38871) (Nat.le_of_ble_eq_true rfl) (Nat.le_of_ble_eq_true rfl) ?_
  exact W.vret hx hb hr (fun u hu hW => ⟨rfl, by rw [hu]; exact hF, by rw [hAe]; exact hS.F hu⟩) (fun q hq => hS.2.2 q hq) (show decode cX7_init 115 = .ok (.return_, 1) by decide +kernel)
