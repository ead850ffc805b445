/-! CONSTRUCTORS: the world that they make -/
def kl : List Nat := [7, 3, 100300, 100300, 100300, 100300, 5, 100024, 100024, 100024, 100002, 100002, 100300, 100300, 100006, 100064, 20, 5, 100024, 100024, 100024, 100002, 100002, 100300, 100300, 100006, 100064, 6, 1, 100012, 100012, 100192, 100192, 100025, 100012, 4, 21, 1, 100012, 100012, 100192, 100192, 100025, 100012, 1, 100012, 100012, 100192, 100192, 100025, 100012, 1, 100012, 100012, 100192, 100192, 100025, 100012, 1, 100012, 100012, 100192, 100192, 100025, 100012, 1, 100012, 100012, 100192, 100192, 100025, 100012, 1, 100012, 100012, 100192, 100192, 100025, 100012, 1, 100012, 100012, 100192, 100192, 100025, 100012, 1, 100012, 100012, 100192, 100192, 100025, 100012, 1, 100012, 100012, 100192, 100192, 100025, 100012, 1, 100012, 100012, 100192, 100192, 100025, 100012, 1, 100012, 100012, 100192, 100192, 100025, 100012, 1, 100012, 100012, 100192, 100192, 100025, 100012, 1, 100012, 100012, 100192, 100192, 100025, 100012, 1, 100012, 100012, 100192, 100192, 100025, 100012, 1, 100012, 100012, 100192, 100192, 100025, 100012, 1, 100012, 100012, 100192, 100192, 100025, 100012, 1, 100012, 100012, 100192, 100192, 100025, 100012, 1, 100012, 100012, 100192, 100192, 100025, 100012, 1, 100012, 100012, 100192, 100192, 100025, 100012, 1, 100012, 100012, 100192, 100192, 100025, 100012, 1, 100012, 100012, 100192, 100192, 100025, 100012, 1, 100012, 100012, 100192, 100192, 100025, 100012, 1, 100012, 100012, 100192, 100192, 100025, 100012, 1, 100012, 100012, 100192, 100192, 100025, 100012, 1, 100012, 100012, 100192, 100192, 100025, 100012, 1, 100012, 100012, 100192, 100192, 100025, 100012, 1, 100012, 100012, 100192, 100192, 100025, 100012, 1, 100012, 100012, 100192, 100192, 100025, 100012, 1, 100012, 100012, 100192, 100192, 100025, 100012, 1, 100012, 100012, 100192, 100192, 100025, 100012, 100008, 6, 1, 100012, 100012, 100192, 100192, 100025, 100012, 4, 21, 1, 100012, 100012, 100192, 100192, 100025, 100012, 1, 100012, 100012, 100192, 100192, 100025, 100012, 1, 100012, 100012, 100192, 100192, 100025, 100012, 1, 100012, 100012, 100192, 100192, 100025, 100012, 1, 100012, 100012, 100192, 100192, 100025, 100012, 1, 100012, 100012, 100192, 100192, 100025, 100012, 1, 100012, 100012, 100192, 100192, 100025, 100012, 1, 100012, 100012, 100192, 100192, 100025, 100012, 1, 100012, 100012, 100192, 100192, 100025, 100012, 1, 100012, 100012, 100192, 100192, 100025, 100012, 1, 100012, 100012, 100192, 100192, 100025, 100012, 1, 100012, 100012, 100192, 100192, 100025, 100012, 1, 100012, 100012, 100192, 100192, 100025, 100012, 1, 100012, 100012, 100192, 100192, 100025, 100012, 1, 100012, 100012, 100192, 100192, 100025, 100012, 1, 100012, 100012, 100192, 100192, 100025, 100012, 1, 100012, 100012, 100192, 100192, 100025, 100012, 1, 100012, 100012, 100192, 100192, 100025, 100012, 1, 100012, 100012, 100192, 100192, 100025, 100012, 1, 100012, 100012, 100192, 100192, 100025, 100012, 1, 100012, 100012, 100192, 100192, 100025, 100012, 1, 100012, 100012, 100192, 100192, 100025, 100012, 1, 100012, 100012, 100192, 100192, 100025, 100012, 1, 100012, 100012, 100192, 100192, 100025, 100012, 1, 100012, 100012, 100192, 100192, 100025, 100012, 1, 100012, 100012, 100192, 100192, 100025, 100012, 1, 100012, 100012, 100192, 100192, 100025, 100012, 1, 100012, 100012, 100192, 100192, 100025, 100012, 1, 100012, 100012, 100192, 100192, 100025, 100012, 1, 100012, 100012, 100192, 100192, 100025, 100012, 100008, 1, 100012, 100012, 100192, 100192, 100025, 100012, 2, 100012, 100012, 104096, 0, 100012, 100012, 100012, 5, 100024, 100024, 100024, 100002, 100002, 100300, 100300, 100006, 100064, 5, 100024, 100024, 100024, 100002, 100002, 100300, 100300, 100006, 100064, 5, 100024, 100024, 100024, 100002, 100002, 100300, 100300, 100006, 100064, 5, 100024, 100024, 100024, 100002, 100002, 100300, 100300, 100006, 100064, 8, 113669, 113669, 102724, 100300, 100160, 100006, 300330, 200330, 100012, 200012, 100440, 100012, 104096, 104096, 104096, 100012]
def K0 (t : Nat) : Nat := kl.getD t 99
def isPG (t : Nat) : Bool := Nat.beq t 28 || Nat.beq t 249 || Nat.beq t 469 || (Nat.ble 37 t && Nat.ble t 246 && Nat.beq ((t - 37) % 7) 0) || (Nat.ble 258 t && Nat.ble t 467 && Nat.beq ((t - 258) % 7) 0)
def S0c (c i : Nat) : Int32 :=
  if isPG c = true then (match i with
    | 1 => 503
    | 3 => -1
    | 4 => -1
    | _ => 0)
  else if isPG (c - 1) = true then -1
  else if c = 1 then (match i with
    | 2 => -1
    | 3 => -1
    | 9 => -1
    | 10 => 6
    | _ => 0)
  else if c = 27 ∨ c = 248 then (if i = 5 then -1 else 0)
  else if c = 524 then (if i = 5 ∨ i = 6 then -1 else 0)
  else if c = 525 ∨ c = 526 then (if i = 5 then 503 else if i = 1 ∨ i = 7 ∨ i = 8 ∨ (11 ≤ i ∧ i < 23) then -1 else 0)
  else 0
def S00 : Mem := (S0c, fun _ _ => 0, (0, fun _ => 0))
def blk (w : WT) (t n : Nat) : va_W := (List.range n).map (fun k => (wb w + (t + k), encK w (K0 (t + k)) (t + k) S00))
theorem blk_app (w : WT) (t a b : Nat) : blk w t (a + b) = blk w t a ++ blk w (t + a) b := by
  unfold blk
  rw [List.range_add, List.map_append, List.map_map]
  congr 1
  apply List.map_congr_left
  intro k _
  show (wb w + (t + (a + k)), _) = (wb w + (t + a + k), _)
  rw [show t + (a + k) = t + a + k by omega]
theorem blk_1 (w : WT) (t : Nat) : blk w t 1 = [(wb w + t, encK w (K0 t) t S00)] := rfl
theorem blk_0 (w : WT) (t : Nat) : blk w t 0 = [] := rfl
theorem blk_at {w : WT} {t n k : Nat} {q : Nat × va_E} (h : (blk w t n)[k]? = some q) : k < n ∧ q = (wb w + (t + k), encK w (K0 (t + k)) (t + k) S00) := by
  unfold blk at h
  rw [List.getElem?_map] at h
  cases hr : (List.range n)[k]? with
  | none => rw [hr] at h; cases h
  | some j =>
    rw [hr] at h
    have hj := List.getElem?_eq_some_iff.mp hr
    obtain ⟨h1, h2⟩ := hj
    rw [List.length_range] at h1
    rw [List.getElem_range] at h2
    subst h2
    exact ⟨h1, (Option.some.inj h).symm⟩
theorem blk_get {w : WT} {t n k : Nat} (h : k < n) : (blk w t n)[k]? = some (wb w + (t + k), encK w (K0 (t + k)) (t + k) S00) := by
  unfold blk
  rw [List.getElem?_map, List.getElem?_range h]; rfl
theorem blk_D {w : WT} {t n : Nat} {A : Nat → Prop} (h : ∀ q, wb w + t ≤ q → A q) : va_D A (blk w t n) := by
  refine ⟨fun i j p q hi hj e => ?_, fun k q hk => ?_⟩
  · obtain ⟨-, rfl⟩ := blk_at hi
    obtain ⟨-, rfl⟩ := blk_at hj
    dsimp only at e
    omega
  · obtain ⟨-, rfl⟩ := blk_at hk
    exact h _ (by dsimp only; omega)

def NWs (U : State) : Prop := va_Nw (.methodLinkNest "MeshedPages" 9 yX3_init "MeshedPages") U ∧ va_Nw (.methodLinkNest "MeshedPages$Reader" 45 yX5_init "MeshedPages") U ∧ va_Nw (.methodLinkNest "MeshedPages" 22 yX5_init "MeshedPages") U ∧ va_Nw (.methodLinkNest "MeshedPages" 29 yX6_init "MeshedPages") U ∧ va_Nw (.methodLinkNest "MeshedPages" 46 yX2_init "MeshedPages") U ∧ va_Nw (.methodLinkNest "MeshedPages" 53 yX0_init "MeshedPages") U
theorem NWs.same {u U : State} (h : u.vm = U.vm) (z : NWs u) : NWs U := ⟨va_Nw.same rfl h z.1, va_Nw.same rfl h z.2.1, va_Nw.same rfl h z.2.2.1, va_Nw.same rfl h z.2.2.2.1, va_Nw.same rfl h z.2.2.2.2.1, va_Nw.same rfl h z.2.2.2.2.2⟩
theorem NWs.warm {s U : State} (hW : s.WarmedH U.vm) (z : NWs s) : NWs U := ⟨va_Nw.warmM hW z.1, va_Nw.warmM hW z.2.1, va_Nw.warmM hW z.2.2.1, va_Nw.warmM hW z.2.2.2.1, va_Nw.warmM hW z.2.2.2.2.1, va_Nw.warmM hW z.2.2.2.2.2⟩
theorem StrW_at {w : WT} {A B : Nat → Prop} {s U : State} {H : Heap} {locs : List Loc} (h : StrW w A s s.heap) (hS : va_S A s.heap H locs) (hA : ∀ q, B q → A q) (hU : U.heap = H) (hW : s.WarmedH U.vm) : StrW w B U U.heap := by
  refine ⟨?_, vk_R.warm hW h.2.1, va_Nw.warmM hW h.2.2.1, by rw [hU]; exact ((h.2.2.2.1.kept hS.2.1).narrow hA).moved hW.alike, by rw [hU]; exact ((h.2.2.2.2.kept hS.2.1).narrow hA).moved hW.alike⟩
  have h1 := (h.1.kept hS.2.1).narrow hA
  rw [hU]
  exact h1.moved hW.alike
theorem StrW_calling {w : WT} {A : Nat → Prop} {U : State} {g : JFrame} {mk : MethodId} {a : Array Value} (h6 : StrW w A U U.heap) : StrW w A (U.calling g mk a) (U.calling g mk a).heap := by
  refine ⟨?_, ?_, ?_, ?_, ?_⟩
  · exact vk_S.moved (u := U) (U := U.calling g mk a) (Vm.Alike.refl U.vm) h6.1
  · exact vk_R.same (u := U) (U := U.calling g mk a) rfl h6.2.1
  · exact va_Nw.same (u := U) (U := U.calling g mk a) rfl rfl h6.2.2.1
  · exact va_Z.moved (u := U) (U := U.calling g mk a) (Vm.Alike.refl U.vm) h6.2.2.2.1
  · exact va_Zq.moved (u := U) (U := U.calling g mk a) (Vm.Alike.refl U.vm) h6.2.2.2.2
def PcI (w : WT) (t ci : Nat) (fs : List Value) : Array Value → State → Prop := fun v U => v = ([.ref (wb w + t)] : List Value).toArray ∧ U.heap.size = wb w + t + 1 ∧ va_P (wD w) vwCl [(wb w + t, .inr (ci, fs))] U.heap ∧ va_K (wD w) vwCl (wty w) U ∧ NWs U ∧ StrW w (fun q => wb w + t ≤ q) U U.heap
def QcI (w : WT) (t n : Nat) : Array Value → State → Outcome → State → Prop := fun _ st oc u => oc = .returned none ∧ va_P (wD w) vwCl (blk w t n) u.heap ∧ va_F (fun q => wb w + t ≤ q) st u
def rmI (d mc ms : Nat) : Room := { frames := d, cells := mc, slots := ms, locals := 64 * d }
theorem PcI_blind {w : WT} {t ci : Nat} {fs : List Value} : FrameBlind (PcI w t ci fs) := by
  intro a U g mk h
  obtain ⟨h1, h2, h3, h4, h5, h6⟩ := h
  exact ⟨h1, h2, h3, va_K.moved (u := U) (U := U.calling g mk a) (Vm.Alike.refl U.vm) h4, NWs.same (u := U) (U := U.calling g mk a) rfl h5, StrW_calling h6⟩
section MK
variable {p : Program} {l : Launch} {e : Env} {R : Room} {s : State} {m : MethodId} {args : Array Value} {below : List Frame} {meth : Method} {c : Code} {H : Heap} {locs : List Loc} {cells slots : Nat} {Q : State → Prop}
variable {cc : ByteArray} {pc : Nat} {ls : Array Slot} {rest : List Value} {A : Nat → Prop} {ws : va_W}
theorem am_ctor {w : WT} {t n mc ms ci : Nat} {fs : List Value} {args1 : Array Value} {st0 : List Value} {H' : Heap} (hr : va_Run p l e R s m args below meth c H' locs cells slots mc ms (F0 m pc ls st0) rest (QcI w t n args1) (fun q => wb w + t ≤ q)) (hP : va_P (wD w) vwCl (ws ++ [(wb w + t, .inr (ci, fs))]) H') (hD : va_D A (ws ++ [(wb w + t, .inr (ci, fs))])) (hS : va_S A s.heap H' locs) (hA : ∀ q, wb w + t ≤ q → A q) (hlt : ∀ (k : Nat) (q : Nat × va_E), ws[k]? = some q → q.1 < wb w + t)
    (kk : ∀ (H1 : Heap) (locs1 : List Loc), va_P (wD w) vwCl (ws ++ blk w t n) H1 → va_D A (ws ++ blk w t n) → va_S A s.heap H1 locs1 → W p l e R s m args below meth c H1 locs1 (cells + mc) (slots + ms) Q (F0 m (pc + 3) ls rest)) : W p l e R s m args below meth c H' locs cells slots Q (F0 m pc ls st0) := by
  intro T hT X
  obtain ⟨v, st₀, u, T', L, h0, X', hL, e1, e2, ⟨hv, hp, hz, hk⟩, st⟩ := hr T hT X
  cases hv
  rw [h0] at hz hk
  have hPw : va_P (wD w) vwCl ws H' := fun k q hq => hP k q (by rw [List.getElem?_append_left (List.getElem?_eq_some_iff.mp hq).1]; exact hq)
  have hDw : va_D A ws := ⟨fun i j p q hi hj e => hD.1 i j p q (by rw [List.getElem?_append_left (List.getElem?_eq_some_iff.mp hi).1]; exact hi) (by rw [List.getElem?_append_left (List.getElem?_eq_some_iff.mp hj).1]; exact hj) e, fun k q hq => hD.2 k q (by rw [List.getElem?_append_left (List.getElem?_eq_some_iff.mp hq).1]; exact hq)⟩
  have hPw1 : va_P (wD w) vwCl ws T'.heap := hPw.kept (fun k q hq => by rw [e1]; exact hk q.1 ((hPw k q hq).lt) (by have := hlt k q hq; dsimp only; omega))
  obtain ⟨t2, a1, b1⟩ := kk T'.heap (locs ++ L) (hPw1.app (by rw [e1]; exact hp)) (va_D.app hDw (blk_D hA) (fun i j x y hx hy => by
      obtain ⟨-, rfl⟩ := blk_at hy
      have := hlt i x hx
      dsimp only
      omega)) ⟨Nat.le_trans hS.1 (by rw [e1]; exact hz), fun q h1 h2 => by rw [e1, hk q (Nat.lt_of_lt_of_le h1 hS.1) (fun z => h2 (hA q z))]; exact hS.2.1 q h1 h2, fun q hq => by
      rcases List.mem_append.mp hq with h | h
      · exact hS.2.2 q h
      · exact hA _ (hL q h)⟩ T' rfl X'
  exact ⟨t2, st t2 a1, b1⟩
/-- new, dup, <init> -/
theorem vn_make {w : WT} {t n mc ms ci N i1 i2 maxL dd nL : Nat} {fs : List Value} {C own host : String} {T : u_T} {y : MethodName} {bt : ByteArray} (hexec : p.tables.exec = Jvm.exec) (hb : c.code = cc) (hml : c.maxLocals = nL) (hls : ls.size = nL) (hown : s.vm.findClass own = some m.cls) (hts : ∀ w ∈ lw_good, w.before args s = true)
    (hK : va_K (wD w) vwCl (wty w) s) (hNW : NWs s) (hStr : StrW w A s s.heap) (hP : va_P (wD w) vwCl ws H) (hD : va_D A ws) (hS : va_S A s.heap H locs) (hA : ∀ q, s.heap.size ≤ q → A q) (hz : H.size = wb w + t)
    (hd1 : decode cc pc = .ok (.new i1, 3)) (hd2 : decode cc (pc + 3) = .ok (.dup, 1)) (hd3 : decode cc (pc + 4) = .ok (.invokespecial i2, 3))
    (hc : vwCl[ci]? = some (C, T, N)) (hin : ∀ w ∈ u_ws C T N, w ∈ lw_good) (ty : Nat → FieldType) (hty : ∀ k, k < N → parseFieldDescriptor (T k).2.2.1 = some (ty k)) (hfs : ∀ j, j < N → defaultValue (ty j) = vp_V fs j)
    (hcl : Cond.classLink own i1 C ∈ lw_good) (hinst : Cond.instantiable C N ∈ lw_good) (hini : Cond.initialized C ∈ lw_good)
    (hM : Met l y (wsJ y bt maxL none) (rmI dd mc ms) (PcI w t ci fs) (QcI w t n) mc ms (fun q => wb w + t ≤ q)) (hy : y.cls = C ∧ y.name = "<init>" ∧ y.cls ≠ "java/lang/invoke/MethodHandle" ∧ y.cls ≠ "java/lang/invoke/VarHandle" ∧ (parseMethodDescriptor y.desc).map (fun d => d.parameters.length) = some 0)
    (hlink : Cond.methodLink own i2 y ∈ lw_good ∨ va_Nw (.methodLinkNest own i2 y host) s) (hi : Cond.instanceMethod y ∈ lw_good) (hcode : Cond.code y bt maxL none ∈ lw_good)
    (hfr : dd + 1 ≤ R.frames) (hlo : 8 + (maxL + 11) + 64 * dd ≤ R.locals) (hcells : cells + 1 + mc ≤ R.cells) (hslots : slots + N + ms ≤ R.slots) (hst : (rest.map fun v => v.category).sum + 1 ≤ 8)
    (kk : ∀ (H1 : Heap) (locs1 : List Loc), va_P (wD w) vwCl (ws ++ blk w t n) H1 → va_D A (ws ++ blk w t n) → va_S A s.heap H1 locs1 → W p l e R s m args below meth c H1 locs1 (cells + 1 + mc) (slots + N + ms) Q (F0 m (pc + 7) ls (.ref (wb w + t) :: rest))) : W p l e R s m args below meth c H locs cells slots Q (F0 m pc ls rest) := by
  refine vn_new (Ts := lw_good) hexec hb hts hin ty hty hown (hts _ hcl) (hts _ hinst) (hts _ hini) hK hP hD hS hA hc hfs (by omega) (by omega) hd1 hz (fun H1 hP1 hD1 hS1 hz1 => ?_)
  have hlt : ∀ (k : Nat) (q : Nat × va_E), ws[k]? = some q → q.1 < wb w + t := fun k q hq => by have := (hP k q hq).lt; omega
  have hAt : ∀ q, wb w + t ≤ q → A q := fun q h => hA q (by have := hS.1; omega)
  refine lv_dup hexec hb hd2 rfl ?_
  have hlast : (ws ++ [(wb w + t, (.inr (ci, fs) : va_E))])[ws.length]? = some (wb w + t, .inr (ci, fs)) := by rw [List.getElem?_append_right (Nat.le_refl _), Nat.sub_self]; rfl
  have hpre : PreS s H1 (PcI w t ci fs) (.ref (wb w + t) :: []) := ⟨PcI_blind, fun U hU hW => ⟨rfl, by rw [hU, hz1], (by rw [hU]; intro k q hq; cases k with
    | zero => cases hq; exact hP1 ws.length _ hlast
    | succ k => simp at hq), va_K.moved hW.alike hK, NWs.warm hW hNW, StrW_at hStr hS1 hAt hU hW⟩⟩
  have hstk : 2 * (F0 m (pc + 4) ls (.ref (wb w + t) :: .ref (wb w + t) :: rest)).monitorRoom + ((.ref (wb w + t) :: rest : List Value).map fun v => v.category).sum ≤ 8 := lv_room (by rw [List.map_cons, List.sum_cons]; show 1 + _ ≤ 8; omega)
  have hrun : va_Run p l e R s m args below meth c H1 locs (cells + 1) (slots + N) mc ms (F0 m (pc + 4) ls (.ref (wb w + t) :: .ref (wb w + t) :: rest)) (.ref (wb w + t) :: rest) (QcI w t n ([Value.ref (wb w + t)] : List Value).toArray) (fun q => wb w + t ≤ q) := by
    obtain ⟨y1, y2, y3, y4, y5⟩ := hy
    rcases hlink with hl | hl
    · exact va_runI (As := []) ⟨hexec, hb, hml, hown, hts⟩ hM (cwI 0 hts (goodJ hcode) rfl rfl rfl (by rw [y1]; exact hts _ hini) (hts _ hl) (hts _ hi) y2 ⟨y3, y4, y5⟩ ⟨hfr, hlo⟩) hpre rfl rfl hls rfl hstk hd3 ⟨hcells, hslots⟩
    · exact va_runIN (As := []) ⟨hexec, hb, hml, hown, hts⟩ hM ⟨va_cnB 0 hts (goodJ hcode) rfl rfl rfl hl (by rw [y1]; exact hts _ hini) ⟨y3, y4, y5⟩ ⟨hfr, hlo⟩, y2, hts _ hi⟩ hpre rfl rfl hls rfl hstk hd3 ⟨hcells, hslots⟩
  exact am_ctor hrun hP1 hD1 hS1 hAt hlt kk
end MK
