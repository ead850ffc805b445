/-! SOUNDNESS of the ops that read and change the memory -/
theorem recK {w : WT} {hs : Bool} {κ t : Nat} (hv : VR w hs (vR κ t)) (h8 : κ ≤ 8) : t ∈ wL w ∧ wk w t = κ ∧ cv w (vR κ t) = .ref (wb w + t) := by
  obtain ⟨h1, h2⟩ := VR_in hv (by omega) (by omega) (by omega)
  exact ⟨h1, h2, cv_R (by omega) (by omega)⟩
theorem recA {w : WT} {hs : Bool} {κ t : Nat} (hv : VR w hs (vR κ t)) (h8 : 100000 ≤ κ) : t ∈ wL w ∧ wk w t = κ ∧ cv w (vR κ t) = .ref (wb w + t) := by
  obtain ⟨h1, h2⟩ := VR_in hv (by omega) (by omega) (by omega)
  exact ⟨h1, h2, cv_R (by omega) (by omega)⟩
theorem rec2 {w : WT} {hs : Bool} {κ t : Nat} (hv : VR w hs (vR κ t)) (h8 : κ = 20 ∨ κ = 21) : t ∈ wL w ∧ wk w t = κ ∧ cv w (vR κ t) = .ref (wb w + t) := by
  obtain ⟨h1, h2⟩ := VR_in hv (by omega) (by omega) (by omega)
  exact ⟨h1, h2, cv_R (by omega) (by omega)⟩
theorem kAI_le {κ : Nat} (h : kAI κ = true) : 100000 ≤ κ ∧ κ ≤ 199999 := by
  unfold kAI at h; rw [Bool.and_eq_true] at h; exact ⟨Nat.le_of_ble_eq_true h.1, Nat.le_of_ble_eq_true h.2⟩
theorem kAZ_le {κ : Nat} (h : kAZ κ = true) : 200000 ≤ κ ∧ κ ≤ 299999 := by
  unfold kAZ at h; rw [Bool.and_eq_true] at h; exact ⟨Nat.le_of_ble_eq_true h.1, Nat.le_of_ble_eq_true h.2⟩
theorem kAJ_le {κ : Nat} (h : kAJ κ = true) : 300000 ≤ κ ∧ κ ≤ 399999 := by
  unfold kAJ at h; rw [Bool.and_eq_true] at h; exact ⟨Nat.le_of_ble_eq_true h.1, Nat.le_of_ble_eq_true h.2⟩
theorem encK_8 {w : WT} {κ t : Nat} {S : Mem} (h : κ ≤ 8) : encK w κ t S = .inr (κ, flds (wb w) t S κ) := by unfold encK; rw [if_pos h]
theorem encK_20 {w : WT} {t : Nat} {S : Mem} : encK w 20 t S = .inl (w.2.1.2.2.2.1, 4, .inr (.inr (.inr (.inr (fun i => some (wb w + (t + 468 + 10 * i))))))) := by unfold encK; rw [if_neg (by omega), if_pos rfl]
theorem encK_21 {w : WT} {t : Nat} {S : Mem} : encK w 21 t S = .inl (w.2.1.2.2.2.2, 30, .inr (.inr (.inr (.inr (fun i => some (wb w + (t + 1 + 7 * i))))))) := by unfold encK; rw [if_neg (by omega), if_neg (by omega), if_pos rfl]
theorem encK_I {w : WT} {κ t : Nat} {S : Mem} (h : kAI κ = true) : encK w κ t S = .inl (w.2.1.1, κ - 100000, .inl (fun i => S.1 t i)) := by
  have := kAI_le h
  unfold encK; rw [if_neg (by omega), if_neg (by omega), if_neg (by omega), if_pos h]
theorem encK_Z {w : WT} {κ t : Nat} {S : Mem} (h : kAZ κ = true) : encK w κ t S = .inl (w.2.1.2.1, κ - 200000, .inl (fun i => S.1 t i)) := by
  have := kAZ_le h
  have h1 : ¬ kAI κ = true := fun q => by have := kAI_le q; omega
  unfold encK; rw [if_neg (by omega), if_neg (by omega), if_neg (by omega), if_neg h1, if_pos h]
theorem encK_J {w : WT} {κ t : Nat} {S : Mem} (h : kAJ κ = true) : encK w κ t S = .inl (w.2.1.2.2.1, κ - 300000, .inr (.inl (fun i => S.2.1 t i))) := by
  have := kAJ_le h
  have h1 : ¬ kAI κ = true := fun q => by have := kAI_le q; omega
  have h2 : ¬ kAZ κ = true := fun q => by have := kAZ_le q; omega
  unfold encK; rw [if_neg (by omega), if_neg (by omega), if_neg (by omega), if_neg h1, if_neg h2]
theorem flds_get {b0 t ci k : Nat} {S : Mem} {f : Nat × Nat × Nat} (h : (fdl ci)[k]? = some f) : (flds b0 t S ci)[k]? = some (fvl b0 t S k f) := by
  have hk := (List.getElem?_eq_some_iff.mp h).1
  unfold flds
  rw [List.getElem?_map, List.getElem?_range hk]
  simp [List.getD_eq_getElem?_getD, h]
theorem flds_len {b0 t ci : Nat} {S : Mem} : (flds b0 t S ci).length = (fdl ci).length := by simp [flds]
theorem flds_set {b0 t ci k : Nat} {S S' : Mem} {f : Nat × Nat × Nat} (h : (fdl ci)[k]? = some f) (h1 : ∀ j, j ≠ k → rdI S' t j = rdI S t j) (h2 : ∀ j, j ≠ k → rdJ S' t j = rdJ S t j) : flds b0 t S' ci = (flds b0 t S ci).set k (fvl b0 t S' k f) := by
  have hk := (List.getElem?_eq_some_iff.mp h).1
  apply List.ext_getElem?
  intro j
  by_cases hj : j = k
  · subst hj
    rw [List.getElem?_set_self (by rw [flds_len]; exact hk), flds_get h]
  · rw [List.getElem?_set_ne (Ne.symm hj)]
    cases hf : (fdl ci)[j]? with
    | none =>
      have hz : (fdl ci).length ≤ j := List.getElem?_eq_none_iff.mp hf
      rw [List.getElem?_eq_none (by rw [flds_len]; exact hz), List.getElem?_eq_none (by rw [flds_len]; exact hz)]
    | some g =>
      rw [flds_get hf, flds_get hf]
      unfold fvl
      rw [h1 j hj, h2 j hj]
theorem flds_congr {b0 t ci : Nat} {S S' : Mem} (h1 : ∀ j, S'.1 t j = S.1 t j) (h2 : ∀ j, S'.2.1 t j = S.2.1 t j) : flds b0 t S' ci = flds b0 t S ci := by
  unfold flds fvl rdI rdJ
  simp only [h1, h2]
theorem encK_congr {w : WT} {κ t : Nat} {S S' : Mem} (h1 : ∀ j, S'.1 t j = S.1 t j) (h2 : ∀ j, S'.2.1 t j = S.2.1 t j) : encK w κ t S' = encK w κ t S := by
  unfold encK
  rw [flds_congr h1 h2]
  simp only [h1, h2]
theorem RHs_upd {w : WT} {hs : Bool} {A : Nat → Prop} {s : State} {S S' : Mem} {H H1 : Heap} {locs locs1 : List Loc} {t q : Nat} {e0 : va_E} (hr : RHs w hs A s S H locs) (hw : WOK w) (hq : (WL w S)[q]? = some (wb w + t, e0)) (ho : ∀ t', t' ≠ t → (∀ i, S'.1 t' i = S.1 t' i) ∧ (∀ i, S'.2.1 t' i = S.2.1 t' i)) (h2 : S'.2.2 = S.2.2) (hsi : SInv w S')
    (p1 : va_P (wD w) vwCl ((WL w S).set q (wb w + t, encK w (wk w t) t S')) H1) (p2 : va_D A ((WL w S).set q (wb w + t, encK w (wk w t) t S'))) (p3 : va_S A s.heap H1 locs1) : RHs w hs A s S' H1 locs1 := by
  have e := WL_set (S := S) (S' := S') hw.1 hq (fun t' _ hne => encK_congr (ho t' hne).1 (ho t' hne).2)
  rw [e] at p1 p2
  exact ⟨p1, p2, p3, hsi, fun z => by rw [h2]; exact hr.2.2.2.2 z⟩
theorem SInv_w {w : WT} {S : Mem} {t k : Nat} {x : Int32} (h : SInv w S) (h3 : ¬ (wk w t = 3 ∧ k = 10)) : SInv w (wrI S t k x) := by
  intro t' ht' hk
  have e : rdI (wrI S t k x) t' 10 = rdI S t' 10 := by
    unfold rdI wrI
    dsimp only
    rw [if_neg]
    rintro ⟨rfl, rfl⟩
    exact h3 ⟨hk, rfl⟩
  rw [e]; exact h t' ht' hk
theorem inb_vp {i : Int32} {n : Nat} (h : inb i n = true) : vp_in i n := by
  unfold inb at h
  rw [Bool.and_eq_true] at h
  exact vp_in_iff.mpr ⟨of_decide_eq_true h.1, of_decide_eq_true h.2⟩
theorem gd_some {α : Type} {b : Bool} {o : Option α} {r : α} (h : gd b o = some r) : b = true ∧ o = some r := by
  cases b
  · cases h
  · exact ⟨rfl, h⟩
theorem cond_some {α : Type} {b : Bool} {o : Option α} {r : α} (h : cond b o none = some r) : b = true ∧ o = some r := by
  cases b
  · cases h
  · exact ⟨rfl, h⟩
theorem isZ_or {x : Int32} (h : isZ x = true) : x = 0 ∨ x = 1 := by
  unfold isZ at h; rw [Bool.or_eq_true] at h
  rcases h with h | h
  · exact Or.inl (of_decide_eq_true h)
  · exact Or.inr (of_decide_eq_true h)
theorem cats_map8 {w : WT} {r : List AV} : ((r.map (cv w)).map fun v => v.category).sum = catS r := by
  induction r with
  | nil => rfl
  | cons v r ih => rw [List.map_cons, List.map_cons, List.sum_cons, ih, catV_cv]; rfl
section SOM
variable {w : WT} {l : Launch} {hs : Bool} {mid pc : Nat}
theorem so_getI {C : String} {T : u_T} {ci k N idx : Nat}   (hd : decode (cdB mid) pc = .ok (.getfield idx, 3)) (hci : ci ≤ 8) (hc : vwCl[ci]? = some (C, T, N)) (hin : ∀ w ∈ u_ws C T N, w ∈ lw_good) (hk : k < N) (hdc : (T k).1 = C) (hlink : Cond.fieldLink (yM mid).cls idx C (T k).2.1 (T k).2.2.1 ∈ lw_good) (hf : (fdl ci)[k]? = some (0, 0, 0)) : Snd w l hs mid pc (opGI ci k (pc + 3)) := by
  intro C0 N0 d hC hN lv st S R' h
  unfold opGI at h
  split at h
  next κ t r =>
    replace h := cond_some h
    obtain ⟨hk0, h⟩ := h
    
    have hκ : κ = ci := Nat.eq_of_beq_eq_true hk0
    subst hκ
    have k := hN _ _ _ _ _ h
    refine ⟨k.1, fun p e R s m args below meth c cells slots Q A a b H locs ls r1 r2 r3 r4 => ?_⟩
    obtain ⟨ht, hkt, hcv⟩ := recK (VRs_hd r4) hci
    obtain ⟨q, hq⟩ := WL_get (S := S) ht
    rw [hkt, encK_8 hci] at hq
    have kk := k.2 p e R s m args below meth c cells slots Q A a b H locs ls r1 r2 r3 (VRs_cons VR_I (VRs_tl r4))
    rw [List.map_cons] at kk ⊢
    rw [show cv w (Sum.inr (Sum.inr (κ, t))) = Value.ref (wb w + t) from hcv]
    exact va_get a.1 a.2.1 (Ts := lw_good) a.2.2.2.2.1 hin a.2.2.2.1 a.2.2.2.2.2.1 r1.1 q hq hc _ hk (a.2.2.2.2.1 _ hlink) (fun x hx => hdc ▸ hx) (v := .int (rdI S t _)) (flds_get hf) hd kk
  next => cases h
theorem so_getJ {C : String} {T : u_T} {ci k N idx : Nat}   (hd : decode (cdB mid) pc = .ok (.getfield idx, 3)) (hci : ci ≤ 8) (hc : vwCl[ci]? = some (C, T, N)) (hin : ∀ w ∈ u_ws C T N, w ∈ lw_good) (hk : k < N) (hdc : (T k).1 = C) (hlink : Cond.fieldLink (yM mid).cls idx C (T k).2.1 (T k).2.2.1 ∈ lw_good) (hf : (fdl ci)[k]? = some (1, 0, 0)) : Snd w l hs mid pc (opGJ ci k (pc + 3)) := by
  intro C0 N0 d hC hN lv st S R' h
  unfold opGJ at h
  split at h
  next κ t r =>
    replace h := cond_some h
    obtain ⟨hk0, h⟩ := h
    
    have hκ : κ = ci := Nat.eq_of_beq_eq_true hk0
    subst hκ
    have k := hN _ _ _ _ _ h
    refine ⟨k.1, fun p e R s m args below meth c cells slots Q A a b H locs ls r1 r2 r3 r4 => ?_⟩
    obtain ⟨ht, hkt, hcv⟩ := recK (VRs_hd r4) hci
    obtain ⟨q, hq⟩ := WL_get (S := S) ht
    rw [hkt, encK_8 hci] at hq
    have kk := k.2 p e R s m args below meth c cells slots Q A a b H locs ls r1 r2 r3 (VRs_cons VR_L (VRs_tl r4))
    rw [List.map_cons] at kk ⊢
    rw [show cv w (Sum.inr (Sum.inr (κ, t))) = Value.ref (wb w + t) from hcv]
    exact va_get a.1 a.2.1 (Ts := lw_good) a.2.2.2.2.1 hin a.2.2.2.1 a.2.2.2.2.2.1 r1.1 q hq hc _ hk (a.2.2.2.2.1 _ hlink) (fun x hx => hdc ▸ hx) (v := .long (rdJ S t _)) (flds_get hf) hd kk
  next => cases h
theorem so_getR {C : String} {T : u_T} {ci k N idx : Nat}  {off : Nat} {κ' : Nat}  (hd : decode (cdB mid) pc = .ok (.getfield idx, 3)) (hci : ci ≤ 8) (hc : vwCl[ci]? = some (C, T, N)) (hin : ∀ w ∈ u_ws C T N, w ∈ lw_good) (hk : k < N) (hdc : (T k).1 = C) (hlink : Cond.fieldLink (yM mid).cls idx C (T k).2.1 (T k).2.2.1 ∈ lw_good) (hk' : κ' ≠ 40 ∧ κ' ≠ 30) (hf : (fdl ci)[k]? = some (2, off, κ')) : Snd w l hs mid pc (opGR ci k off κ' (pc + 3)) := by
  intro C0 N0 d hC hN lv st S R' h
  unfold opGR at h
  split at h
  next κ t r =>
    replace h := cond_some h
    obtain ⟨hk0, h⟩ := h
    rw [Bool.and_eq_true] at hk0
    have hκ : κ = ci := Nat.eq_of_beq_eq_true hk0.1
    subst hκ
    have k := hN _ _ _ _ _ h
    refine ⟨k.1, fun p e R s m args below meth c cells slots Q A a b H locs ls r1 r2 r3 r4 => ?_⟩
    obtain ⟨ht, hkt, hcv⟩ := recK (VRs_hd r4) hci
    obtain ⟨q, hq⟩ := WL_get (S := S) ht
    rw [hkt, encK_8 hci] at hq
    have kk := k.2 p e R s m args below meth c cells slots Q A a b H locs ls r1 r2 r3 (VRs_cons (Or.inr (Or.inr (Or.inr (a.2.2.2.2.2.2.2.2.2.1.2.2.1 t ht _ _ _ (hkt ▸ hf))))) (VRs_tl r4))
    rw [List.map_cons, cv_R hk'.1 hk'.2] at kk
    rw [List.map_cons]
    rw [show cv w (Sum.inr (Sum.inr (κ, t))) = Value.ref (wb w + t) from hcv]
    exact va_get a.1 a.2.1 (Ts := lw_good) a.2.2.2.2.1 hin a.2.2.2.1 a.2.2.2.2.2.1 r1.1 q hq hc _ hk (a.2.2.2.2.1 _ hlink) (fun x hx => hdc ▸ hx) (v := .ref (wb w + (t + off))) (flds_get hf) hd kk
  next => cases h
theorem so_getX {C : String} {T : u_T} {ci k N idx : Nat}  {κ' : Nat}  (hd : decode (cdB mid) pc = .ok (.getfield idx, 3)) (hci : ci ≤ 8) (hc : vwCl[ci]? = some (C, T, N)) (hin : ∀ w ∈ u_ws C T N, w ∈ lw_good) (hk : k < N) (hdc : (T k).1 = C) (hlink : Cond.fieldLink (yM mid).cls idx C (T k).2.1 (T k).2.2.1 ∈ lw_good) (hx : ci = 3 ∧ k = 10 ∧ κ' = 5) (hf : (fdl ci)[k]? = some (3, 0, κ')) : Snd w l hs mid pc (opGX ci k κ' (pc + 3)) := by
  intro C0 N0 d hC hN lv st S R' h
  unfold opGX at h
  split at h
  next κ t r =>
    replace h := cond_some h
    obtain ⟨hk0, h⟩ := h
    
    have hκ : κ = ci := Nat.eq_of_beq_eq_true hk0
    subst hκ
    have k := hN _ _ _ _ _ h
    refine ⟨k.1, fun p e R s m args below meth c cells slots Q A a b H locs ls r1 r2 r3 r4 => ?_⟩
    obtain ⟨ht, hkt, hcv⟩ := recK (VRs_hd r4) hci
    obtain ⟨q, hq⟩ := WL_get (S := S) ht
    rw [hkt, encK_8 hci] at hq
    have kk := k.2 p e R s m args below meth c cells slots Q A a b H locs ls r1 r2 r3 (VRs_cons (by obtain ⟨e1, e2, e3⟩ := hx; subst e2; subst e3; exact Or.inr (Or.inr (Or.inr (r1.2.2.2.1 t ht (hkt.trans e1))))) (VRs_tl r4))
    rw [List.map_cons, cv_R (by obtain ⟨-, -, e3⟩ := hx; omega) (by obtain ⟨-, -, e3⟩ := hx; omega)] at kk
    rw [List.map_cons]
    rw [show cv w (Sum.inr (Sum.inr (κ, t))) = Value.ref (wb w + t) from hcv]
    exact va_get a.1 a.2.1 (Ts := lw_good) a.2.2.2.2.1 hin a.2.2.2.1 a.2.2.2.2.2.1 r1.1 q hq hc _ hk (a.2.2.2.2.1 _ hlink) (fun x hx => hdc ▸ hx) (v := .ref (wb w + ix (rdI S t _))) (flds_get hf) hd kk
  next => cases h
theorem so_putI {C : String} {T : u_T} {ci k N idx : Nat} (hd : decode (cdB mid) pc = .ok (.putfield idx, 3)) (hci : ci ≤ 8) (hc : vwCl[ci]? = some (C, T, N)) (hin : ∀ w ∈ u_ws C T N, w ∈ lw_good) (hk : k < N) (hdc : (T k).1 = C) (hlink : Cond.fieldLink (yM mid).cls idx C (T k).2.1 (T k).2.2.1 ∈ lw_good) (ty : Nat → FieldType) (hty : ∀ k, k < N → parseFieldDescriptor (T k).2.2.1 = some (ty k)) (hnm : ∀ a, a < N → ∀ b, b < N → a ≠ b → (T a).2.1 ≠ (T b).2.1) (hfin : (T k).2.2.2 = false) (hd2 : parseFieldDescriptor (T k).2.2.1 = some .int) (hf : (fdl ci)[k]? = some (0, 0, 0)) : Snd w l hs mid pc (opPI ci k (pc + 3)) := by
  intro C0 N0 d hC hN lv st S R' h
  unfold opPI at h
  split at h
  next x κ t r =>
    replace h := cond_some h
    obtain ⟨hk0, h⟩ := h
    have hκ : κ = ci := Nat.eq_of_beq_eq_true hk0
    subst hκ
    have kN := hN _ _ _ _ _ h
    refine ⟨kN.1, fun p ee R s m args below meth c cells slots Q A a b H locs ls r1 r2 r3 r4 => ?_⟩
    obtain ⟨ht, hkt, hcv⟩ := recK (VRs_hd (VRs_tl r4)) hci
    obtain ⟨q, hq⟩ := WL_get (S := S) ht
    have hq0 := hq
    rw [hkt, encK_8 hci] at hq
    rw [List.map_cons, List.map_cons]
    rw [show cv w (Sum.inr (Sum.inr (κ, t))) = Value.ref (wb w + t) from hcv]
    refine va_put a.1 a.2.1 (Ts := lw_good) a.2.2.2.2.1 hin ty hty hnm a.2.2.2.1 a.2.2.2.2.2.1 r1.1 r1.2.1 r1.2.2.1 q hq hc _ hk (a.2.2.2.2.1 _ hlink) (fun x hx => hdc ▸ hx) hfin hd2 rfl rfl (by rw [flds_len]; exact (List.getElem?_eq_some_iff.mp hf).1) hd (fun H1 locs1 p1 p2 p3 => ?_)
    have e : encK w (wk w t) t (wrI S t k x) = .inr (κ, (flds (wb w) t S κ).set k (cv w (Sum.inl x))) := by
      rw [hkt, encK_8 hci, flds_set (S := S) (S' := wrI S t k x) hf (fun j hj => by unfold rdI wrI; dsimp only; rw [if_neg (fun z => hj z.2)]) (fun j hj => rfl)]
      congr 3
      show Value.int (rdI (wrI S t k x) t k) = Value.int x; unfold rdI wrI; simp
    have p1' := p1
    rw [← e] at p1 p2
    refine kN.2 p ee R s m args below meth c cells slots Q A a b H1 locs1 ls (RHs_upd r1 a.2.2.2.2.2.2.2.2.2.1 hq0 (fun t' hne => ⟨fun i => by unfold wrI; dsimp only; rw [if_neg (fun z => hne z.1)], fun i => rfl⟩) rfl (SInv_w r1.2.2.2.1 (fun z => by obtain ⟨z1, z2⟩ := z; rw [hkt] at z1; subst z1; subst z2; exact absurd hf (by decide))) p1 p2 p3) r2 r3 (VRs_tl (VRs_tl r4))
  next => cases h
theorem so_putZ {C : String} {T : u_T} {ci k N idx : Nat} (hd : decode (cdB mid) pc = .ok (.putfield idx, 3)) (hci : ci ≤ 8) (hc : vwCl[ci]? = some (C, T, N)) (hin : ∀ w ∈ u_ws C T N, w ∈ lw_good) (hk : k < N) (hdc : (T k).1 = C) (hlink : Cond.fieldLink (yM mid).cls idx C (T k).2.1 (T k).2.2.1 ∈ lw_good) (ty : Nat → FieldType) (hty : ∀ k, k < N → parseFieldDescriptor (T k).2.2.1 = some (ty k)) (hnm : ∀ a, a < N → ∀ b, b < N → a ≠ b → (T a).2.1 ≠ (T b).2.1) (hfin : (T k).2.2.2 = false) (hd2 : parseFieldDescriptor (T k).2.2.1 = some .boolean) (hf : (fdl ci)[k]? = some (0, 0, 0)) : Snd w l hs mid pc (opPZ ci k (pc + 3)) := by
  intro C0 N0 d hC hN lv st S R' h
  unfold opPZ at h
  split at h
  next x κ t r =>
    replace h := cond_some h
    obtain ⟨hk0, h⟩ := h
    replace h := gd_some h
    obtain ⟨hz, h⟩ := h
    have hz := isZ_or hz
    have hκ : κ = ci := Nat.eq_of_beq_eq_true hk0
    subst hκ
    have kN := hN _ _ _ _ _ h
    refine ⟨kN.1, fun p ee R s m args below meth c cells slots Q A a b H locs ls r1 r2 r3 r4 => ?_⟩
    obtain ⟨ht, hkt, hcv⟩ := recK (VRs_hd (VRs_tl r4)) hci
    obtain ⟨q, hq⟩ := WL_get (S := S) ht
    have hq0 := hq
    rw [hkt, encK_8 hci] at hq
    rw [List.map_cons, List.map_cons]
    rw [show cv w (Sum.inr (Sum.inr (κ, t))) = Value.ref (wb w + t) from hcv]
    refine va_put a.1 a.2.1 (Ts := lw_good) a.2.2.2.2.1 hin ty hty hnm a.2.2.2.1 a.2.2.2.2.2.1 r1.1 r1.2.1 r1.2.2.1 q hq hc _ hk (a.2.2.2.2.1 _ hlink) (fun x hx => hdc ▸ hx) hfin hd2 (by rcases hz with rfl | rfl <;> rfl) (by rcases hz with rfl | rfl <;> rfl) (by rw [flds_len]; exact (List.getElem?_eq_some_iff.mp hf).1) hd (fun H1 locs1 p1 p2 p3 => ?_)
    have e : encK w (wk w t) t (wrI S t k x) = .inr (κ, (flds (wb w) t S κ).set k (cv w (Sum.inl x))) := by
      rw [hkt, encK_8 hci, flds_set (S := S) (S' := wrI S t k x) hf (fun j hj => by unfold rdI wrI; dsimp only; rw [if_neg (fun z => hj z.2)]) (fun j hj => rfl)]
      congr 3
      show Value.int (rdI (wrI S t k x) t k) = Value.int x; unfold rdI wrI; simp
    have p1' := p1
    rw [← e] at p1 p2
    refine kN.2 p ee R s m args below meth c cells slots Q A a b H1 locs1 ls (RHs_upd r1 a.2.2.2.2.2.2.2.2.2.1 hq0 (fun t' hne => ⟨fun i => by unfold wrI; dsimp only; rw [if_neg (fun z => hne z.1)], fun i => rfl⟩) rfl (SInv_w r1.2.2.2.1 (fun z => by obtain ⟨z1, z2⟩ := z; rw [hkt] at z1; subst z1; subst z2; exact absurd hf (by decide))) p1 p2 p3) r2 r3 (VRs_tl (VRs_tl r4))
  next => cases h
theorem so_putJ {C : String} {T : u_T} {ci k N idx : Nat} (hd : decode (cdB mid) pc = .ok (.putfield idx, 3)) (hci : ci ≤ 8) (hc : vwCl[ci]? = some (C, T, N)) (hin : ∀ w ∈ u_ws C T N, w ∈ lw_good) (hk : k < N) (hdc : (T k).1 = C) (hlink : Cond.fieldLink (yM mid).cls idx C (T k).2.1 (T k).2.2.1 ∈ lw_good) (ty : Nat → FieldType) (hty : ∀ k, k < N → parseFieldDescriptor (T k).2.2.1 = some (ty k)) (hnm : ∀ a, a < N → ∀ b, b < N → a ≠ b → (T a).2.1 ≠ (T b).2.1) (hfin : (T k).2.2.2 = false) (hd2 : parseFieldDescriptor (T k).2.2.1 = some .long) (hf : (fdl ci)[k]? = some (1, 0, 0)) : Snd w l hs mid pc (opPJ ci k (pc + 3)) := by
  intro C0 N0 d hC hN lv st S R' h
  unfold opPJ at h
  split at h
  next x κ t r =>
    replace h := cond_some h
    obtain ⟨hk0, h⟩ := h
    have hκ : κ = ci := Nat.eq_of_beq_eq_true hk0
    subst hκ
    have kN := hN _ _ _ _ _ h
    refine ⟨kN.1, fun p ee R s m args below meth c cells slots Q A a b H locs ls r1 r2 r3 r4 => ?_⟩
    obtain ⟨ht, hkt, hcv⟩ := recK (VRs_hd (VRs_tl r4)) hci
    obtain ⟨q, hq⟩ := WL_get (S := S) ht
    have hq0 := hq
    rw [hkt, encK_8 hci] at hq
    rw [List.map_cons, List.map_cons]
    rw [show cv w (Sum.inr (Sum.inr (κ, t))) = Value.ref (wb w + t) from hcv]
    refine va_put a.1 a.2.1 (Ts := lw_good) a.2.2.2.2.1 hin ty hty hnm a.2.2.2.1 a.2.2.2.2.2.1 r1.1 r1.2.1 r1.2.2.1 q hq hc _ hk (a.2.2.2.2.1 _ hlink) (fun x hx => hdc ▸ hx) hfin hd2 rfl rfl (by rw [flds_len]; exact (List.getElem?_eq_some_iff.mp hf).1) hd (fun H1 locs1 p1 p2 p3 => ?_)
    have e : encK w (wk w t) t (wrJ S t k x) = .inr (κ, (flds (wb w) t S κ).set k (cv w (Sum.inr (Sum.inl x)))) := by
      rw [hkt, encK_8 hci, flds_set (S := S) (S' := wrJ S t k x) hf (fun j hj => rfl) (fun j hj => by unfold rdJ wrJ; dsimp only; rw [if_neg (fun z => hj z.2)])]
      congr 3
      show Value.long (rdJ (wrJ S t k x) t k) = Value.long x; unfold rdJ wrJ; simp
    have p1' := p1
    rw [← e] at p1 p2
    refine kN.2 p ee R s m args below meth c cells slots Q A a b H1 locs1 ls (RHs_upd r1 a.2.2.2.2.2.2.2.2.2.1 hq0 (fun t' hne => ⟨fun i => rfl, fun i => by unfold wrJ; dsimp only; rw [if_neg (fun z => hne z.1)]⟩) rfl (fun t1 h1 h2 => r1.2.2.2.1 t1 h1 h2) p1 p2 p3) r2 r3 (VRs_tl (VRs_tl r4))
  next => cases h
theorem so_putX {C : String} {T : u_T} {ci k N idx : Nat} (hd : decode (cdB mid) pc = .ok (.putfield idx, 3)) (hci : ci ≤ 8) (hc : vwCl[ci]? = some (C, T, N)) (hin : ∀ w ∈ u_ws C T N, w ∈ lw_good) (hk : k < N) (hdc : (T k).1 = C) (hlink : Cond.fieldLink (yM mid).cls idx C (T k).2.1 (T k).2.2.1 ∈ lw_good) (ty : Nat → FieldType) (hty : ∀ k, k < N → parseFieldDescriptor (T k).2.2.1 = some (ty k)) (hnm : ∀ a, a < N → ∀ b, b < N → a ≠ b → (T a).2.1 ≠ (T b).2.1) (hfin : (T k).2.2.2 = false) (hd2 : parseFieldDescriptor (T k).2.2.1 = some (.object "MeshedPages$Text")) (hx : ci = 3 ∧ k = 10) (hf : (fdl ci)[k]? = some (3, 0, 5)) : Snd w l hs mid pc (opPX ci k 5 (pc + 3)) := by
  intro C0 N0 d hC hN lv st S R' h
  unfold opPX at h
  split at h
  next κ1 t1 κ t r =>
    replace h := cond_some h
    obtain ⟨hk0, h⟩ := h
    rw [Bool.and_eq_true] at hk0
    have hκ : κ = ci := Nat.eq_of_beq_eq_true hk0.1
    have hκ1 : κ1 = 5 := Nat.eq_of_beq_eq_true hk0.2
    subst hκ
    subst hκ1
    have kN := hN _ _ _ _ _ h
    refine ⟨kN.1, fun p ee R s m args below meth c cells slots Q A a b H locs ls r1 r2 r3 r4 => ?_⟩
    obtain ⟨ht, hkt, hcv⟩ := recK (VRs_hd (VRs_tl r4)) hci
    obtain ⟨ht1, hkt1, hcv1⟩ := recK (VRs_hd r4) (by omega)
    have hcl : ix (nI t1) = t1 := nI_clamp (a.2.2.2.2.2.2.2.2.2.1.2.1 t1 ht1)
    obtain ⟨q, hq⟩ := WL_get (S := S) ht
    have hq0 := hq
    rw [hkt, encK_8 hci] at hq
    rw [List.map_cons, List.map_cons]
    rw [show cv w (Sum.inr (Sum.inr (κ, t))) = Value.ref (wb w + t) from hcv, show cv w (Sum.inr (Sum.inr (5, t1))) = Value.ref (wb w + t1) from hcv1]
    refine va_put a.1 a.2.1 (Ts := lw_good) a.2.2.2.2.1 hin ty hty hnm a.2.2.2.1 a.2.2.2.2.2.1 r1.1 r1.2.1 r1.2.2.1 q hq hc _ hk (a.2.2.2.2.1 _ hlink) (fun x hx => hdc ▸ hx) hfin hd2 rfl rfl (by rw [flds_len]; exact (List.getElem?_eq_some_iff.mp hf).1) hd (fun H1 locs1 p1 p2 p3 => ?_)
    have e : encK w (wk w t) t (wrI S t k (nI t1)) = .inr (κ, (flds (wb w) t S κ).set k (.ref (wb w + t1))) := by
      rw [hkt, encK_8 hci, flds_set (S := S) (S' := wrI S t k (nI t1)) hf (fun j hj => by unfold rdI wrI; dsimp only; rw [if_neg (fun z => hj z.2)]) (fun j hj => rfl)]
      congr 3
      show Value.ref (wb w + ix (rdI (wrI S t k (nI t1)) t k)) = _
      rw [show rdI (wrI S t k (nI t1)) t k = nI t1 by unfold rdI wrI; simp, hcl]
    rw [← e] at p1 p2
    refine kN.2 p ee R s m args below meth c cells slots Q A a b H1 locs1 ls (RHs_upd r1 a.2.2.2.2.2.2.2.2.2.1 hq0 (fun t' hne => ⟨fun i => by unfold wrI; dsimp only; rw [if_neg (fun z => hne z.1)], fun i => rfl⟩) rfl (fun t2 h2 h3 => ?_) p1 p2 p3) r2 r3 (VRs_tl (VRs_tl r4))
    by_cases z : t2 = t
    · subst z
      rw [show rdI (wrI S t2 k (nI t1)) t2 10 = nI t1 by obtain ⟨-, e2⟩ := hx; subst e2; unfold rdI wrI; simp, hcl]
      exact ⟨ht1, hkt1⟩
    · rw [show rdI (wrI S t k (nI t1)) t2 10 = rdI S t2 10 by unfold rdI wrI; dsimp only; rw [if_neg (fun y => z y.1)]]
      exact r1.2.2.2.1 t2 h2 h3
  next => cases h
theorem so_iald (hd : decode (cdB mid) pc = .ok (.iaload, 1)) : Snd w l hs mid pc (opIal (pc + 1)) := by
  intro C0 N0 d hC hN lv st S R' h
  unfold opIal at h
  split at h
  next i κ t r =>
    replace h := cond_some h
    obtain ⟨hk0, h⟩ := h
    replace h := gd_some h
    obtain ⟨hb0, h⟩ := h
    have kN := hN _ _ _ _ _ h
    refine ⟨kN.1, fun p e R s m args below meth c cells slots Q A a b H locs ls r1 r2 r3 r4 => ?_⟩
    obtain ⟨ht, hkt, hcv⟩ := recA (VRs_hd (VRs_tl r4)) (by have := kAI_le hk0; omega)
    obtain ⟨q, hq⟩ := WL_get (S := S) ht
    rw [hkt, encK_I hk0] at hq
    have kk := kN.2 p e R s m args below meth c cells slots Q A a b H locs ls r1 r2 r3 (VRs_cons VR_I (VRs_tl (VRs_tl r4)))
    rw [List.map_cons, List.map_cons]
    rw [show cv w (Sum.inr (Sum.inr (κ, t))) = Value.ref (wb w + t) from hcv]
    exact va_iald a.1 a.2.1 a.2.2.2.2.2.1 r1.1 q 0 hq rfl (inb_vp hb0) hd kk
  next => cases h
theorem so_bald (hd : decode (cdB mid) pc = .ok (.baload, 1)) : Snd w l hs mid pc (opBal (pc + 1)) := by
  intro C0 N0 d hC hN lv st S R' h
  unfold opBal at h
  split at h
  next i κ t r =>
    replace h := cond_some h
    obtain ⟨hk0, h⟩ := h
    replace h := gd_some h
    obtain ⟨hb0, h⟩ := h
    have kN := hN _ _ _ _ _ h
    refine ⟨kN.1, fun p e R s m args below meth c cells slots Q A a b H locs ls r1 r2 r3 r4 => ?_⟩
    obtain ⟨ht, hkt, hcv⟩ := recA (VRs_hd (VRs_tl r4)) (by have := kAZ_le hk0; omega)
    obtain ⟨q, hq⟩ := WL_get (S := S) ht
    rw [hkt, encK_Z hk0] at hq
    have kk := kN.2 p e R s m args below meth c cells slots Q A a b H locs ls r1 r2 r3 (VRs_cons VR_I (VRs_tl (VRs_tl r4)))
    rw [List.map_cons, List.map_cons]
    rw [show cv w (Sum.inr (Sum.inr (κ, t))) = Value.ref (wb w + t) from hcv]
    exact va_zald a.1 a.2.1 a.2.2.2.2.2.1 r1.1 q 1 hq rfl (inb_vp hb0) hd kk
  next => cases h
theorem so_lald (hd : decode (cdB mid) pc = .ok (.laload, 1)) : Snd w l hs mid pc (opLal (pc + 1)) := by
  intro C0 N0 d hC hN lv st S R' h
  unfold opLal at h
  split at h
  next i κ t r =>
    replace h := cond_some h
    obtain ⟨hk0, h⟩ := h
    replace h := gd_some h
    obtain ⟨hb0, h⟩ := h
    have kN := hN _ _ _ _ _ h
    refine ⟨kN.1, fun p e R s m args below meth c cells slots Q A a b H locs ls r1 r2 r3 r4 => ?_⟩
    obtain ⟨ht, hkt, hcv⟩ := recA (VRs_hd (VRs_tl r4)) (by have := kAJ_le hk0; omega)
    obtain ⟨q, hq⟩ := WL_get (S := S) ht
    rw [hkt, encK_J hk0] at hq
    have kk := kN.2 p e R s m args below meth c cells slots Q A a b H locs ls r1 r2 r3 (VRs_cons VR_L (VRs_tl (VRs_tl r4)))
    rw [List.map_cons, List.map_cons]
    rw [show cv w (Sum.inr (Sum.inr (κ, t))) = Value.ref (wb w + t) from hcv]
    exact va_lald a.1 a.2.1 a.2.2.2.2.2.1 r1.1 q 2 hq rfl (inb_vp hb0) hd kk
  next => cases h
theorem so_iast (hd : decode (cdB mid) pc = .ok (.iastore, 1)) : Snd w l hs mid pc (opIas (pc + 1)) := by
  intro C0 N0 d hC hN lv st S R' h
  unfold opIas at h
  split at h
  next x i κ t r =>
    replace h := cond_some h
    obtain ⟨hk0, h⟩ := h
    replace h := gd_some h
    obtain ⟨hb0, h⟩ := h
    have kN := hN _ _ _ _ _ h
    refine ⟨kN.1, fun p ee R s m args below meth c cells slots Q A a b H locs ls r1 r2 r3 r4 => ?_⟩
    have hle := kAI_le hk0
    obtain ⟨ht, hkt, hcv⟩ := recA (VRs_hd (VRs_tl (VRs_tl r4))) (by omega)
    obtain ⟨q, hq⟩ := WL_get (S := S) ht
    have hq0 := hq
    rw [hkt, encK_I hk0] at hq
    rw [List.map_cons, List.map_cons, List.map_cons]
    rw [show cv w (Sum.inr (Sum.inr (κ, t))) = Value.ref (wb w + t) from hcv]
    refine va_iast a.1 a.2.1 a.2.2.2.2.2.1 r1.1 r1.2.1 r1.2.2.1 q 0 hq rfl (inb_vp hb0) hd (fun H1 locs1 p1 p2 p3 => ?_)
    have e : encK w (wk w t) t (wrI S t (ix i) x) = .inl (w.2.1.1, κ - 100000, .inl (upd (fun i => S.1 t i) i.toNatClampNeg x)) := by
      rw [hkt, encK_I hk0]
      congr 4
      funext j
      show (if t = t ∧ j = ix i then x else S.1 t j) = (if j = ix i then x else S.1 t j)
      by_cases hj : j = ix i
      · rw [if_pos ⟨rfl, hj⟩, if_pos hj]
      · rw [if_neg (fun y => hj y.2), if_neg hj]
    rw [← e] at p1 p2
    refine kN.2 p ee R s m args below meth c cells slots Q A a b H1 locs1 ls (RHs_upd r1 a.2.2.2.2.2.2.2.2.2.1 hq0 (fun t' hne => ⟨fun i => by unfold wrI; dsimp only; rw [if_neg (fun z => hne z.1)], fun i => rfl⟩) rfl (SInv_w r1.2.2.2.1 (fun z => by omega)) p1 p2 p3) r2 r3 (VRs_tl (VRs_tl (VRs_tl r4)))
  next => cases h
theorem so_bast (hd : decode (cdB mid) pc = .ok (.bastore, 1)) : Snd w l hs mid pc (opBas (pc + 1)) := by
  intro C0 N0 d hC hN lv st S R' h
  unfold opBas at h
  split at h
  next x i κ t r =>
    replace h := cond_some h
    obtain ⟨hk0, h⟩ := h
    replace h := gd_some h
    obtain ⟨hb0, h⟩ := h
    rw [Bool.and_eq_true] at hb0
    obtain ⟨hb0, hz⟩ := hb0
    have hz := isZ_or hz
    have kN := hN _ _ _ _ _ h
    refine ⟨kN.1, fun p ee R s m args below meth c cells slots Q A a b H locs ls r1 r2 r3 r4 => ?_⟩
    have hle := kAZ_le hk0
    obtain ⟨ht, hkt, hcv⟩ := recA (VRs_hd (VRs_tl (VRs_tl r4))) (by omega)
    obtain ⟨q, hq⟩ := WL_get (S := S) ht
    have hq0 := hq
    rw [hkt, encK_Z hk0] at hq
    rw [List.map_cons, List.map_cons, List.map_cons]
    rw [show cv w (Sum.inr (Sum.inr (κ, t))) = Value.ref (wb w + t) from hcv]
    refine va_zast a.1 a.2.1 a.2.2.2.2.2.1 r1.1 r1.2.1 r1.2.2.1 q 1 hq rfl (inb_vp hb0) hd (fun H1 locs1 p1 p2 p3 => ?_)
    have e : encK w (wk w t) t (wrI S t (ix i) x) = .inl (w.2.1.2.1, κ - 200000, .inl (upd (fun i => S.1 t i) i.toNatClampNeg (vp_nar .boolean x))) := by
      rw [hkt, encK_Z hk0]
      congr 4
      funext j
      show (if t = t ∧ j = ix i then x else S.1 t j) = (if j = ix i then vp_nar .boolean x else S.1 t j)
      by_cases hj : j = ix i
      · rw [if_pos ⟨rfl, hj⟩, if_pos hj]
        rcases hz with rfl | rfl <;> rfl
      · rw [if_neg (fun y => hj y.2), if_neg hj]
    rw [← e] at p1 p2
    refine kN.2 p ee R s m args below meth c cells slots Q A a b H1 locs1 ls (RHs_upd r1 a.2.2.2.2.2.2.2.2.2.1 hq0 (fun t' hne => ⟨fun i => by unfold wrI; dsimp only; rw [if_neg (fun z => hne z.1)], fun i => rfl⟩) rfl (SInv_w r1.2.2.2.1 (fun z => by omega)) p1 p2 p3) r2 r3 (VRs_tl (VRs_tl (VRs_tl r4)))
  next => cases h
theorem so_last (hd : decode (cdB mid) pc = .ok (.lastore, 1)) : Snd w l hs mid pc (opLas (pc + 1)) := by
  intro C0 N0 d hC hN lv st S R' h
  unfold opLas at h
  split at h
  next x i κ t r =>
    replace h := cond_some h
    obtain ⟨hk0, h⟩ := h
    replace h := gd_some h
    obtain ⟨hb0, h⟩ := h
    have kN := hN _ _ _ _ _ h
    refine ⟨kN.1, fun p ee R s m args below meth c cells slots Q A a b H locs ls r1 r2 r3 r4 => ?_⟩
    have hle := kAJ_le hk0
    obtain ⟨ht, hkt, hcv⟩ := recA (VRs_hd (VRs_tl (VRs_tl r4))) (by omega)
    obtain ⟨q, hq⟩ := WL_get (S := S) ht
    have hq0 := hq
    rw [hkt, encK_J hk0] at hq
    rw [List.map_cons, List.map_cons, List.map_cons]
    rw [show cv w (Sum.inr (Sum.inr (κ, t))) = Value.ref (wb w + t) from hcv]
    refine va_last a.1 a.2.1 a.2.2.2.2.2.1 r1.1 r1.2.1 r1.2.2.1 q 2 hq rfl (inb_vp hb0) hd (fun H1 locs1 p1 p2 p3 => ?_)
    have e : encK w (wk w t) t (wrJ S t (ix i) x) = .inl (w.2.1.2.2.1, κ - 300000, .inr (.inl (vp_updL (fun i => S.2.1 t i) i.toNatClampNeg x))) := by
      rw [hkt, encK_J hk0]
      congr 5
      funext j
      show (if t = t ∧ j = ix i then x else S.2.1 t j) = (if j = ix i then x else S.2.1 t j)
      by_cases hj : j = ix i
      · rw [if_pos ⟨rfl, hj⟩, if_pos hj]
      · rw [if_neg (fun y => hj y.2), if_neg hj]
    rw [← e] at p1 p2
    refine kN.2 p ee R s m args below meth c cells slots Q A a b H1 locs1 ls (RHs_upd r1 a.2.2.2.2.2.2.2.2.2.1 hq0 (fun t' hne => ⟨fun i => rfl, fun i => by unfold wrJ; dsimp only; rw [if_neg (fun z => hne z.1)]⟩) rfl (fun t1 h1 h2 => r1.2.2.2.1 t1 h1 h2) p1 p2 p3) r2 r3 (VRs_tl (VRs_tl (VRs_tl r4)))
  next => cases h
theorem so_aald20 (hd : decode (cdB mid) pc = .ok (.aaload, 1)) : Snd w l hs mid pc (opAal 20 5 4 468 10 (pc + 1)) := by
  intro C0 N0 d hC hN lv st S R' h
  unfold opAal at h
  split at h
  next i κ t r =>
    replace h := cond_some h
    obtain ⟨hk0, h⟩ := h
    replace h := gd_some h
    obtain ⟨hb0, h⟩ := h
    have hκ := Nat.eq_of_beq_eq_true hk0
    subst hκ
    have kN := hN _ _ _ _ _ h
    refine ⟨kN.1, fun p e R s m args below meth c cells slots Q A a b H locs ls r1 r2 r3 r4 => ?_⟩
    obtain ⟨ht, hkt, hcv⟩ := rec2 (VRs_hd (VRs_tl r4)) (by omega)
    obtain ⟨q, hq⟩ := WL_get (S := S) ht
    rw [hkt, encK_20] at hq
    have hlt : ix i < 4 := Nat.not_le.mp fun z => (inb_vp hb0) (Or.inr z)
    have kk := kN.2 p e R s m args below meth c cells slots Q A a b H locs ls r1 r2 r3 (VRs_cons (v := vR 5 (t + 468 + 10 * ix i)) (Or.inr (Or.inr (Or.inr (a.2.2.2.2.2.2.2.2.2.1.2.2.2.1 t ht hkt _ hlt)))) (VRs_tl (VRs_tl r4)))
    rw [List.map_cons, cv_R (by omega) (by omega)] at kk
    rw [List.map_cons, List.map_cons]
    rw [show cv w (Sum.inr (Sum.inr (20, t))) = Value.ref (wb w + t) from hcv]
    exact va_aldq a.1 a.2.1 a.2.2.2.2.2.1 r1.1 q 3 hq rfl (inb_vp hb0) hd kk
  next => cases h
theorem so_aald21 (hd : decode (cdB mid) pc = .ok (.aaload, 1)) : Snd w l hs mid pc (opAal 21 1 30 1 7 (pc + 1)) := by
  intro C0 N0 d hC hN lv st S R' h
  unfold opAal at h
  split at h
  next i κ t r =>
    replace h := cond_some h
    obtain ⟨hk0, h⟩ := h
    replace h := gd_some h
    obtain ⟨hb0, h⟩ := h
    have hκ := Nat.eq_of_beq_eq_true hk0
    subst hκ
    have kN := hN _ _ _ _ _ h
    refine ⟨kN.1, fun p e R s m args below meth c cells slots Q A a b H locs ls r1 r2 r3 r4 => ?_⟩
    obtain ⟨ht, hkt, hcv⟩ := rec2 (VRs_hd (VRs_tl r4)) (by omega)
    obtain ⟨q, hq⟩ := WL_get (S := S) ht
    rw [hkt, encK_21] at hq
    have hlt : ix i < 30 := Nat.not_le.mp fun z => (inb_vp hb0) (Or.inr z)
    have kk := kN.2 p e R s m args below meth c cells slots Q A a b H locs ls r1 r2 r3 (VRs_cons (v := vR 1 (t + 1 + 7 * ix i)) (Or.inr (Or.inr (Or.inr (a.2.2.2.2.2.2.2.2.2.1.2.2.2.2.1 t ht hkt _ hlt)))) (VRs_tl (VRs_tl r4)))
    rw [List.map_cons, cv_R (by omega) (by omega)] at kk
    rw [List.map_cons, List.map_cons]
    rw [show cv w (Sum.inr (Sum.inr (21, t))) = Value.ref (wb w + t) from hcv]
    exact va_aldq a.1 a.2.1 a.2.2.2.2.2.1 r1.1 q 4 hq rfl (inb_vp hb0) hd kk
  next => cases h
theorem so_alen (hd : decode (cdB mid) pc = .ok (.arraylength, 1)) : Snd w l hs mid pc (opAln (pc + 1)) := by
  intro C0 N0 d hC hN lv st S R' h
  unfold opAln at h
  split at h
  next κ t r =>
    replace h := cond_some h
    obtain ⟨hk0, h⟩ := h
    have kN := hN _ _ _ _ _ h
    refine ⟨kN.1, fun p e R s m args below meth c cells slots Q A a b H locs ls r1 r2 r3 r4 => ?_⟩
    obtain ⟨ht, hkt, hcv⟩ := recA (VRs_hd r4) (by have := kAI_le hk0; omega)
    obtain ⟨q, hq⟩ := WL_get (S := S) ht
    rw [hkt, encK_I hk0] at hq
    have kk := kN.2 p e R s m args below meth c cells slots Q A a b H locs ls r1 r2 r3 (VRs_cons VR_I (VRs_tl r4))
    rw [List.map_cons]
    rw [show cv w (Sum.inr (Sum.inr (κ, t))) = Value.ref (wb w + t) from hcv]
    exact va_alen a.1 a.2.1 a.2.2.2.2.2.1 r1.1 q 0 hq rfl (v := nI (κ - 100000)) rfl hd kk
  next => cases h
theorem so_scl (hd : decode (cdB mid) pc = .ok (.arraylength, 1)) : Snd w l hs mid pc (opScL (pc + 1)) := by
  intro C0 N0 d hC hN lv st S R' h
  unfold opScL at h
  split at h
  next κ t r =>
    replace h := cond_some h
    obtain ⟨hk0, h⟩ := h
    have hκ := Nat.eq_of_beq_eq_true hk0
    subst hκ
    have kN := hN _ _ _ _ _ h
    refine ⟨kN.1, fun p e R s m args below meth c cells slots Q A a b H locs ls r1 r2 r3 r4 => ?_⟩
    have kk := kN.2 p e R s m args below meth c cells slots Q A a b H locs ls r1 r2 r3 (VRs_cons VR_I (VRs_tl r4))
    have hh : hs = true := by
      rcases VRs_hd r4 with z | ⟨-, z⟩ | z | ⟨z1, z2⟩
      · cases z
      · exact z
      · cases z
      · have := a.2.2.2.2.2.2.2.2.2.1.2.2.2.2.2 t z1
        rw [z2] at this
        rcases this with y | y | y | y | y | y
        · omega
        · omega
        · omega
        · have := kAI_le y; omega
        · have := kAZ_le y; omega
        · have := kAJ_le y; omega
    obtain ⟨x1, x2, x3⟩ := r1.2.2.2.2 hh
    rw [List.map_cons]
    rw [show cv w (Sum.inr (Sum.inr (40, t))) = Value.ref (wsc w) from rfl]
    exact va_slen a.1 a.2.1 x1 x2 x3 r1.2.2.1 hd kk
  next => cases h
theorem so_sci (hd : decode (cdB mid) pc = .ok (.iaload, 1)) : Snd w l hs mid pc (opScI (pc + 1)) := by
  intro C0 N0 d hC hN lv st S R' h
  unfold opScI at h
  split at h
  next i κ t r =>
    replace h := cond_some h
    obtain ⟨hk0, h⟩ := h
    replace h := gd_some h
    obtain ⟨hb0, h⟩ := h
    have hκ := Nat.eq_of_beq_eq_true hk0
    subst hκ
    have kN := hN _ _ _ _ _ h
    refine ⟨kN.1, fun p e R s m args below meth c cells slots Q A a b H locs ls r1 r2 r3 r4 => ?_⟩
    have kk := kN.2 p e R s m args below meth c cells slots Q A a b H locs ls r1 r2 r3 (VRs_cons VR_I (VRs_tl (VRs_tl r4)))
    have hh : hs = true := by
      rcases VRs_hd (VRs_tl r4) with z | ⟨-, z⟩ | z | ⟨z1, z2⟩
      · cases z
      · exact z
      · cases z
      · have := a.2.2.2.2.2.2.2.2.2.1.2.2.2.2.2 t z1
        rw [z2] at this
        rcases this with y | y | y | y | y | y
        · omega
        · omega
        · omega
        · have := kAI_le y; omega
        · have := kAZ_le y; omega
        · have := kAJ_le y; omega
    obtain ⟨x1, x2, x3⟩ := r1.2.2.2.2 hh
    rw [List.map_cons, List.map_cons]
    rw [show cv w (Sum.inr (Sum.inr (40, t))) = Value.ref (wsc w) from rfl]
    exact va_sld a.1 a.2.1 x1 x2 x3 r1.2.2.1 (inb_vp hb0) hd kk
  next => cases h
theorem so_maxI {idx : Nat} (hd : decode (cdB mid) pc = .ok (.invokestatic idx, 3)) (h1 : Cond.methodLink (yM mid).cls idx Lib.Math.max.name ∈ lw_good) (h2 : Cond.static Lib.Math.max.name ∈ lw_good) (h3 : Cond.initialized "java/lang/Math" ∈ lw_good) (h4 : Cond.code Lib.Math.max.name Lib.Math.max.code 2 (some .int) ∈ lw_good) : Snd w l hs mid pc (opM maxI (pc + 3)) := by
  intro C0 N0 d hC hN lv st S R' h
  unfold opM at h
  split at h
  next y x r =>
    replace h := cond_some h
    obtain ⟨hk0, h⟩ := h
    simp only [Bool.and_eq_true] at hk0
    have kN := hN _ _ _ _ _ h
    refine ⟨kN.1, fun p e R s m args below meth c cells slots Q A a b H locs ls r1 r2 r3 r4 => ?_⟩
    have hrm := a.2.2.2.2.2.2.1
    have hd1 := Nat.le_of_ble_eq_true hk0.2
    have hcs : ((r.map (cv w)).map fun v => v.category).sum ≤ 8 := by
      rw [cats_map8]; exact Nat.le_of_ble_eq_true hk0.1
    exact va_mmax a.1 a.2.1 (by rw [a.2.2.1]; exact r2.1.symm) a.2.2.2.1 (a.2.2.2.2.1 _ h1) (a.2.2.2.2.1 _ h2) (a.2.2.2.2.1 _ h3) (a.2.2.2.2.1 _ h4) (by omega) (by omega) a.2.2.2.2.2.2.2.1.1 a.2.2.2.2.2.2.2.1.2 hd (kN.2 p e R s m args below meth c cells slots Q A a b H locs ls r1 r2 r3 (VRs_cons VR_I (VRs_tl (VRs_tl r4))))
  next => cases h
theorem so_minI {idx : Nat} (hd : decode (cdB mid) pc = .ok (.invokestatic idx, 3)) (h1 : Cond.methodLink (yM mid).cls idx Lib.Math.min.name ∈ lw_good) (h2 : Cond.static Lib.Math.min.name ∈ lw_good) (h3 : Cond.initialized "java/lang/Math" ∈ lw_good) (h4 : Cond.code Lib.Math.min.name Lib.Math.min.code 2 (some .int) ∈ lw_good) : Snd w l hs mid pc (opM minI (pc + 3)) := by
  intro C0 N0 d hC hN lv st S R' h
  unfold opM at h
  split at h
  next y x r =>
    replace h := cond_some h
    obtain ⟨hk0, h⟩ := h
    simp only [Bool.and_eq_true] at hk0
    have kN := hN _ _ _ _ _ h
    refine ⟨kN.1, fun p e R s m args below meth c cells slots Q A a b H locs ls r1 r2 r3 r4 => ?_⟩
    have hrm := a.2.2.2.2.2.2.1
    have hd1 := Nat.le_of_ble_eq_true hk0.2
    have hcs : ((r.map (cv w)).map fun v => v.category).sum ≤ 8 := by
      rw [cats_map8]; exact Nat.le_of_ble_eq_true hk0.1
    exact va_mmin a.1 a.2.1 (by rw [a.2.2.1]; exact r2.1.symm) a.2.2.2.1 (a.2.2.2.2.1 _ h1) (a.2.2.2.2.1 _ h2) (a.2.2.2.2.1 _ h3) (a.2.2.2.2.1 _ h4) (by omega) (by omega) a.2.2.2.2.2.2.2.1.1 a.2.2.2.2.2.2.2.1.2 hd (kN.2 p e R s m args below meth c cells slots Q A a b H locs ls r1 r2 r3 (VRs_cons VR_I (VRs_tl (VRs_tl r4))))
  next => cases h
theorem so_maxLo {idx : Nat} (hd : decode (cdB mid) pc = .ok (.invokestatic idx, 3)) (h1 : Cond.methodLink (yM mid).cls idx Lib.MathLoose.max_long.x ∈ lw_good) (h2 : Cond.static Lib.MathLoose.max_long.x ∈ lw_good) (h3 : Cond.initialized "java/lang/Math" ∈ lw_good) (h4 : Cond.code Lib.MathLoose.max_long.x Lib.MathLoose.max_long.code 4 (some .long) ∈ lw_good) : Snd w l hs mid pc (opML maxLo (pc + 3)) := by
  intro C0 N0 d hC hN lv st S R' h
  unfold opML at h
  split at h
  next y x r =>
    replace h := cond_some h
    obtain ⟨hk0, h⟩ := h
    simp only [Bool.and_eq_true] at hk0
    have kN := hN _ _ _ _ _ h
    refine ⟨kN.1, fun p e R s m args below meth c cells slots Q A a b H locs ls r1 r2 r3 r4 => ?_⟩
    have hrm := a.2.2.2.2.2.2.1
    have hd1 := Nat.le_of_ble_eq_true hk0.2
    have hcs : ((r.map (cv w)).map fun v => v.category).sum ≤ 8 := by
      rw [cats_map8]; exact Nat.le_of_ble_eq_true hk0.1
    exact va_mmax_long a.1 a.2.1 (by rw [a.2.2.1]; exact r2.1.symm) a.2.2.2.1 (a.2.2.2.2.1 _ h1) (a.2.2.2.2.1 _ h2) (a.2.2.2.2.1 _ h3) (a.2.2.2.2.1 _ h4) (by omega) (by omega) a.2.2.2.2.2.2.2.1.1 a.2.2.2.2.2.2.2.1.2 hd (kN.2 p e R s m args below meth c cells slots Q A a b H locs ls r1 r2 r3 (VRs_cons VR_L (VRs_tl (VRs_tl r4))))
  next => cases h
theorem so_minLo {idx : Nat} (hd : decode (cdB mid) pc = .ok (.invokestatic idx, 3)) (h1 : Cond.methodLink (yM mid).cls idx Lib.MathLoose.min_long.x ∈ lw_good) (h2 : Cond.static Lib.MathLoose.min_long.x ∈ lw_good) (h3 : Cond.initialized "java/lang/Math" ∈ lw_good) (h4 : Cond.code Lib.MathLoose.min_long.x Lib.MathLoose.min_long.code 4 (some .long) ∈ lw_good) : Snd w l hs mid pc (opML minLo (pc + 3)) := by
  intro C0 N0 d hC hN lv st S R' h
  unfold opML at h
  split at h
  next y x r =>
    replace h := cond_some h
    obtain ⟨hk0, h⟩ := h
    simp only [Bool.and_eq_true] at hk0
    have kN := hN _ _ _ _ _ h
    refine ⟨kN.1, fun p e R s m args below meth c cells slots Q A a b H locs ls r1 r2 r3 r4 => ?_⟩
    have hrm := a.2.2.2.2.2.2.1
    have hd1 := Nat.le_of_ble_eq_true hk0.2
    have hcs : ((r.map (cv w)).map fun v => v.category).sum ≤ 8 := by
      rw [cats_map8]; exact Nat.le_of_ble_eq_true hk0.1
    exact va_mmin_long a.1 a.2.1 (by rw [a.2.2.1]; exact r2.1.symm) a.2.2.2.1 (a.2.2.2.2.1 _ h1) (a.2.2.2.2.1 _ h2) (a.2.2.2.2.1 _ h3) (a.2.2.2.2.1 _ h4) (by omega) (by omega) a.2.2.2.2.2.2.2.1.1 a.2.2.2.2.2.2.2.1.2 hd (kN.2 p e R s m args below meth c cells slots Q A a b H locs ls r1 r2 r3 (VRs_cons VR_L (VRs_tl (VRs_tl r4))))
  next => cases h
end SOM
