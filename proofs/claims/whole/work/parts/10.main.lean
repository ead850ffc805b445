/-! every method meets what ev says of it -/
noncomputable def runC (n : Nat) : Cf := fun d' m' as S' => cond (Nat.ble (exps as).length (mxL m')) (run n d' m' 0 (ent (mxL m') as) [] S') none
theorem lvargs_exps {w : WT} : ∀ (as : List AV) (i k : Nat) (v : AV), (∀ x ∈ as, isU x = false) → (exps as)[k]? = some v → isU v = false → (i + k, cv w v) ∈ lv_args i (as.map (cv w))
  | [], i, k, v, _, h, _ => by simp [exps] at h
  | a :: as, i, k, v, hu, h, hv => by
    have ih := fun j k' => lvargs_exps (w := w) as j k' v (fun x hx => hu x (List.mem_cons_of_mem _ hx))
    rw [List.map_cons]
    unfold lv_args
    rcases a with x | x | ⟨κ, t⟩
    · have hc : ¬ (cv w (Sum.inl x)).category = 2 := by rw [catV_cv]; simp [catV]
      rw [if_neg hc]
      have he : exps (Sum.inl x :: as) = Sum.inl x :: exps as := rfl
      rw [he] at h
      cases k with
      | zero => cases h; exact List.mem_cons_self
      | succ k => rw [List.getElem?_cons_succ] at h; exact List.mem_cons_of_mem _ (by have := ih (i + 1) k h hv; rw [show i + (k + 1) = i + 1 + k by omega]; exact this)
    · have hc : (cv w (Sum.inr (Sum.inl x))).category = 2 := by rw [catV_cv]; rfl
      rw [if_pos hc]
      have he : exps (Sum.inr (Sum.inl x) :: as) = Sum.inr (Sum.inl x) :: vU :: exps as := rfl
      rw [he] at h
      cases k with
      | zero => cases h; exact List.mem_cons_self
      | succ k =>
        cases k with
        | zero => cases h; exact absurd hv (by decide)
        | succ k => rw [List.getElem?_cons_succ, List.getElem?_cons_succ] at h; exact List.mem_cons_of_mem _ (by have := ih (i + 2) k h hv; rw [show i + (k + 1 + 1) = i + 2 + k by omega]; exact this)
    · have hc : ¬ (cv w (Sum.inr (Sum.inr (κ, t)))).category = 2 := by rw [catV_cv]; simp [catV]
      rw [if_neg hc]
      have he : exps (Sum.inr (Sum.inr (κ, t)) :: as) = Sum.inr (Sum.inr (κ, t)) :: exps as := rfl
      rw [he] at h
      cases k with
      | zero => cases h; exact List.mem_cons_self
      | succ k => rw [List.getElem?_cons_succ] at h; exact List.mem_cons_of_mem _ (by have := ih (i + 1) k h hv; rw [show i + (k + 1) = i + 1 + k by omega]; exact this)
theorem exps_len {w : WT} : ∀ (as : List AV), (lg_sl (as.map (cv w))).length = (exps as).length
  | [] => rfl
  | a :: as => by
    have ih := exps_len (w := w) as
    rw [List.map_cons]
    unfold lg_sl at ih ⊢
    rw [List.flatMap_cons, List.length_append, ih]
    rcases a with x | x | ⟨κ, t⟩
    · rw [if_neg (by rw [catV_cv]; simp [catV])]; show 1 + _ = (_ :: exps as).length; rw [List.length_cons]; omega
    · rw [if_pos (by rw [catV_cv]; rfl)]; show 2 + _ = (_ :: _ :: exps as).length; rw [List.length_cons, List.length_cons]; omega
    · rw [if_neg (by rw [catV_cv]; simp [catV])]; show 1 + _ = (_ :: exps as).length; rw [List.length_cons]; omega
theorem exps_VR {w : WT} {hs : Bool} : ∀ {as : List AV}, VRs w hs as → VRs w hs (exps as)
  | [], _ => fun _ h => by cases h
  | a :: as, h => by
    have ih := exps_VR (VRs_tl h)
    rcases a with x | x | ⟨κ, t⟩
    · exact VRs_cons VR_I ih
    · exact VRs_cons VR_L (VRs_cons VR_U ih)
    · exact VRs_cons (VRs_hd h) ih
theorem ent_VR {w : WT} {hs : Bool} {n : Nat} {as : List AV} (h : VRs w hs as) : VRs w hs (ent n as) := by
  intro v hv
  rcases List.mem_append.mp hv with z | z
  · exact exps_VR h v z
  · rw [(List.mem_replicate.mp z).2]; exact VR_U
theorem ent_LR {w : WT} {n : Nat} {as : List AV} (hl : (exps as).length ≤ n) (hu : ∀ x ∈ as, isU x = false) : LR w ((lg_sl (as.map (cv w)) ++ List.replicate (n - (lg_sl (as.map (cv w))).length) Slot.unset).toArray) n (ent n as) := by
  obtain ⟨h1, h2, h3⟩ := lv_entry (as.map (cv w)) (n := n) (by rw [exps_len]; exact hl)
  refine ⟨h1, h2, by unfold ent; rw [List.length_append, List.length_replicate]; omega, fun i v hv hnu => ?_⟩
  unfold ent at hv
  by_cases hi : i < (exps as).length
  · rw [List.getElem?_append_left hi] at hv
    have := lvargs_exps (w := w) as 0 i v hu hv hnu
    rw [Nat.zero_add] at this
    exact h3 _ this
  · rw [List.getElem?_append_right (by omega)] at hv
    have hv2 := List.mem_of_getElem? hv
    rw [(List.mem_replicate.mp hv2).2] at hnu
    exact absurd hnu (by decide)
/-- facts of each method's name -/
def NMok (mid : Nat) : Prop := plainName (yM mid).cls = true
theorem met_of {w : WT} {l : Launch} (hNM : ∀ mid, NMok mid) {d mid : Nat} {as : List AV} {S : Mem} {R' : Res} (hle : Nat.ble (exps as).length (mxL mid) = true) (hu : ∀ x ∈ as, isU x = false) (hG : Gd w l false mid d 0 (ent (mxL mid) as) [] S R') (hvs : VRs w false as) : Met l (yM mid) (wsM mid) (rmD d) (PcM w as S) (QcM w R') 0 0 (A1 w) := by
  refine Met.ofW (cc := cdB mid) (maxL := mxL mid) (ret := rtM mid) (hNM mid) rfl ?_
  intro p e s m args below meth c s₁ B hml hv
  obtain ⟨rfl, hP, hK, hD, hSI, hStr, hWOK⟩ := hv
  have hx := B.exec
  have hb := B.bytes
  have hr := B.returns
  have hlocks : meth.locks = false := B.notSynchronized
  have hown := findClass_of_methodNamed B.named
  have hts0 := atoms_spec (ws := wsM mid) B.pre
  have hts : ∀ x ∈ lw_good, x.before (as.map (cv w)).toArray s = true := fun x hx => hts0 x (List.mem_cons_of_mem _ hx)
  rw [lg_entry_eq]
  have hLR := ent_LR (w := w) (Nat.le_of_ble_eq_true hle) hu
  refine hG.2 p e _ s m _ below meth c 0 0 _ (A1 w) ⟨hx, hb, hml, hown, hts, hK, ⟨Nat.le_refl _, Nat.le_refl _⟩, ⟨Nat.zero_le _, Nat.zero_le _⟩, hStr, hWOK, fun _ q => q⟩ ?_ s.heap [] _ ⟨hP, hD, va_S.rf, hSI, fun z => by cases z⟩ hLR (ent_VR hvs) (fun _ z => by cases z)
  intro H locs ls pc r1 hvr hrt hdc
  have hq : ∀ t : State, t.heap = H → s.WarmedH t.vm → QcM w R' (as.map (cv w)).toArray s (.returned (R'.1.map (cv w))) t := fun t ht _ => ⟨rfl, by rw [ht]; exact r1.1, r1.2.2.2.1, hvr, r1.2.2.1.F ht⟩
  have hf := r1.2.2.1.2.2
  obtain ⟨v, S'⟩ := R'
  dsimp only at hvr hrt hdc hq ⊢
  rcases v with _ | x | x | ⟨κ, t⟩
  · exact W.vret hx hb (hr.trans hrt) hq hf hdc
  · rcases hrt with hrt | ⟨hrt, hz⟩
    · exact W.iret hx hb (hr.trans hrt) hq hf hdc
    · exact W.zret hx hb (hr.trans hrt) (by rcases isZ_or hz with rfl | rfl <;> rfl) hq hf hdc
  · exact W.lret hx hb (hr.trans hrt) hq hf hdc
  · obtain ⟨⟨n, hn⟩, h8⟩ := hrt
    have hcv : cv w (Sum.inr (Sum.inr (κ, t))) = Value.ref (wb w + t) := cv_R (by omega) (by omega)
    exact W.aret hx hb (hr.trans hn) (Or.inl ⟨n, rfl⟩) (Or.inr ⟨_, hcv⟩) hq hf hdc
theorem run_good {w : WT} {l : Launch} (hNM : ∀ mid, NMok mid) (hS : ∀ hs mid pc, Snd w l hs mid pc (code_ mid pc)) : ∀ n, GoodC w l (runC n) ∧ ∀ hs d mid pc lv st S R', run n d mid pc lv st S = some R' → Gd w l hs mid d pc lv st S R' := by
  intro n
  induction n with
  | zero =>
    refine ⟨fun d mid as S R' h => ?_, fun hs d mid pc lv st S R' h => by cases h⟩
    unfold runC run at h
    cases hb : Nat.ble (exps as).length (mxL mid) <;> rw [hb] at h <;> cases h
  | succ n ih =>
    obtain ⟨ihC, ihN⟩ := ih
    have hN : ∀ hs d mid pc lv st S R', run (n + 1) d mid pc lv st S = some R' → Gd w l hs mid d pc lv st S R' := by
      intro hs d mid pc lv st S R' h
      unfold run at h
      exact hS hs mid pc (runC n) (fun pc' l' st' S' => run n d mid pc' l' st' S') d ihC (fun pc' lv' st' S' R1 h1 => ihN hs d mid pc' lv' st' S' R1 h1) lv st S R' h
    refine ⟨fun d mid as S R' h => ?_, hN⟩
    unfold runC at h
    replace h := cond_some h
    obtain ⟨hb, h⟩ := h
    have hG := hN false d mid 0 _ _ _ _ h
    exact ⟨hG.1, fun hno hvs => met_of hNM hb (noS_U hno) hG hvs⟩
