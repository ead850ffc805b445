/-! the reads depend on what is in reach alone -/
section CG
variable {fr fr' lv lv' vec vec' val val' : Nat → Int32}
theorem fOpen_c (h : ∀ p, p < 12 → fr p = fr' p) (a : Int32) : fOpen fr a = fOpen fr' a := by
  unfold fOpen
  by_cases hb : inb a 12 = true
  · obtain ⟨p, hp, rfl⟩ := inb_ex hb (by decide)
    rw [x12 hp, h p hp]
  · rw [Bool.eq_false_iff.mpr hb]; rfl
theorem fFenced_c (h : ∀ p, p < 12 → fr p = fr' p) (g a : Int32) : fFenced fr g a = fFenced fr' g a := by
  unfold fFenced
  rw [fOpen_c h]
  unfold fOpen
  by_cases hb : inb a 12 = true
  · obtain ⟨p, hp, rfl⟩ := inb_ex hb (by decide)
    rw [x12 hp, h p hp]
  · rw [Bool.eq_false_iff.mpr hb]; rfl
theorem fLiveIn_c (h : ∀ p, p < 12 → fr p = fr' p) (h2 : ∀ p, p < 12 → lv p = lv' p) (f : Int32) : fLiveIn fr lv f = fLiveIn fr' lv' f := by
  unfold fLiveIn
  refine itN_congr (fun p a hp => ?_) 0
  try dsimp only
  rw [h p hp, h2 p hp]
theorem mLiveIn_c (h : ∀ p, p < 12 → fr p = fr' p) (h2 : ∀ p, p < 12 → lv p = lv' p) (f : Int32) : mLiveIn fr lv f = mLiveIn fr' lv' f := by
  unfold mLiveIn
  refine itN_congr (fun p a hp => ?_) 0
  try dsimp only
  rw [h p hp, h2 p hp]
theorem mPagesIn_c (h : ∀ p, p < 12 → fr p = fr' p) (f : Int32) : mPagesIn fr f = mPagesIn fr' f := by
  unfold mPagesIn
  refine itN_congr (fun p a hp => ?_) 0
  try dsimp only
  rw [h p hp]
theorem mUsed_c (h : ∀ p, p < 12 → fr p = fr' p) (f : Int32) : mUsed fr f = mUsed fr' f := by
  unfold mUsed
  rw [mPagesIn_c h]
theorem fPagesIn_c (h : ∀ p, p < 12 → fr p = fr' p) (f : Int32) : fPagesIn fr f = fPagesIn fr' f := by
  unfold fPagesIn
  refine itN_congr (fun p a hp => ?_) 0
  try dsimp only
  rw [h p hp]
theorem fLive_c (h2 : ∀ p, p < 12 → lv p = lv' p) (a : Int32) : fLive lv a = fLive lv' a := by
  unfold fLive
  by_cases hb : inb a 192 = true
  · obtain ⟨q, hq, rfl⟩ := inb_ex hb (by decide)
    rw [div16 (by omega), ix_nI (by omega), h2 (q / 16) (by omega)]
  · rw [Bool.eq_false_iff.mpr hb, Bool.false_and, Bool.false_and]
theorem fReach_c (h : ∀ p, p < 12 → fr p = fr' p) (h2 : ∀ p, p < 12 → lv p = lv' p) (g a : Int32) : fReach fr lv g a = fReach fr' lv' g a := by
  unfold fReach
  rw [fLive_c h2, fFenced_c h]
theorem fCell_c (h : ∀ p, p < 12 → fr p = fr' p) (a : Int32) : fCell fr a = fCell fr' a := by
  unfold fCell
  rw [fOpen_c h]
  by_cases hb : inb a 192 = true
  · obtain ⟨q, hq, rfl⟩ := inb_ex hb (by decide)
    rw [div16 (by omega), ix_nI (by omega), h (q / 16) (by omega)]
  · rw [Bool.eq_false_iff.mpr hb, if_neg (by rintro ⟨z, -⟩; cases z), if_neg (by rintro ⟨z, -⟩; cases z)]
theorem fLowIn_c (h : ∀ p, p < 12 → fr p = fr' p) (f : Int32) : fLowIn fr f = fLowIn fr' f := by
  unfold fLowIn
  refine ffind_congr 12 0 (fun p _ hp => ?_)
  try dsimp only
  rw [h p (by omega)]
theorem fUsed_c (h : ∀ p, p < 12 → fr p = fr' p) : fUsed fr = fUsed fr' := by
  unfold fUsed
  refine itN_congr (fun p a hp => ?_) 0
  try dsimp only
  rw [h p hp]
theorem fOpens_c (h : ∀ p, p < 12 → fr p = fr' p) : fOpens fr = fOpens fr' := by
  unfold fOpens
  refine itN_congr (fun p a hp => ?_) 0
  try dsimp only
  rw [h p hp]
theorem fTotal_c (h2 : ∀ p, p < 12 → lv p = lv' p) : fTotal lv = fTotal lv' := by
  unfold fTotal
  refine itN_congr (fun p a hp => ?_) 0
  try dsimp only
  rw [h2 p hp]
theorem fSparse_c (h : ∀ p, p < 12 → fr p = fr' p) (h2 : ∀ p, p < 12 → lv p = lv' p) (g s : Int32) : fSparse fr lv g s = fSparse fr' lv' g s := by
  unfold fSparse
  refine itN_congr (fun p a hp => ?_) 0
  try dsimp only
  rw [fLiveIn_c h h2]
theorem mSparse_c (h : ∀ p, p < 12 → fr p = fr' p) (h2 : ∀ p, p < 12 → lv p = lv' p) (g s : Int32) : mSparse fr lv g s = mSparse fr' lv' g s := by
  unfold mSparse
  refine itN_congr (fun p a hp => ?_) 0
  try dsimp only
  rw [mLiveIn_c h h2, mUsed_c h]
theorem fTaken_c (h : ∀ p, p < 12 → fr p = fr' p) (h2 : ∀ p, p < 12 → lv p = lv' p) (g s : Int32) {p : Nat} (hp : p < 12) : fTaken fr lv g s p = fTaken fr' lv' g s p := by
  unfold fTaken
  rw [h p hp, fLiveIn_c h h2, fLiveIn_c h h2]
theorem fSlot_c (h : ∀ p, p < 12 → fr p = fr' p) (h2 : ∀ p, p < 12 → lv p = lv' p) (h3 : ∀ p i, p < 12 → ¬ fr' p = -1 → i < 16 → vec (p * 16 + i) = vec' (p * 16 + i)) (g s a : Int32) : fSlot fr lv vec g s a = fSlot fr' lv' vec' g s a := by
  unfold fSlot
  rw [fOpen_c h, fFenced_c h]
  by_cases hc : fOpen fr' a = true ∧ fFenced fr' g a = false
  · rw [if_pos hc, if_pos hc]
    have ho := hc.1
    unfold fOpen at ho
    rw [Bool.and_eq_true] at ho
    obtain ⟨p, hp, rfl⟩ := inb_ex ho.1 (by decide)
    have ho2 := of_decide_eq_true ho.2
    rw [x12 hp] at ho2 ⊢
    have hcc : ∀ i, 0 ≤ i → i < 0 + 16 → decide (shrI (fTaken fr' lv' g s p) (vec (p * 16 + i)) &&& 1 = 0) = decide (shrI (fTaken fr' lv' g s p) (vec' (p * 16 + i)) &&& 1 = 0) := fun i _ hi => by rw [h3 p i hp ho2 (by omega)]
    rw [fTaken_c h h2 g s hp, ffind_congr 16 0 hcc]
    cases hf : ffind (fun i => decide (shrI (fTaken fr' lv' g s p) (vec' (p * 16 + i)) &&& 1 = 0)) 0 16 with
    | none => rfl
    | some i =>
      obtain ⟨-, hi, -⟩ := ffind_some hf
      exact h3 p i hp ho2 (by omega)
  · rw [if_neg hc, if_neg hc]
theorem fNew_c (h : ∀ p, p < 12 → fr p = fr' p) : fNew fr = fNew fr' := by
  unfold fNew
  refine ffind_congr 12 0 (fun p _ hp => ?_)
  try dsimp only
  rw [h p (by omega)]
theorem fFree_c (h : ∀ p, p < 12 → fr p = fr' p) : fFree fr = fFree fr' := by
  unfold fFree
  rw [fUsed_c h]
theorem fGiver_c (h : ∀ p, p < 12 → fr p = fr' p) (h2 : ∀ p, p < 12 → lv p = lv' p) (h3 : ∀ p i, p < 12 → ¬ fr' p = -1 → i < 16 → vec (p * 16 + i) = vec' (p * 16 + i)) (g s : Int32) : fGiver fr lv vec g s = fGiver fr' lv' vec' g s := by
  unfold fGiver
  refine ffind_congr 12 0 (fun p _ hp => ?_)
  try dsimp only
  rw [fSlot_c h h2 h3]
theorem fRoom_c (h : ∀ p, p < 12 → fr p = fr' p) (h2 : ∀ p, p < 12 → lv p = lv' p) (h3 : ∀ p i, p < 12 → ¬ fr' p = -1 → i < 16 → vec (p * 16 + i) = vec' (p * 16 + i)) (g s : Int32) : fRoom fr lv vec g s = fRoom fr' lv' vec' g s := by
  unfold fRoom
  rw [fGiver_c h h2 h3, fNew_c h]
theorem fValAt_c (hF : FrOK fr') (h : ∀ p, p < 12 → fr p = fr' p) (h4 : ∀ i, i < 192 → val i = val' i) (a : Int32) : fValAt fr val a = fValAt fr' val' a := by
  unfold fValAt
  rw [fOpen_c h, fCell_c h]
  by_cases hc : inb a 192 = true ∧ fOpen fr' (a / 16) = true
  · rw [if_pos hc, if_pos hc]
    rcases fCell_in hF a with ⟨-, hn⟩ | ⟨q, p, f, hq, rfl, hp, hf, e2, e3, e4⟩
    · exact absurd hc hn
    · rw [e3, ix_nI (by omega)]; exact h4 _ e4
  · rw [if_neg hc, if_neg hc]
theorem FrOK_c (h : ∀ p, p < 12 → fr p = fr' p) (hF : FrOK fr') : FrOK fr := fun p hp => by rw [h p hp]; exact hF p hp
theorem LvOK_c (h2 : ∀ p, p < 12 → lv p = lv' p) (hL : LvOK lv') : LvOK lv := fun p hp => by rw [h2 p hp]; exact hL p hp
theorem LvFr_c (h : ∀ p, p < 12 → fr p = fr' p) (h2 : ∀ p, p < 12 → lv p = lv' p) (hL : LvFr fr' lv') : LvFr fr lv := fun p hp => by rw [h p hp, h2 p hp]; exact hL p hp
theorem OpLv_c (h : ∀ p, p < 12 → fr p = fr' p) (h2 : ∀ p, p < 12 → lv p = lv' p) (hL : OpLv fr' lv') : OpLv fr lv := fun p hp => by rw [h p hp, h2 p hp]; exact hL p hp
end CG
/-! what holds of the pages always -/
def GSOK (A : AS) : Prop := (A 0 3 = -1 ∧ A 0 4 = -1 ∧ A 0 5 = 0) ∨ ∃ g s m k : Nat, g < 12 ∧ s < 12 ∧ ¬ g = s ∧ m < 65536 ∧ k < 65536 ∧ A 0 3 = nI g ∧ A 0 4 = nI s ∧ A 0 5 = nI m ∧ mUsed (A 1) (nI g) = true ∧ mLiveIn (A 1) (A 2) (nI g) = nI k ∧ pop k ≤ 8
def XOK (A : AS) : Prop := ∃ k : Nat, k < 31123 ∧ A 0 1 = nI k
def VcOK (A : AS) : Prop := ∀ p, p < 12 → ¬ A 1 p = -1 → (∀ i, i < 16 → ∃ v : Nat, v < 16 ∧ A 3 (p * 16 + i) = nI v) ∧ (∀ v, v < 16 → ∃ i, i < 16 ∧ A 3 (p * 16 + i) = nI v)
def VlOK (A : AS) : Prop := ∀ i, i < 192 → ∃ v : Nat, v < 1000 ∧ A 4 i = nI v
def LnOK (A : AS) : Prop := ∃ n : Nat, n ≤ 25 ∧ A 0 6 = nI n
def Inv (A : AS) : Prop := FrOK (A 1) ∧ LvOK (A 2) ∧ LvFr (A 1) (A 2) ∧ OpLv (A 1) (A 2) ∧ GSOK A ∧ XOK A ∧ DOK A ∧ VcOK A ∧ VlOK A ∧ LnOK A
section IV
variable {A : AS}
theorem iF (I : Inv A) : FrOK (A 1) := I.1
theorem iL (I : Inv A) : LvOK (A 2) := I.2.1
theorem iLF (I : Inv A) : LvFr (A 1) (A 2) := I.2.2.1
theorem iO (I : Inv A) : OpLv (A 1) (A 2) := I.2.2.2.1
theorem iG (I : Inv A) : GSOK A := I.2.2.2.2.1
theorem iX (I : Inv A) : XOK A := I.2.2.2.2.2.1
theorem iD (I : Inv A) : DOK A := I.2.2.2.2.2.2.1
theorem iV (I : Inv A) : VcOK A := I.2.2.2.2.2.2.2.1
theorem iW (I : Inv A) : VlOK A := I.2.2.2.2.2.2.2.2.1
theorem iN (I : Inv A) : LnOK A := I.2.2.2.2.2.2.2.2.2
theorem iGS (I : Inv A) : A 0 3 = -1 → A 0 4 = -1 := fun h => by
  rcases iG I with z | ⟨g, s, m, k, hg, -, -, -, -, e, -⟩
  · exact z.2.1
  · rw [e] at h; exact absurd h (nI_m1 (by omega))
end IV
section CR
variable {S : Mem} {t : Nat} {A : AS}
theorem c1 (h : CP S t A) : ∀ p, p < 12 → rdI S (t + 1) p = A 1 p := fun p hp => h.1 1 p (by decide) hp
theorem c2 (h : CP S t A) : ∀ p, p < 12 → rdI S (t + 2) p = A 2 p := fun p hp => h.1 2 p (by decide) hp
theorem c3 (h : CP S t A) : ∀ i, i < 192 → rdI S (t + 3) i = A 3 i := fun p hp => h.1 3 p (by decide) hp
theorem c3' (h : CP S t A) : ∀ p i, p < 12 → ¬ A 1 p = -1 → i < 16 → rdI S (t + 3) (p * 16 + i) = A 3 (p * 16 + i) := fun p i hp _ hi => c3 h _ (by omega)
theorem c4 (h : CP S t A) : ∀ i, i < 192 → rdI S (t + 4) i = A 4 i := fun p hp => h.1 4 p (by decide) hp
theorem c0 (h : CP S t A) {j : Nat} (hj : j < 7) : rdI S t j = A 0 j := h.1 0 j (by decide) hj
/-- the class's reads -/
theorem kc_open (h : CP S t A) (d : Nat) (a : Int32) : cal d 6 [vR 1 t, vI a] S = some (some (vI (b2i (fOpen (A 1) a))), S) := by rw [sp_isOpen, fOpen_c (c1 h)]
theorem kc_fenced (h : CP S t A) (d : Nat) (a : Int32) : cal (d + 1) 7 [vR 1 t, vI a] S = some (some (vI (b2i (fFenced (A 1) (A 0 3) a))), S) := by rw [sp_isFenced, fFenced_c (c1 h), c0 h (by decide)]
theorem kc_liveIn (h : CP S t A) (d : Nat) (f : Int32) : cal d 15 [vR 1 t, vI f] S = some (some (vI (fLiveIn (A 1) (A 2) f)), S) := by rw [sp_liveIn, fLiveIn_c (c1 h) (c2 h)]
theorem kc_live (h : CP S t A) (d : Nat) (a : Int32) : cal d 8 [vR 1 t, vI a] S = some (some (vI (b2i (fLive (A 2) a))), S) := by rw [sp_isLive, fLive_c (c2 h)]
theorem kc_reach (h : CP S t A) (d : Nat) (a : Int32) : cal (d + 2) 9 [vR 1 t, vI a] S = some (some (vI (b2i (fReach (A 1) (A 2) (A 0 3) a))), S) := by rw [sp_isReachable, fReach_c (c1 h) (c2 h), c0 h (by decide)]
theorem kc_valueAt (h : CP S t A) (I : Inv A) (d : Nat) (a : Int32) : cal (d + 2) 11 [vR 1 t, vI a] S = some (some (vI (fValAt (A 1) (A 4) a)), S) := by rw [sp_valueAt d t a S (FrOK_c (c1 h) (iF I)), fValAt_c (iF I) (c1 h) (c4 h)]
theorem kc_pagesIn (h : CP S t A) (d : Nat) (f : Int32) : cal d 13 [vR 1 t, vI f] S = some (some (vI (fPagesIn (A 1) f)), S) := by rw [sp_pagesIn, fPagesIn_c (c1 h)]
theorem kc_lowIn (h : CP S t A) (d : Nat) (f : Int32) : cal d 14 [vR 1 t, vI f] S = some (some (vI (oI (fLowIn (A 1) f))), S) := by rw [sp_lowestPageIn, fLowIn_c (c1 h)]
theorem kc_used (h : CP S t A) (d : Nat) : cal d 16 [vR 1 t] S = some (some (vI (fUsed (A 1))), S) := by rw [sp_framesUsed, fUsed_c (c1 h)]
theorem kc_opens (h : CP S t A) (d : Nat) : cal d 17 [vR 1 t] S = some (some (vI (fOpens (A 1))), S) := by rw [sp_openPages, fOpens_c (c1 h)]
theorem kc_total (h : CP S t A) (d : Nat) : cal (d + 1) 18 [vR 1 t] S = some (some (vI (fTotal (A 2))), S) := by rw [sp_liveTotal, fTotal_c (c2 h)]
def aSparse (A : AS) : Int32 := fSparse (A 1) (A 2) (A 0 3) (A 0 4)
def aSlot (A : AS) (a : Int32) : Int32 := fSlot (A 1) (A 2) (A 3) (A 0 3) (A 0 4) a
def aGiver (A : AS) : Option Nat := fGiver (A 1) (A 2) (A 3) (A 0 3) (A 0 4)
def aRoom (A : AS) : Bool := fRoom (A 1) (A 2) (A 3) (A 0 3) (A 0 4)
theorem kc_sparse (h : CP S t A) (d : Nat) : cal (d + 1) 19 [vR 1 t] S = some (some (vI (aSparse A)), S) := by unfold aSparse; rw [sp_sparseFrames, fSparse_c (c1 h) (c2 h), c0 h (by decide), c0 h (by decide)]
theorem kc_slot (h : CP S t A) (d : Nat) (a : Int32) : cal (d + 2) 22 [vR 1 t, vI a] S = some (some (vI (aSlot A a)), S) := by unfold aSlot; rw [sp_slotToGive, fSlot_c (c1 h) (c2 h) (c3' h), c0 h (by decide), c0 h (by decide)]
theorem kc_giver (h : CP S t A) (d : Nat) : cal (d + 3) 23 [vR 1 t] S = some (some (vI (oI (aGiver A))), S) := by unfold aGiver; rw [sp_lowestGivingPage, fGiver_c (c1 h) (c2 h) (c3' h), c0 h (by decide), c0 h (by decide)]
theorem kc_room (h : CP S t A) (d : Nat) : cal (d + 4) 25 [vR 1 t] S = some (some (vI (b2i (aRoom A))), S) := by unfold aRoom; rw [sp_hasRoom, fRoom_c (c1 h) (c2 h) (c3' h), c0 h (by decide), c0 h (by decide)]
theorem kc_new (h : CP S t A) (d : Nat) : cal (d + 1) 24 [vR 1 t] S = some (some (vI (oI (fNew (A 1)))), S) := by rw [sp_lowestNewPage, fNew_c (c1 h)]
theorem kc_free (h : CP S t A) (d : Nat) : cal (d + 1) 26 [vR 1 t] S = some (some (vI (oI (fFree (A 1)))), S) := by rw [sp_lowestFreeFrame, fFree_c (c1 h)]
end CR
section MR
variable {S : Mem} {r : Nat} {A : AS}
theorem m1 (h : RP S (r + 1) 4 A) : ∀ p, p < 12 → Rw 11 S r p = A 1 p := fun p hp => by
  have := h.1 1 p (by decide) (by decide) hp
  rw [← this]; show rdI S (r + 1) (11 + p) = rdI S (r + 1) (4 + (7 + p)); congr 1; omega
theorem m2 (h : RP S (r + 1) 4 A) : ∀ p, p < 12 → Rw 23 S r p = A 2 p := fun p hp => by
  have := h.1 2 p (by decide) (by decide) hp
  rw [← this]; show rdI S (r + 1) (23 + p) = rdI S (r + 1) (4 + (19 + p)); congr 1; omega
theorem m3 (h : RP S (r + 1) 4 A) : ∀ p i, p < 12 → ¬ A 1 p = -1 → i < 16 → Rw 35 S r (p * 16 + i) = A 3 (p * 16 + i) := fun p i hp ho hi => by
  have := h.2 p i hp ho hi
  rw [← this]; show rdI S (r + 1) (35 + (p * 16 + i)) = rdI S (r + 1) (4 + (31 + (p * 16 + i))); congr 1; omega
theorem m4 (h : RP S (r + 1) 4 A) : ∀ i, i < 192 → Rw 227 S r i = A 4 i := fun p hp => by
  have := h.1 4 p (by decide) (by decide) hp
  rw [← this]; show rdI S (r + 1) (227 + p) = rdI S (r + 1) (4 + (223 + p)); congr 1; omega
theorem m5 (h : RP S (r + 1) 4 A) : ∀ i, i < 25 → rdI S (r + 1) (419 + i) = A 5 i := fun p hp => by
  have := h.1 5 p (by decide) (by decide) hp
  rw [← this]; show rdI S (r + 1) (419 + p) = rdI S (r + 1) (4 + (415 + p)); congr 1; omega
theorem m0 (h : RP S (r + 1) 4 A) {j : Nat} (hj : j < 7) : rdI S (r + 1) (4 + j) = A 0 j := by
  have := h.1 0 j (by decide) (by decide) hj
  rw [← this]; show rdI S (r + 1) (4 + j) = rdI S (r + 1) (4 + (0 + j)); congr 1; omega
theorem m07 (h : RP S (r + 1) 4 A) : rdI S (r + 1) 7 = A 0 3 := m0 h (j := 3) (by decide)
theorem m08 (h : RP S (r + 1) 4 A) : rdI S (r + 1) 8 = A 0 4 := m0 h (j := 4) (by decide)
/-- the reference's reads -/
theorem km_open (h : RP S (r + 1) 4 A) (d : Nat) (a : Int32) : cal (d + 2) 163 [vR 8 r, vI a] S = some (some (vI (b2i (fOpen (A 1) a))), S) := by rw [sp_misOpen, fOpen_c (m1 h)]
theorem km_areOpen (h : RP S (r + 1) 4 A) (d : Nat) (a b : Int32) : cal (d + 3) 164 [vR 8 r, vI a, vI b] S = some (some (vI (b2i (fOpen (A 1) a && fOpen (A 1) b))), S) := by rw [sp_mareOpen, fOpen_c (m1 h), fOpen_c (m1 h)]
theorem km_pagesIn (h : RP S (r + 1) 4 A) (d : Nat) {f : Int32} (hf : ¬ f = -1) : cal d 165 [vR 8 r, vI f] S = some (some (vI (fPagesIn (A 1) f)), S) := by rw [sp_mpagesIn, mPagesIn_c (m1 h), mPagesIn_f _ hf]
theorem km_liveIn (h : RP S (r + 1) 4 A) (d : Nat) {f : Int32} (hf : ¬ f = -1) : cal d 166 [vR 8 r, vI f] S = some (some (vI (fLiveIn (A 1) (A 2) f)), S) := by rw [sp_mliveIn, mLiveIn_c (m1 h) (m2 h), mLiveIn_f _ _ hf]
theorem km_isUsed (h : RP S (r + 1) 4 A) (d : Nat) (f : Int32) : cal (d + 1) 167 [vR 8 r, vI f] S = some (some (vI (b2i (mUsed (A 1) f))), S) := by rw [sp_misUsed, mUsed_c (m1 h)]
theorem km_used (h : RP S (r + 1) 4 A) (d : Nat) : cal d 168 [vR 8 r] S = some (some (vI (fUsed (A 1))), S) := by rw [sp_musedFrames, fUsed_c (m1 h)]
theorem km_opens (h : RP S (r + 1) 4 A) (d : Nat) : cal d 169 [vR 8 r] S = some (some (vI (fOpens (A 1))), S) := by rw [sp_mopenPages, fOpens_c (m1 h)]
theorem km_total (h : RP S (r + 1) 4 A) (I : Inv A) (d : Nat) : cal (d + 1) 170 [vR 8 r] S = some (some (vI (fTotal (A 2))), S) := by rw [sp_mallLive d r S (LvOK_c (m2 h) (iL I)), mTotal_f (LvFr_c (m1 h) (m2 h) (iLF I)), fTotal_c (m2 h)]
theorem km_fenced (h : RP S (r + 1) 4 A) (d : Nat) {p : Nat} (hp : p < 12) : cal d 171 [vR 8 r, vI (nI p)] S = some (some (vI (b2i (fFenced (A 1) (A 0 3) (nI p)))), S) := by rw [sp_misFenced d r p hp, ← fenced_same hp, fFenced_c (m1 h), m07 h]
theorem km_bound (h : RP S (r + 1) 4 A) (d : Nat) (f : Int32) : cal d 172 [vR 8 r, vI f] S = some (some (vI (b2i (mBound (A 0 3) (A 0 4) f))), S) := by rw [sp_misBound, m07 h, m08 h]
theorem km_sparse (h : RP S (r + 1) 4 A) (I : Inv A) (d : Nat) : cal (d + 2) 173 [vR 8 r] S = some (some (vI (aSparse A)), S) := by
  unfold aSparse
  rw [sp_msparseFrames d r S (LvOK_c (m2 h) (iL I)), mSparse_c (m1 h) (m2 h), m07 h, m08 h, sparse_same (iL I) (iO I) (iGS I)]
theorem km_live (h : RP S (r + 1) 4 A) (I : Inv A) (d : Nat) (a : Int32) : cal (d + 3) 174 [vR 8 r, vI a] S = some (some (vI (b2i (fLive (A 2) a))), S) := by rw [sp_misLive, ← live_same (LvFr_c (m1 h) (m2 h) (iLF I)), fLive_c (m2 h)]
theorem km_valueAt (h : RP S (r + 1) 4 A) (d : Nat) {f i : Nat} (hf : f < 12) (hi : i < 16) : cal d 175 [vR 8 r, vI (nI f), vI (nI i)] S = some (some (vI (A 4 (f * 16 + i))), S) := by rw [sp_mvalueAt d r f i hf hi, m4 h _ (by omega)]
theorem km_slot (h : RP S (r + 1) 4 A) (hgs : A 0 3 = -1 → A 0 4 = -1) (d : Nat) {p : Nat} (hp : p < 12) : cal (d + 1) 231 [vR 8 r, vI (nI p)] S = some (some (vI (aSlot A (nI p))), S) := by
  unfold aSlot
  rw [sp_mnextSlot d r p hp, ← slot_same (by rw [m07 h, m08 h]; exact hgs) hp, fSlot_c (m1 h) (m2 h) (m3 h), m07 h, m08 h]
theorem km_new (h : RP S (r + 1) 4 A) (d : Nat) : cal d 232 [vR 8 r] S = some (some (vI (oI (fNew (A 1)))), S) := by rw [sp_mlowestNew, fNew_c (m1 h)]
theorem mFree_c {fr fr' : Nat → Int32} (h : ∀ p, p < 12 → fr p = fr' p) : mFree fr = mFree fr' := by
  unfold mFree
  refine ffind_congr 12 0 (fun p _ hp => ?_)
  try dsimp only
  rw [mUsed_c h]
theorem km_free (h : RP S (r + 1) 4 A) (I : Inv A) (d : Nat) : cal (d + 2) 233 [vR 8 r] S = some (some (vI (oI (fFree (A 1)))), S) := by rw [sp_mlowestUnused, mFree_c (m1 h), free_same (iF I)]
theorem mGiver_e {fr lv vec : Nat → Int32} {g s : Int32} (hgs : g = -1 → s = -1) : mGiver fr lv vec g s = fGiver fr lv vec g s := (giver_same hgs).symm
theorem km_giver (h : RP S (r + 1) 4 A) (I : Inv A) (d : Nat) : cal (d + 2) 234 [vR 8 r] S = some (some (vI (oI (aGiver A))), S) := by
  unfold aGiver
  rw [sp_mgiver, mGiver_e (by rw [m07 h, m08 h]; exact iGS I), fGiver_c (m1 h) (m2 h) (m3 h), m07 h, m08 h]
theorem km_room (h : RP S (r + 1) 4 A) (I : Inv A) (d : Nat) : cal (d + 3) 235 [vR 8 r] S = some (some (vI (b2i (aRoom A))), S) := by
  unfold aRoom
  rw [sp_mcanGive, ← room_same (by rw [m07 h, m08 h]; exact iGS I), fRoom_c (m1 h) (m2 h) (m3 h), m07 h, m08 h]
end MR
