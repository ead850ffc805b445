/-- twelve frames in use want twelve pages -/
theorem free_of_new {fr : Nat → Int32} (h : (fNew fr).isSome = true) : (mFree fr).isSome = true := by
  cases hn : fNew fr with
  | none => rw [hn] at h; cases h
  | some p0 =>
    obtain ⟨-, hp0, e0, -⟩ := ffind_some hn
    rw [Nat.zero_add] at hp0
    have e0 : fr p0 = -1 := of_decide_eq_true e0
    cases hm : mFree fr with
    | some f => rfl
    | none =>
      exfalso
      have hall := ffind_none hm
      have hsub : (List.range 12).map nI ⊆ ((List.range 12).erase p0).map fr := by
        intro x hx
        obtain ⟨f, hf, rfl⟩ := List.mem_map.mp hx
        have hf := List.mem_range.mp hf
        have hu : mUsed fr (nI f) = true := by
          have := hall f (Nat.zero_le _) (by omega)
          simpa using this
        have hex : ∃ p, p < 12 ∧ fr p = nI f := by
          refine Classical.byContradiction (fun hno => ?_)
          have := (mUsed_iff fr (nI f)).mpr (fun p hp e => hno ⟨p, hp, e⟩)
          rw [hu] at this; cases this
        obtain ⟨p, hp, e⟩ := hex
        refine List.mem_map.mpr ⟨p, (List.Nodup.mem_erase_iff List.nodup_range).mpr ⟨fun z => ?_, List.mem_range.mpr hp⟩, e⟩
        rw [z, e0] at e
        exact nI_m1 (by omega) e.symm
      have hnd : ((List.range 12).map nI).Nodup := by decide +kernel
      have hlen := List.Nodup.length_le_of_subset hnd hsub
      rw [List.length_map, List.length_map, List.length_erase_of_mem (List.mem_range.mpr hp0), List.length_range] at hlen
      omega
theorem room_same {fr lv vec : Nat → Int32} {g s : Int32} (hgs : g = -1 → s = -1) : fRoom fr lv vec g s = mRoom fr lv vec g s := by
  unfold fRoom mRoom
  rw [giver_same hgs]
  cases h : (fNew fr).isSome
  · rw [Bool.false_and]
  · rw [free_of_new h]; rfl
