/-! the String's two methods: OPEN -/
theorem so_slen {w : WT} {l : Launch} {hs : Bool} {mid pc idx : Nat} (hd : decode (cdB mid) pc = .ok (.invokevirtual idx, 3)) (hl : Cond.methodLink (yM mid).cls idx yJ0_length_8abf5 ∈ lw_good) : Snd w l hs mid pc (opSln 129 (pc + 3)) := sorry
theorem so_scha {w : WT} {l : Launch} {hs : Bool} {mid pc idx : Nat} (hd : decode (cdB mid) pc = .ok (.invokevirtual idx, 3)) (hl : Cond.methodLink (yM mid).cls idx yJ0_charAt_5068e ∈ lw_good) : Snd w l hs mid pc (opSch 129 wTx (pc + 3)) := sorry
theorem so_astore_n {w : WT} {l : Launch} {hs : Bool} {mid pc : Nat} {i : Fin 4} (hd : decode (cdB mid) pc = .ok (.astore_n i, 1)) : Snd w l hs mid pc (opAst (i : Nat) (pc + 1)) := by
  intro C N d hC hN lv st S R' h
  unfold opAst at h
  split at h
  next κ t r =>
    cases hk0 : Nat.beq κ 99
    next =>
      rw [hk0] at h
      replace h := cond_some h
      obtain ⟨hk, h⟩ := h
      have k := hN _ _ _ _ _ h
      refine ⟨k.1, fun p e R s m args below meth c cells slots Q A a b H locs ls r1 r2 r3 r4 => ?_⟩
      have hlt := Nat.le_of_ble_eq_true hk
      rw [r2.2.2.1] at hlt
      obtain ⟨q, hq⟩ : ∃ q, cv w (vR κ t) = .ref q := by
        show ∃ q, (if κ = 40 then Value.ref (wsc w) else if κ = 30 then Value.ref (wK w 0) else Value.ref (wb w + t)) = .ref q
        split
        · exact ⟨_, rfl⟩
        · split <;> exact ⟨_, rfl⟩
      have kk := fun (ls' : Array Slot) h' => k.2 p e R s m args below meth c cells slots Q A a b H locs ls' r1 (r2.st1 (v := vR κ t) h') (VRs_ls1 r3 (VRs_hd r4)) (VRs_tl r4)
      rw [hq] at kk
      rw [List.map_cons, show cv w (Sum.inr (Sum.inr (κ, t))) = Value.ref q from hq]
      exact lv_astore_n a.1 a.2.1 hd rfl r2.has (by omega) rfl (fun ls' h' => kk ls' h')
    next => rw [hk0] at h; cases h
  next => cases h
