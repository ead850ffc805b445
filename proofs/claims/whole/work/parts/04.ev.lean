/-! run, ev, and a step row an op -/
noncomputable def run : Nat → Nat → Nat → Nat → List AV → List AV → Mem → Option Res
  | 0, _, _, _, _, _, _ => none
  | n + 1, d, m, pc, l, st, S => code_ m pc (fun d' m' as S' => cond (Nat.ble (exps as).length (mxL m')) (run n d' m' 0 (ent (mxL m') as) [] S') none) (fun pc' l' st' S' => run n d m pc' l' st' S') d l st S
noncomputable def ev (d m pc : Nat) (l st : List AV) (S : Mem) : Option Res :=
  @dite _ (∃ R n, run n d m pc l st S = some R) (Classical.propDecidable _) (fun h => some (Classical.choose h)) (fun _ => none)
noncomputable def cal (d m : Nat) (as : List AV) (S : Mem) : Option Res := cond (Nat.ble (exps as).length (mxL m)) (ev d m 0 (ent (mxL m) as) [] S) none
theorem run_mono (hC : ∀ m pc, Cts (code_ m pc)) : ∀ (n d m pc : Nat) (l st : List AV) (S : Mem) (R : Res), run n d m pc l st S = some R → run (n + 1) d m pc l st S = some R := by
  intro n
  induction n with
  | zero => intro d m pc l st S R h; cases h
  | succ n ih =>
    intro d m pc l st S R h
    unfold run at h ⊢
    rcases (hC m pc d l st S : Sh _) with h1 | ⟨R1, h1⟩ | ⟨pc', l', st', S', h1⟩ | ⟨d', m', as, S1, F, h1⟩
    · dsimp only at h1; rw [h1] at h; cases h
    · dsimp only at h1; rw [h1] at h ⊢; exact h
    · dsimp only at h1; rw [h1] at h ⊢; exact ih _ _ _ _ _ _ _ h
    · dsimp only at h1; rw [h1] at h ⊢
      try dsimp only at h ⊢
      cases hb : Nat.ble (exps as).length (mxL m')
      · rw [hb] at h; cases h
      · rw [hb] at h
        dsimp only [cond] at h ⊢
        cases hr : run n d' m' 0 (ent (mxL m') as) [] S1 with
        | none => rw [hr] at h; cases h
        | some r =>
          rw [hr] at h
          rw [ih _ _ _ _ _ _ _ hr]
          cases hF : F r with
          | none => simp only [Option.bind, hF] at h; cases h
          | some q =>
            simp only [Option.bind, hF] at h ⊢
            exact ih _ _ _ _ _ _ _ h
theorem run_le (hC : ∀ m pc, Cts (code_ m pc)) {n n' : Nat} (h : n ≤ n') {d m pc : Nat} {l st : List AV} {S : Mem} {R : Res} (hr : run n d m pc l st S = some R) : run n' d m pc l st S = some R := by
  induction h with
  | refl => exact hr
  | step _ ih => exact run_mono hC _ _ _ _ _ _ _ _ ih
theorem ev_of (hC : ∀ m pc, Cts (code_ m pc)) {n d m pc : Nat} {l st : List AV} {S : Mem} {R : Res} (hr : run n d m pc l st S = some R) : ev d m pc l st S = some R := by
  have hx : ∃ R n, run n d m pc l st S = some R := ⟨R, n, hr⟩
  unfold ev
  rw [dif_pos hx]
  obtain ⟨n', h'⟩ := Classical.choose_spec hx
  have e1 := run_le hC (Nat.le_max_left n n') hr
  have e2 := run_le hC (Nat.le_max_right n n') h'
  exact (e2.symm.trans e1)
theorem ev_to {d m pc : Nat} {l st : List AV} {S : Mem} {R : Res} (h : ev d m pc l st S = some R) : ∃ n, run n d m pc l st S = some R := by
  unfold ev at h
  split at h
  next hx =>
    obtain ⟨n', h'⟩ := Classical.choose_spec hx
    exact ⟨n', h'.trans h⟩
  next => cases h
theorem ev_fix0 (hC : ∀ m pc, Cts (code_ m pc)) (d m pc : Nat) (l st : List AV) (S : Mem) : ev d m pc l st S = code_ m pc cal (fun pc' l' st' S' => ev d m pc' l' st' S') d l st S := by
  have key : ∀ R : Res, ev d m pc l st S = some R ↔ code_ m pc cal (fun pc' l' st' S' => ev d m pc' l' st' S') d l st S = some R := by
    intro R
    constructor
    · intro h
      obtain ⟨n, hn⟩ := ev_to h
      cases n with
      | zero => cases hn
      | succ n =>
        unfold run at hn
        rcases (hC m pc d l st S : Sh _) with h1 | ⟨R1, h1⟩ | ⟨pc', l', st', S', h1⟩ | ⟨d', m', as, S1, F, h1⟩
        · dsimp only at h1; rw [h1] at hn; cases hn
        · dsimp only at h1; rw [h1] at hn ⊢; exact hn
        · dsimp only at h1; rw [h1] at hn ⊢; exact ev_of hC hn
        · dsimp only at h1; rw [h1] at hn ⊢
          unfold cal
          try dsimp only at hn
          cases hb : Nat.ble (exps as).length (mxL m')
          · rw [hb] at hn; cases hn
          · rw [hb] at hn
            dsimp only [cond] at hn ⊢
            cases hr : run n d' m' 0 (ent (mxL m') as) [] S1 with
            | none => rw [hr] at hn; cases hn
            | some r =>
              rw [hr] at hn
              rw [ev_of hC hr]
              cases hF : F r with
              | none => simp only [Option.bind, hF] at hn; cases hn
              | some q =>
                simp only [Option.bind, hF] at hn ⊢
                exact ev_of hC hn
    · intro h
      rcases (hC m pc d l st S : Sh _) with h1 | ⟨R1, h1⟩ | ⟨pc', l', st', S', h1⟩ | ⟨d', m', as, S1, F, h1⟩
      · dsimp only at h1; rw [h1] at h; cases h
      · dsimp only at h1; rw [h1] at h
        exact ev_of hC (n := 1) (by unfold run; rw [h1]; exact h)
      · dsimp only at h1; rw [h1] at h
        obtain ⟨n, hn⟩ := ev_to h
        exact ev_of hC (n := n + 1) (by unfold run; rw [h1]; exact hn)
      · dsimp only at h1; rw [h1] at h
        unfold cal at h
        cases hb : Nat.ble (exps as).length (mxL m')
        · rw [hb] at h; cases h
        · rw [hb] at h
          dsimp only [cond] at h
          cases hr : ev d' m' 0 (ent (mxL m') as) [] S1 with
          | none => rw [hr] at h; cases h
          | some r =>
            rw [hr] at h
            cases hF : F r with
            | none => simp only [Option.bind, hF] at h; cases h
            | some q =>
              simp only [Option.bind, hF] at h
              obtain ⟨n1, hn1⟩ := ev_to hr
              obtain ⟨n2, hn2⟩ := ev_to h
              refine ev_of hC (n := max n1 n2 + 1) ?_
              unfold run
              rw [h1]
              try dsimp only
              rw [hb]
              dsimp only [cond]
              rw [run_le hC (Nat.le_max_left n1 n2) hn1]
              simp only [Option.bind, hF]
              exact run_le hC (Nat.le_max_right n1 n2) hn2
  cases h1 : ev d m pc l st S with
  | none =>
    cases h2 : code_ m pc cal (fun pc' l' st' S' => ev d m pc' l' st' S') d l st S with
    | none => rfl
    | some R => rw [(key R).mpr h2] at h1; cases h1
  | some R => exact ((key R).mp h1).symm
theorem ev_fix (d m pc : Nat) (l st : List AV) (S : Mem) : ev d m pc l st S = code_ m pc cal (fun pc' l' st' S' => ev d m pc' l' st' S') d l st S := ev_fix0 ct_all d m pc l st S
section ST
variable {d m pc : Nat} {l st : List AV} {S : Mem}
theorem ev_op {o : Op_} (h : code_ m pc = o) : ev d m pc l st S = o cal (fun pc' l' st' S' => ev d m pc' l' st' S') d l st S := by rw [ev_fix, h]
theorem s_K (ks : List Nat) {o : Op_} {l' : List AV} (h : code_ m pc = opMask ks o) (e : lmask ks l = l') : ev d m pc l st S = o cal (fun pc' l' st' S' => ev d m pc' l' st' S') d l' st S := by rw [ev_op h]; subst e; rfl
end ST
section SO
variable {d m pc : Nat} {l st r : List AV} {S : Mem} {X : Option Res}
/-- the ev of an op: what a row of ours rewrites -/
noncomputable def evo (o : Op_) (d m : Nat) (l st : List AV) (S : Mem) : Option Res := o cal (fun pc' l' st' S' => ev d m pc' l' st' S') d l st S
theorem E0 {o : Op_} (h : code_ m pc = o) (k : evo o d m l st S = X) : ev d m pc l st S = X := (ev_op h).trans k
theorem EK {ks : List Nat} {o : Op_} {l' : List AV} (h : code_ m pc = opMask ks o) (e : lmask ks l = l') (k : evo o d m l' st S = X) : ev d m pc l st S = X := (s_K ks h e).trans k
theorem cE {as l : List AV} (e : ent (mxL m) as = l) (e2 : Nat.ble (exps as).length (mxL m) = true) (k : ev d m 0 l [] S = X) : cal d m as S = X := by unfold cal; rw [e, e2]; exact k
theorem Lf : ev d m pc l st S = ev d m pc l st S := rfl
theorem aC {v : AV} {n : Nat} (k : ev d m n l (v :: st) S = X) : evo (opC v n) d m l st S = X := k
theorem aIld {i n : Nat} {x : Int32} (e : lg l i = vI x) (k : ev d m n l (vI x :: st) S = X) : evo (opIld i n) d m l st S = X := by unfold evo opIld; rw [e]; exact k
theorem aLld {i n : Nat} {x : Int64} (e : lg l i = vL x) (k : ev d m n l (vL x :: st) S = X) : evo (opLld i n) d m l st S = X := by unfold evo opLld; rw [e]; exact k
theorem aAld {i n a t : Nat} (e : lg l i = vR a t) (e2 : Nat.beq a 99 = false) (k : ev d m n l (vR a t :: st) S = X) : evo (opAld i n) d m l st S = X := by unfold evo opAld; rw [e]; show cond (Nat.beq a 99) _ _ = _; rw [e2]; exact k
theorem aIst {i n : Nat} {x : Int32} {l' : List AV} (e : ls1 l i (vI x) = l') (e2 : Nat.ble (i + 1) l.length = true) (k : ev d m n l' r S = X) : evo (opIst i n) d m l (vI x :: r) S = X := by unfold evo opIst; show cond _ _ _ = _; rw [e2, e]; exact k
theorem aLst {i n : Nat} {x : Int64} {l' : List AV} (e : ls2 l i (vL x) = l') (e2 : Nat.ble (i + 2) l.length = true) (k : ev d m n l' r S = X) : evo (opLst i n) d m l (vL x :: r) S = X := by unfold evo opLst; show cond _ _ _ = _; rw [e2, e]; exact k
theorem aAst {i n a t : Nat} {l' : List AV} (e0 : Nat.beq a 99 = false) (e : ls1 l i (vR a t) = l') (e2 : Nat.ble (i + 1) l.length = true) (k : ev d m n l' r S = X) : evo (opAst i n) d m l (vR a t :: r) S = X := by unfold evo opAst; show cond (Nat.beq a 99) _ (cond _ _ _) = _; rw [e0, e2, e]; exact k
theorem aInc {i n : Nat} {x c : Int32} {l' : List AV} (e0 : lg l i = vI x) (e : ls1 l i (vI (x + c)) = l') (e2 : Nat.ble (i + 1) l.length = true) (k : ev d m n l' st S = X) : evo (opInc i c n) d m l st S = X := by unfold evo opInc; rw [e0]; show cond _ _ _ = _; rw [e2, e]; exact k
theorem aB {f : Int32 → Int32 → Int32} {n : Nat} {x y : Int32} (k : ev d m n l (vI (f x y) :: r) S = X) : evo (opB f n) d m l (vI y :: vI x :: r) S = X := k
theorem aBz {f : Int32 → Int32 → Int32} {n : Nat} {x y : Int32} (k : ev d m n l (vI (f x y) :: r) S = X) : evo (opBz f n) d m l (vI y :: vI x :: r) S = gd (nz y) X := by rw [← k]; rfl
theorem aLB {f : Int64 → Int64 → Int64} {n : Nat} {x y : Int64} (k : ev d m n l (vL (f x y) :: r) S = X) : evo (opLB f n) d m l (vL y :: vL x :: r) S = X := k
theorem aLBz {f : Int64 → Int64 → Int64} {n : Nat} {x y : Int64} (k : ev d m n l (vL (f x y) :: r) S = X) : evo (opLBz f n) d m l (vL y :: vL x :: r) S = gd (nzL y) X := by rw [← k]; rfl
theorem aLS {f : Int64 → Int32 → Int64} {n : Nat} {x : Int64} {y : Int32} (k : ev d m n l (vL (f x y) :: r) S = X) : evo (opLS f n) d m l (vI y :: vL x :: r) S = X := k
theorem aU {f : Int32 → Int32} {n : Nat} {x : Int32} (k : ev d m n l (vI (f x) :: r) S = X) : evo (opU f n) d m l (vI x :: r) S = X := k
theorem aLU {f : Int64 → Int64} {n : Nat} {x : Int64} (k : ev d m n l (vL (f x) :: r) S = X) : evo (opLU f n) d m l (vL x :: r) S = X := k
theorem aI2L {n : Nat} {x : Int32} (k : ev d m n l (vL x.toInt64 :: r) S = X) : evo (opI2L n) d m l (vI x :: r) S = X := k
theorem aL2I {n : Nat} {x : Int64} (k : ev d m n l (vI x.toInt32 :: r) S = X) : evo (opL2I n) d m l (vL x :: r) S = X := k
theorem aLcmp {n : Nat} {x y : Int64} (k : ev d m n l (vI (lg_cmp x y) :: r) S = X) : evo (opLcmp n) d m l (vL y :: vL x :: r) S = X := k
theorem aDup {n : Nat} {v : AV} (e : Nat.beq (catV v) 1 = true) (k : ev d m n l (v :: v :: r) S = X) : evo (opDup n) d m l (v :: r) S = X := by unfold evo opDup; show cond _ _ _ = _; rw [e]; exact k
theorem aDup2 {n : Nat} {v w : AV} (e : (Nat.beq (catV v) 1 && Nat.beq (catV w) 1) = true) (k : ev d m n l (v :: w :: v :: w :: r) S = X) : evo (opDup2 n) d m l (v :: w :: r) S = X := by unfold evo opDup2; show cond _ _ _ = _; rw [e]; exact k
theorem aPop {n : Nat} {v : AV} (e : Nat.beq (catV v) 1 = true) (k : ev d m n l r S = X) : evo (opPop n) d m l (v :: r) S = X := by unfold evo opPop; show cond _ _ _ = _; rw [e]; exact k
theorem aGoto {n : Nat} (k : ev d m n l st S = X) : evo (opGoto n) d m l st S = X := k
variable {T F : Option Res} {t n : Nat} {x y : Int32}
theorem aIfEq (kt : ev d m t l r S = T) (kf : ev d m n l r S = F) : evo (opIfEq t n) d m l (vI x :: r) S = if x = 0 then T else F := by rw [← kt, ← kf]; rfl
theorem aIfNe (kf : ev d m n l r S = T) (kt : ev d m t l r S = F) : evo (opIfNe t n) d m l (vI x :: r) S = if x = 0 then T else F := by rw [← kt, ← kf]; rfl
theorem aIfLt (kt : ev d m t l r S = T) (kf : ev d m n l r S = F) : evo (opIfLt t n) d m l (vI x :: r) S = if x < 0 then T else F := by rw [← kt, ← kf]; rfl
theorem aIfGe (kt : ev d m t l r S = T) (kf : ev d m n l r S = F) : evo (opIfGe t n) d m l (vI x :: r) S = if 0 ≤ x then T else F := by rw [← kt, ← kf]; rfl
theorem aIfGt (kt : ev d m t l r S = T) (kf : ev d m n l r S = F) : evo (opIfGt t n) d m l (vI x :: r) S = if 0 < x then T else F := by rw [← kt, ← kf]; rfl
theorem aIfLe (kt : ev d m t l r S = T) (kf : ev d m n l r S = F) : evo (opIfLe t n) d m l (vI x :: r) S = if x ≤ 0 then T else F := by rw [← kt, ← kf]; rfl
theorem aCpEq (kt : ev d m t l r S = T) (kf : ev d m n l r S = F) : evo (opCpEq t n) d m l (vI y :: vI x :: r) S = if x = y then T else F := by rw [← kt, ← kf]; rfl
theorem aCpNe (kf : ev d m n l r S = T) (kt : ev d m t l r S = F) : evo (opCpNe t n) d m l (vI y :: vI x :: r) S = if x = y then T else F := by rw [← kt, ← kf]; rfl
theorem aCpLt (kt : ev d m t l r S = T) (kf : ev d m n l r S = F) : evo (opCpLt t n) d m l (vI y :: vI x :: r) S = if x < y then T else F := by rw [← kt, ← kf]; rfl
theorem aCpGe (kt : ev d m t l r S = T) (kf : ev d m n l r S = F) : evo (opCpGe t n) d m l (vI y :: vI x :: r) S = if y ≤ x then T else F := by rw [← kt, ← kf]; rfl
theorem aCpGt (kt : ev d m t l r S = T) (kf : ev d m n l r S = F) : evo (opCpGt t n) d m l (vI y :: vI x :: r) S = if y < x then T else F := by rw [← kt, ← kf]; rfl
theorem aCpLe (kt : ev d m t l r S = T) (kf : ev d m n l r S = F) : evo (opCpLe t n) d m l (vI y :: vI x :: r) S = if x ≤ y then T else F := by rw [← kt, ← kf]; rfl
theorem aSw0 (k : ev d m n l r S = X) : evo (opSw n []) d m l (vI x :: r) S = X := k
theorem aSw {v : Int32} {cs : List (Int32 × Nat)} (kt : ev d m t l r S = T) (kf : evo (opSw n cs) d m l (vI x :: r) S = F) : evo (opSw n ((v, t) :: cs)) d m l (vI x :: r) S = if x = v then T else F := by rw [← kt, ← kf]; rfl
theorem aRet : evo opRet d m l [] S = some (none, S) := rfl
theorem aIret : evo opIret d m l [vI x] S = some (some (vI x), S) := rfl
theorem aZret : evo opZret d m l [vI x] S = gd (isZ x) (some (some (vI x), S)) := rfl
theorem aLret {z : Int64} : evo opLret d m l [vL z] S = some (some (vL z), S) := rfl
theorem aAret {a b : Nat} (e : Nat.ble a 8 = true) : evo opAret d m l [vR a b] S = some (some (vR a b), S) := by unfold evo opAret; show cond _ _ _ = _; rw [e]; rfl
variable {a b ci k' off : Nat}
theorem aGI (e : Nat.beq a ci = true) (k : ev d m n l (vI (rdI S b k') :: r) S = X) : evo (opGI ci k' n) d m l (vR a b :: r) S = X := by unfold evo opGI; show cond _ _ _ = _; rw [e]; exact k
theorem aGJ (e : Nat.beq a ci = true) (k : ev d m n l (vL (rdJ S b k') :: r) S = X) : evo (opGJ ci k' n) d m l (vR a b :: r) S = X := by unfold evo opGJ; show cond _ _ _ = _; rw [e]; exact k
theorem aGR {a' : Nat} (e : (Nat.beq a ci && Nat.ble 0 k') = true) (k : ev d m n l (vR a' (b + off) :: r) S = X) : evo (opGR ci k' off a' n) d m l (vR a b :: r) S = X := by unfold evo opGR; show cond _ _ _ = _; rw [e]; exact k
theorem aGX {a' : Nat} (e : Nat.beq a ci = true) (k : ev d m n l (vR a' (ix (rdI S b k')) :: r) S = X) : evo (opGX ci k' a' n) d m l (vR a b :: r) S = X := by unfold evo opGX; show cond _ _ _ = _; rw [e]; exact k
theorem aPI (e : Nat.beq a ci = true) (k : ev d m n l r (wrI S b k' x) = X) : evo (opPI ci k' n) d m l (vI x :: vR a b :: r) S = X := by unfold evo opPI; show cond _ _ _ = _; rw [e]; exact k
theorem aPZ (e : Nat.beq a ci = true) (k : ev d m n l r (wrI S b k' x) = X) : evo (opPZ ci k' n) d m l (vI x :: vR a b :: r) S = gd (isZ x) X := by unfold evo opPZ; show cond _ _ _ = _; rw [e, ← k]; rfl
theorem aPJ {z : Int64} (e : Nat.beq a ci = true) (k : ev d m n l r (wrJ S b k' z) = X) : evo (opPJ ci k' n) d m l (vL z :: vR a b :: r) S = X := by unfold evo opPJ; show cond _ _ _ = _; rw [e]; exact k
theorem aPX {a' a1 b1 : Nat} (e : (Nat.beq a ci && Nat.beq a1 a') = true) (k : ev d m n l r (wrI S b k' (nI b1)) = X) : evo (opPX ci k' a' n) d m l (vR a1 b1 :: vR a b :: r) S = X := by unfold evo opPX; show cond _ _ _ = _; rw [e]; exact k
variable {L : Nat}
theorem aIal (e : kAI a = true) (eL : a - 100000 = L) (k : ev d m n l (vI (rdI S b (ix x)) :: r) S = X) : evo (opIal n) d m l (vI x :: vR a b :: r) S = gd (inb x L) X := by unfold evo opIal; show cond _ _ _ = _; rw [e, eL, ← k]; rfl
theorem aBal (e : kAZ a = true) (eL : a - 200000 = L) (k : ev d m n l (vI (rdI S b (ix x)) :: r) S = X) : evo (opBal n) d m l (vI x :: vR a b :: r) S = gd (inb x L) X := by unfold evo opBal; show cond _ _ _ = _; rw [e, eL, ← k]; rfl
theorem aLal (e : kAJ a = true) (eL : a - 300000 = L) (k : ev d m n l (vL (rdJ S b (ix x)) :: r) S = X) : evo (opLal n) d m l (vI x :: vR a b :: r) S = gd (inb x L) X := by unfold evo opLal; show cond _ _ _ = _; rw [e, eL, ← k]; rfl
theorem aAal {ka a' o s : Nat} (e : Nat.beq a ka = true) (k : ev d m n l (vR a' (b + o + s * ix x) :: r) S = X) : evo (opAal ka a' L o s n) d m l (vI x :: vR a b :: r) S = gd (inb x L) X := by unfold evo opAal; show cond _ _ _ = _; rw [e, ← k]; rfl
theorem aIas {w : Int32} (e : kAI a = true) (eL : a - 100000 = L) (k : ev d m n l r (wrI S b (ix x) w) = X) : evo (opIas n) d m l (vI w :: vI x :: vR a b :: r) S = gd (inb x L) X := by unfold evo opIas; show cond _ _ _ = _; rw [e, eL, ← k]; rfl
theorem aBas {w : Int32} (e : kAZ a = true) (eL : a - 200000 = L) (k : ev d m n l r (wrI S b (ix x) w) = X) : evo (opBas n) d m l (vI w :: vI x :: vR a b :: r) S = gd (inb x L && isZ w) X := by unfold evo opBas; show cond _ _ _ = _; rw [e, eL, ← k]; rfl
theorem aLas {z : Int64} (e : kAJ a = true) (eL : a - 300000 = L) (k : ev d m n l r (wrJ S b (ix x) z) = X) : evo (opLas n) d m l (vL z :: vI x :: vR a b :: r) S = gd (inb x L) X := by unfold evo opLas; show cond _ _ _ = _; rw [e, eL, ← k]; rfl
theorem aAln (e : kAI a = true) (eL : a - 100000 = L) (k : ev d m n l (vI (nI L) :: r) S = X) : evo (opAln n) d m l (vR a b :: r) S = X := by unfold evo opAln; show cond _ _ _ = _; rw [e, eL]; exact k
theorem aAcp {z dp sp : Int32} {a1 b1 a2 b2 L1 L2 : Nat} (e : (kAI a1 && kAI a2 && Nat.ble (catS r) 8 && Nat.ble 1 (d + 1)) = true) (e1 : a1 - 100000 = L1) (e2 : a2 - 100000 = L2) (k : ev (d + 1) m n l r (cpI S b1 (ix sp) b2 (ix dp) (ix z)) = X) : evo (opAcp n) (d + 1) m l (vI z :: vI dp :: vR a2 b2 :: vI sp :: vR a1 b1 :: r) S = gd (acg sp dp z L1 L2) X := by unfold evo opAcp; show cond _ _ _ = _; rw [e, e1, e2, ← k]; rfl
theorem aM {f : Int32 → Int32 → Int32} {y : Int32} (e : (Nat.ble (catS r) 8 && Nat.ble 1 (d + 1)) = true) (k : ev (d + 1) m n l (vI (f x y) :: r) S = X) : evo (opM f n) (d + 1) m l (vI y :: vI x :: r) S = X := by unfold evo opM; show cond _ _ _ = _; rw [e]; exact k
theorem aML {f : Int64 → Int64 → Int64} {x y : Int64} (e : (Nat.ble (catS r) 8 && Nat.ble 1 (d + 1)) = true) (k : ev (d + 1) m n l (vL (f x y) :: r) S = X) : evo (opML f n) (d + 1) m l (vL y :: vL x :: r) S = X := by unfold evo opML; show cond _ _ _ = _; rw [e]; exact k
theorem aSln {w : Int32} (e : (Nat.beq a 30 && Nat.ble (catS r) 8 && Nat.ble 5 (d + 5)) = true) (k : ev (d + 5) m n l (vI w :: r) S = X) : evo (opSln w n) (d + 5) m l (vR a b :: r) S = X := by unfold evo opSln; show cond _ _ _ = _; rw [e]; exact k
theorem aSch {tx : Nat → Int32} (e : (Nat.beq a 30 && Nat.ble (catS r) 8 && Nat.ble 5 (d + 5)) = true) (k : ev (d + 5) m n l (vI (tx (ix x)) :: r) S = X) : evo (opSch L tx n) (d + 5) m l (vI x :: vR a b :: r) S = gd (inb x L) X := by unfold evo opSch; show cond _ _ _ = _; rw [e, ← k]; rfl
theorem aScL (e : Nat.beq a 40 = true) (k : ev d m n l (vI (nI S.2.2.1) :: r) S = X) : evo (opScL n) d m l (vR a b :: r) S = X := by unfold evo opScL; show cond _ _ _ = _; rw [e]; exact k
theorem aScI (e : Nat.beq a 40 = true) (k : ev d m n l (vI (S.2.2.2 (ix x)) :: r) S = X) : evo (opScI n) d m l (vI x :: vR a b :: r) S = gd (inb x S.2.2.1) X := by unfold evo opScI; show cond _ _ _ = _; rw [e, ← k]; rfl
variable {mid na rc : Nat} {as : List AV}
theorem aKV {Y : Mem → Option Res} (e : popN na st = some (as, r)) (e2 : (rcv rc as && Nat.ble (catS r) 8) = true) (k : ∀ S', ev (d + 1) m n l r S' = Y S') : evo (opK kV mid na rc n) (d + 1) m l st S = bV (cal d mid as S) Y := by
  rw [← show (fun S' => ev (d + 1) m n l r S') = Y from funext k]; unfold evo opK; rw [e]; show cond _ _ _ = _; rw [e2]; rfl
theorem aKI {Y : Int32 → Mem → Option Res} (e : popN na st = some (as, r)) (e2 : (rcv rc as && Nat.ble (catS r) 8) = true) (k : ∀ x S', ev (d + 1) m n l (vI x :: r) S' = Y x S') : evo (opK kI mid na rc n) (d + 1) m l st S = bI (cal d mid as S) Y := by
  rw [← show (fun x S' => ev (d + 1) m n l (vI x :: r) S') = Y from funext fun x => funext (k x)]; unfold evo opK; rw [e]; show cond _ _ _ = _; rw [e2]; rfl
theorem aKL {Y : Int64 → Mem → Option Res} (e : popN na st = some (as, r)) (e2 : (rcv rc as && Nat.ble (catS r) 8) = true) (k : ∀ x S', ev (d + 1) m n l (vL x :: r) S' = Y x S') : evo (opK kL mid na rc n) (d + 1) m l st S = bL (cal d mid as S) Y := by
  rw [← show (fun x S' => ev (d + 1) m n l (vL x :: r) S') = Y from funext fun x => funext (k x)]; unfold evo opK; rw [e]; show cond _ _ _ = _; rw [e2]; rfl
theorem aKR {c : Nat} {Y : Nat → Mem → Option Res} (e : popN na st = some (as, r)) (e2 : (rcv rc as && Nat.ble (catS r) 8) = true) (k : ∀ x S', ev (d + 1) m n l (vR c x :: r) S' = Y x S') : evo (opK (kR c) mid na rc n) (d + 1) m l st S = bR c (cal d mid as S) Y := by
  rw [← show (fun x S' => ev (d + 1) m n l (vR c x :: r) S') = Y from funext fun x => funext (k x)]; unfold evo opK; rw [e]; show cond _ _ _ = _; rw [e2]; rfl
end SO
theorem kAI_n {n : Nat} (h : n < 100000) : kAI (100000 + n) = true := by
  unfold kAI
  rw [Nat.ble_eq_true_of_le (by omega), Nat.ble_eq_true_of_le (by omega)]; rfl
theorem kn99 {n : Nat} : Nat.beq (100000 + n) 99 = false := Bool.eq_false_iff.mpr (fun h => by have := Nat.eq_of_beq_eq_true h; omega)
theorem ble5 {d : Nat} : Nat.ble 5 (d + 5) = true := Nat.ble_eq.mpr (Nat.le_add_left 5 d)
theorem ble1 {d : Nat} : Nat.ble 1 (d + 1) = true := Nat.ble_eq.mpr (Nat.succ_le_succ (Nat.zero_le _))
