/-! A MACHINE OF ITS OWN: values, memory by (cell, index), one op an instruction; run with fuel, ev its limit, unr: ev unrolled to stop points. -/
abbrev AV : Type := Int32 ⊕ (Int64 ⊕ (Nat × Nat))
abbrev vI (x : Int32) : AV := .inl x
abbrev vL (x : Int64) : AV := .inr (.inl x)
abbrev vR (k t : Nat) : AV := .inr (.inr (k, t))
abbrev vU : AV := .inr (.inr (99, 0))
abbrev Mem : Type := (Nat → Nat → Int32) × (Nat → Nat → Int64) × (Nat × (Nat → Int32))
abbrev Res : Type := Option AV × Mem
abbrev Cf : Type := Nat → Nat → List AV → Mem → Option Res
abbrev Nf : Type := Nat → List AV → List AV → Mem → Option Res
abbrev Op_ : Type := Cf → Nf → Nat → List AV → List AV → Mem → Option Res
def rdI (S : Mem) (c i : Nat) : Int32 := S.1 c i
def rdJ (S : Mem) (c i : Nat) : Int64 := S.2.1 c i
def wrI (S : Mem) (c i : Nat) (v : Int32) : Mem := (fun a b => if a = c ∧ b = i then v else S.1 a b, S.2)
def wrJ (S : Mem) (c i : Nat) (v : Int64) : Mem := (S.1, fun a b => if a = c ∧ b = i then v else S.2.1 a b, S.2.2)
def cpI (S : Mem) (c1 s1 c2 d2 n : Nat) : Mem := (fun a b => if a = c2 then va_cpy (S.1 c1) (S.1 c2) s1 d2 n b else S.1 a b, S.2)
def ix (i : Int32) : Nat := i.toNatClampNeg
def inb (i : Int32) (n : Nat) : Bool := decide (0 ≤ i.toInt) && decide (i.toInt < n)
def gd {α : Type} (b : Bool) (o : Option α) : Option α := cond b o none
def isZ (x : Int32) : Bool := decide (x = 0) || decide (x = 1)
def nz (y : Int32) : Bool := decide (¬ y = 0)
def nzL (y : Int64) : Bool := decide (¬ y = 0)
def shlI (x y : Int32) : Int32 := x <<< (y &&& 31)
def shrI (x y : Int32) : Int32 := x >>> (y &&& 31)
def ushI (x y : Int32) : Int32 := (x.toUInt32 >>> (y.toUInt32 &&& Int32.toUInt32 31)).toInt32
def remI (x y : Int32) : Int32 := x - x / y * y
def remL (x y : Int64) : Int64 := x - x / y * y
def shlL (x : Int64) (y : Int32) : Int64 := x <<< (y.toInt64 &&& 63)
def shrL (x : Int64) (y : Int32) : Int64 := x >>> (y.toInt64 &&& 63)
/-- locals -/
def lg (l : List AV) (k : Nat) : AV := l.getD k vU
def kil (l : List AV) (k : Nat) : List AV := match k with
  | 0 => l
  | j + 1 => match lg l j with
    | .inr (.inl _) => l.set j vU
    | _ => l
def ls1 (l : List AV) (k : Nat) (v : AV) : List AV := (kil l k).set k v
def ls2 (l : List AV) (k : Nat) (v : AV) : List AV := ((kil l k).set k v).set (k + 1) vU
def lmask : List Nat → List AV → List AV
  | [], l => l
  | k :: r, l => lmask r (l.set k vU)
def catV (v : AV) : Nat := match v with
  | .inr (.inl _) => 2
  | _ => 1
def catS : List AV → Nat
  | [] => 0
  | v :: r => catV v + catS r
def popN : Nat → List AV → Option (List AV × List AV)
  | 0, st => some ([], st)
  | _ + 1, [] => none
  | n + 1, v :: st => match popN n st with
    | some (as, r) => some (as ++ [v], r)
    | none => none
def exps : List AV → List AV
  | [] => []
  | v :: r => match v with
    | .inr (.inl _) => v :: vU :: exps r
    | _ => v :: exps r
def ent (n : Nat) (args : List AV) : List AV := exps args ++ List.replicate (n - (exps args).length) vU
def noS : List AV → Bool
  | [] => true
  | v :: r => (match v with
    | .inr (.inr (κ, _)) => !(Nat.beq κ 40) && !(Nat.beq κ 99)
    | _ => true) && noS r
def rcv (rc : Nat) (args : List AV) : Bool := noS args && cond (Nat.beq rc 99) true (match args with
  | .inr (.inr (κ, _)) :: _ => Nat.beq κ rc
  | _ => false)
/-- a call's result, by its kind -/
def bV (o : Option Res) (k : Mem → Option Res) : Option Res := match o with
  | some (none, S) => k S
  | _ => none
def bI (o : Option Res) (k : Int32 → Mem → Option Res) : Option Res := match o with
  | some (some (.inl x), S) => k x S
  | _ => none
def bL (o : Option Res) (k : Int64 → Mem → Option Res) : Option Res := match o with
  | some (some (.inr (.inl x)), S) => k x S
  | _ => none
def bR (κ' : Nat) (o : Option Res) (k : Nat → Mem → Option Res) : Option Res := match o with
  | some (some (.inr (.inr (κ, t))), S) => cond (Nat.beq κ κ') (k t S) none
  | _ => none
/-- kinds: below 9 the classes; 20 Text[4], 21 Pages[30], 30 the String, 40 the script, 99 nothing; 100000 + n int[n], 200000 + n boolean[n], 300000 + n long[n] -/
def kAI (κ : Nat) : Bool := Nat.ble 100000 κ && Nat.ble κ 199999
def kAZ (κ : Nat) : Bool := Nat.ble 200000 κ && Nat.ble κ 299999
def kAJ (κ : Nat) : Bool := Nat.ble 300000 κ && Nat.ble κ 399999
/-! ops -/
def opX : Op_ := fun _ _ _ _ _ _ => none
def opMask (ks : List Nat) (o : Op_) : Op_ := fun C N d l st S => o C N d (lmask ks l) st S
def opC (v : AV) (n : Nat) : Op_ := fun _ N _ l st S => N n l (v :: st) S
def opIld (k n : Nat) : Op_ := fun _ N _ l st S => match lg l k with
  | .inl x => N n l (vI x :: st) S
  | _ => none
def opLld (k n : Nat) : Op_ := fun _ N _ l st S => match lg l k with
  | .inr (.inl x) => N n l (vL x :: st) S
  | _ => none
def opAld (k n : Nat) : Op_ := fun _ N _ l st S => match lg l k with
  | .inr (.inr (κ, t)) => cond (Nat.beq κ 99) none (N n l (vR κ t :: st) S)
  | _ => none
def opIst (k n : Nat) : Op_ := fun _ N _ l st S => match st with
  | .inl x :: r => cond (Nat.ble (k + 1) l.length) (N n (ls1 l k (vI x)) r S) none
  | _ => none
def opLst (k n : Nat) : Op_ := fun _ N _ l st S => match st with
  | .inr (.inl x) :: r => cond (Nat.ble (k + 2) l.length) (N n (ls2 l k (vL x)) r S) none
  | _ => none
def opAst (k n : Nat) : Op_ := fun _ N _ l st S => match st with
  | .inr (.inr (κ, t)) :: r => cond (Nat.beq κ 99) none (cond (Nat.ble (k + 1) l.length) (N n (ls1 l k (vR κ t)) r S) none)
  | _ => none
def opInc (k : Nat) (c : Int32) (n : Nat) : Op_ := fun _ N _ l st S => match lg l k with
  | .inl x => cond (Nat.ble (k + 1) l.length) (N n (ls1 l k (vI (x + c))) st S) none
  | _ => none
def opB (f : Int32 → Int32 → Int32) (n : Nat) : Op_ := fun _ N _ l st S => match st with
  | .inl y :: .inl x :: r => N n l (vI (f x y) :: r) S
  | _ => none
def opBz (f : Int32 → Int32 → Int32) (n : Nat) : Op_ := fun _ N _ l st S => match st with
  | .inl y :: .inl x :: r => gd (nz y) (N n l (vI (f x y) :: r) S)
  | _ => none
def opLB (f : Int64 → Int64 → Int64) (n : Nat) : Op_ := fun _ N _ l st S => match st with
  | .inr (.inl y) :: .inr (.inl x) :: r => N n l (vL (f x y) :: r) S
  | _ => none
def opLBz (f : Int64 → Int64 → Int64) (n : Nat) : Op_ := fun _ N _ l st S => match st with
  | .inr (.inl y) :: .inr (.inl x) :: r => gd (nzL y) (N n l (vL (f x y) :: r) S)
  | _ => none
def opLS (f : Int64 → Int32 → Int64) (n : Nat) : Op_ := fun _ N _ l st S => match st with
  | .inl y :: .inr (.inl x) :: r => N n l (vL (f x y) :: r) S
  | _ => none
def opU (f : Int32 → Int32) (n : Nat) : Op_ := fun _ N _ l st S => match st with
  | .inl x :: r => N n l (vI (f x) :: r) S
  | _ => none
def opLU (f : Int64 → Int64) (n : Nat) : Op_ := fun _ N _ l st S => match st with
  | .inr (.inl x) :: r => N n l (vL (f x) :: r) S
  | _ => none
def opI2L (n : Nat) : Op_ := fun _ N _ l st S => match st with
  | .inl x :: r => N n l (vL x.toInt64 :: r) S
  | _ => none
def opL2I (n : Nat) : Op_ := fun _ N _ l st S => match st with
  | .inr (.inl x) :: r => N n l (vI x.toInt32 :: r) S
  | _ => none
def opLcmp (n : Nat) : Op_ := fun _ N _ l st S => match st with
  | .inr (.inl y) :: .inr (.inl x) :: r => N n l (vI (lg_cmp x y) :: r) S
  | _ => none
def opDup (n : Nat) : Op_ := fun _ N _ l st S => match st with
  | v :: r => cond (Nat.beq (catV v) 1) (N n l (v :: v :: r) S) none
  | _ => none
def opDup2 (n : Nat) : Op_ := fun _ N _ l st S => match st with
  | v :: w :: r => cond (Nat.beq (catV v) 1 && Nat.beq (catV w) 1) (N n l (v :: w :: v :: w :: r) S) none
  | _ => none
def opPop (n : Nat) : Op_ := fun _ N _ l st S => match st with
  | v :: r => cond (Nat.beq (catV v) 1) (N n l r S) none
  | _ => none
def opGoto (t : Nat) : Op_ := fun _ N _ l st S => N t l st S
def opIfEq (t n : Nat) : Op_ := fun _ N _ l st S => match st with
  | .inl x :: r => if x = 0 then N t l r S else N n l r S
  | _ => none
def opIfNe (t n : Nat) : Op_ := fun _ N _ l st S => match st with
  | .inl x :: r => if x = 0 then N n l r S else N t l r S
  | _ => none
def opIfLt (t n : Nat) : Op_ := fun _ N _ l st S => match st with
  | .inl x :: r => if x < 0 then N t l r S else N n l r S
  | _ => none
def opIfGe (t n : Nat) : Op_ := fun _ N _ l st S => match st with
  | .inl x :: r => if 0 ≤ x then N t l r S else N n l r S
  | _ => none
def opIfGt (t n : Nat) : Op_ := fun _ N _ l st S => match st with
  | .inl x :: r => if 0 < x then N t l r S else N n l r S
  | _ => none
def opIfLe (t n : Nat) : Op_ := fun _ N _ l st S => match st with
  | .inl x :: r => if x ≤ 0 then N t l r S else N n l r S
  | _ => none
def opCpEq (t n : Nat) : Op_ := fun _ N _ l st S => match st with
  | .inl y :: .inl x :: r => if x = y then N t l r S else N n l r S
  | _ => none
def opCpNe (t n : Nat) : Op_ := fun _ N _ l st S => match st with
  | .inl y :: .inl x :: r => if x = y then N n l r S else N t l r S
  | _ => none
def opCpLt (t n : Nat) : Op_ := fun _ N _ l st S => match st with
  | .inl y :: .inl x :: r => if x < y then N t l r S else N n l r S
  | _ => none
def opCpGe (t n : Nat) : Op_ := fun _ N _ l st S => match st with
  | .inl y :: .inl x :: r => if y ≤ x then N t l r S else N n l r S
  | _ => none
def opCpGt (t n : Nat) : Op_ := fun _ N _ l st S => match st with
  | .inl y :: .inl x :: r => if y < x then N t l r S else N n l r S
  | _ => none
def opCpLe (t n : Nat) : Op_ := fun _ N _ l st S => match st with
  | .inl y :: .inl x :: r => if x ≤ y then N t l r S else N n l r S
  | _ => none
def swN (d : Nat) (x : Int32) (k : Nat → Option Res) : List (Int32 × Nat) → Option Res
  | [] => k d
  | (v, t) :: r => if x = v then k t else swN d x k r
def opSw (d : Nat) (cs : List (Int32 × Nat)) : Op_ := fun _ N _ l st S => match st with
  | .inl x :: r => swN d x (fun t => N t l r S) cs
  | _ => none
def opRet : Op_ := fun _ _ _ _ st S => match st with
  | [] => some (none, S)
  | _ => none
def opIret : Op_ := fun _ _ _ _ st S => match st with
  | [.inl x] => some (some (vI x), S)
  | _ => none
def opZret : Op_ := fun _ _ _ _ st S => match st with
  | [.inl x] => gd (isZ x) (some (some (vI x), S))
  | _ => none
def opLret : Op_ := fun _ _ _ _ st S => match st with
  | [.inr (.inl x)] => some (some (vL x), S)
  | _ => none
def opAret : Op_ := fun _ _ _ _ st S => match st with
  | [.inr (.inr (κ, t))] => cond (Nat.ble κ 8) (some (some (vR κ t), S)) none
  | _ => none
def opGI (ci k n : Nat) : Op_ := fun _ N _ l st S => match st with
  | .inr (.inr (κ, t)) :: r => cond (Nat.beq κ ci) (N n l (vI (rdI S t k) :: r) S) none
  | _ => none
def opGJ (ci k n : Nat) : Op_ := fun _ N _ l st S => match st with
  | .inr (.inr (κ, t)) :: r => cond (Nat.beq κ ci) (N n l (vL (rdJ S t k) :: r) S) none
  | _ => none
def opGR (ci k off κ' n : Nat) : Op_ := fun _ N _ l st S => match st with
  | .inr (.inr (κ, t)) :: r => cond (Nat.beq κ ci && Nat.ble 0 k) (N n l (vR κ' (t + off) :: r) S) none
  | _ => none
def opGX (ci k κ' n : Nat) : Op_ := fun _ N _ l st S => match st with
  | .inr (.inr (κ, t)) :: r => cond (Nat.beq κ ci) (N n l (vR κ' (ix (rdI S t k)) :: r) S) none
  | _ => none
def opPI (ci k n : Nat) : Op_ := fun _ N _ l st S => match st with
  | .inl x :: .inr (.inr (κ, t)) :: r => cond (Nat.beq κ ci) (N n l r (wrI S t k x)) none
  | _ => none
def opPZ (ci k n : Nat) : Op_ := fun _ N _ l st S => match st with
  | .inl x :: .inr (.inr (κ, t)) :: r => cond (Nat.beq κ ci) (gd (isZ x) (N n l r (wrI S t k x))) none
  | _ => none
def opPJ (ci k n : Nat) : Op_ := fun _ N _ l st S => match st with
  | .inr (.inl x) :: .inr (.inr (κ, t)) :: r => cond (Nat.beq κ ci) (N n l r (wrJ S t k x)) none
  | _ => none
def opPX (ci k κ' n : Nat) : Op_ := fun _ N _ l st S => match st with
  | .inr (.inr (κ1, t1)) :: .inr (.inr (κ, t)) :: r => cond (Nat.beq κ ci && Nat.beq κ1 κ') (N n l r (wrI S t k (nI t1))) none
  | _ => none
def opIal (n : Nat) : Op_ := fun _ N _ l st S => match st with
  | .inl i :: .inr (.inr (κ, t)) :: r => cond (kAI κ) (gd (inb i (κ - 100000)) (N n l (vI (rdI S t (ix i)) :: r) S)) none
  | _ => none
def opBal (n : Nat) : Op_ := fun _ N _ l st S => match st with
  | .inl i :: .inr (.inr (κ, t)) :: r => cond (kAZ κ) (gd (inb i (κ - 200000)) (N n l (vI (rdI S t (ix i)) :: r) S)) none
  | _ => none
def opLal (n : Nat) : Op_ := fun _ N _ l st S => match st with
  | .inl i :: .inr (.inr (κ, t)) :: r => cond (kAJ κ) (gd (inb i (κ - 300000)) (N n l (vL (rdJ S t (ix i)) :: r) S)) none
  | _ => none
def opAal (ka κ' len o s n : Nat) : Op_ := fun _ N _ l st S => match st with
  | .inl i :: .inr (.inr (κ, t)) :: r => cond (Nat.beq κ ka) (gd (inb i len) (N n l (vR κ' (t + o + s * ix i) :: r) S)) none
  | _ => none
def opIas (n : Nat) : Op_ := fun _ N _ l st S => match st with
  | .inl x :: .inl i :: .inr (.inr (κ, t)) :: r => cond (kAI κ) (gd (inb i (κ - 100000)) (N n l r (wrI S t (ix i) x))) none
  | _ => none
def opBas (n : Nat) : Op_ := fun _ N _ l st S => match st with
  | .inl x :: .inl i :: .inr (.inr (κ, t)) :: r => cond (kAZ κ) (gd (inb i (κ - 200000) && isZ x) (N n l r (wrI S t (ix i) x))) none
  | _ => none
def opLas (n : Nat) : Op_ := fun _ N _ l st S => match st with
  | .inr (.inl x) :: .inl i :: .inr (.inr (κ, t)) :: r => cond (kAJ κ) (gd (inb i (κ - 300000)) (N n l r (wrJ S t (ix i) x))) none
  | _ => none
def opAln (n : Nat) : Op_ := fun _ N _ l st S => match st with
  | .inr (.inr (κ, _)) :: r => cond (kAI κ) (N n l (vI (nI (κ - 100000)) :: r) S) none
  | _ => none
def acg (sp dp n : Int32) (n1 n2 : Nat) : Bool := decide (¬ sp < 0) && decide (¬ dp < 0) && decide (¬ n < 0) && decide (ix sp + ix n ≤ n1) && decide (ix dp + ix n ≤ n2)
def opAcp (n : Nat) : Op_ := fun _ N d l st S => match st with
  | .inl z :: .inl dp :: .inr (.inr (κ2, t2)) :: .inl sp :: .inr (.inr (κ1, t1)) :: r => cond (kAI κ1 && kAI κ2 && Nat.ble (catS r) 8 && Nat.ble 1 d) (gd (acg sp dp z (κ1 - 100000) (κ2 - 100000)) (N n l r (cpI S t1 (ix sp) t2 (ix dp) (ix z)))) none
  | _ => none
def maxI (x y : Int32) : Int32 := if x < y then y else x
def minI (x y : Int32) : Int32 := if y < x then y else x
def maxLo (x y : Int64) : Int64 := if y < x then x else y
def minLo (x y : Int64) : Int64 := if y < x then y else x
def opM (f : Int32 → Int32 → Int32) (n : Nat) : Op_ := fun _ N d l st S => match st with
  | .inl y :: .inl x :: r => cond (Nat.ble (catS r) 8 && Nat.ble 1 d) (N n l (vI (f x y) :: r) S) none
  | _ => none
def opML (f : Int64 → Int64 → Int64) (n : Nat) : Op_ := fun _ N d l st S => match st with
  | .inr (.inl y) :: .inr (.inl x) :: r => cond (Nat.ble (catS r) 8 && Nat.ble 1 d) (N n l (vL (f x y) :: r) S) none
  | _ => none
def opSln (v : Int32) (n : Nat) : Op_ := fun _ N d l st S => match st with
  | .inr (.inr (κ, _)) :: r => cond (Nat.beq κ 30 && Nat.ble (catS r) 8 && Nat.ble 5 d) (N n l (vI v :: r) S) none
  | _ => none
def opSch (len : Nat) (tx : Nat → Int32) (n : Nat) : Op_ := fun _ N d l st S => match st with
  | .inl i :: .inr (.inr (κ, _)) :: r => cond (Nat.beq κ 30 && Nat.ble (catS r) 8 && Nat.ble 5 d) (gd (inb i len) (N n l (vI (tx (ix i)) :: r) S)) none
  | _ => none
def opScL (n : Nat) : Op_ := fun _ N _ l st S => match st with
  | .inr (.inr (κ, _)) :: r => cond (Nat.beq κ 40) (N n l (vI (nI S.2.2.1) :: r) S) none
  | _ => none
def opScI (n : Nat) : Op_ := fun _ N _ l st S => match st with
  | .inl i :: .inr (.inr (κ, _)) :: r => cond (Nat.beq κ 40) (gd (inb i S.2.2.1) (N n l (vI (S.2.2.2 (ix i)) :: r) S)) none
  | _ => none
def opK (B : Option Res → (Option AV → Mem → Option Res) → Option Res) (mid na rc n : Nat) : Op_ := fun C N d l st S => match popN na st with
  | some (as, r) => cond (rcv rc as && Nat.ble (catS r) 8) (match d with
    | 0 => none
    | d' + 1 => B (C d' mid as S) (fun v S' => N n l (v.toList ++ r) S')) none
  | none => none
def kV (o : Option Res) (k : Option AV → Mem → Option Res) : Option Res := bV o (fun S => k none S)
def kI (o : Option Res) (k : Option AV → Mem → Option Res) : Option Res := bI o (fun x S => k (some (vI x)) S)
def kL (o : Option Res) (k : Option AV → Mem → Option Res) : Option Res := bL o (fun x S => k (some (vL x)) S)
def kR (κ' : Nat) (o : Option Res) (k : Option AV → Mem → Option Res) : Option Res := bR κ' o (fun t S => k (some (vR κ' t)) S)
