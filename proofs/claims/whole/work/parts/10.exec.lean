/-! A small machine of our own: typed references (kind, number), memory as planes of whole numbers; it runs the class's own decoded code. -/
abbrev ZV : Type := Int ⊕ (Int ⊕ (Nat × Option Nat))
abbrev vI (x : Int) : ZV := .inl x
abbrev vL (x : Int) : ZV := .inr (.inl x)
abbrev vR (t : Nat) (o : Option Nat) : ZV := .inr (.inr (t, o))
abbrev ZP : Type := Nat → Nat → Nat → Int
abbrev ZF : Type := Nat → Nat → Nat → Option Nat
abbrev ZRg : Type := Option Nat × Option Nat × Option Nat × Option Nat
abbrev ZK : Type := ZF × (Nat → Nat → Nat) × ZP × ZP × (Nat → Nat)
/-- ints, longs, the four references that change, what stands fast (references, lengths, constants, how many), cells and slots made -/
abbrev ZM : Type := ZP × ZP × ZRg × ZK × Nat × Nat
def z32 (z : Int) : Int := Int.bmod z 4294967296
def z64 (z : Int) : Int := Int.bmod z 18446744073709551616
def zup (f : ZP) (t i k : Nat) (x : Int) : ZP := fun t' i' k' => if t' = t ∧ i' = i ∧ k' = k then x else f t' i' k'
def zupF (f : ZF) (t i k : Nat) (x : Option Nat) : ZF := fun t' i' k' => if t' = t ∧ i' = i ∧ k' = k then x else f t' i' k'
def zcp (f : ZP) (t1 i1 sp t2 i2 dp n : Nat) : ZP := fun t i k => if t = t2 ∧ i = i2 ∧ dp ≤ k ∧ k < dp + n then f t1 i1 (sp + (k - dp)) else f t i k
def mI (M : ZM) (t i k : Nat) : Int := M.1 t i k
def mL (M : ZM) (t i k : Nat) : Int := M.2.1 t i k
def mR (M : ZM) : ZRg := M.2.2.1
def mK (M : ZM) : ZK := M.2.2.2.1
def mF (M : ZM) (t i k : Nat) : Option Nat := M.2.2.2.1.1 t i k
def mN (M : ZM) (t i : Nat) : Nat := M.2.2.2.1.2.1 t i
def mKI (M : ZM) (t i k : Nat) : Int := M.2.2.2.1.2.2.1 t i k
def mKL (M : ZM) (t i k : Nat) : Int := M.2.2.2.1.2.2.2.1 t i k
def mC (M : ZM) (t : Nat) : Nat := M.2.2.2.1.2.2.2.2 t
def pI (M : ZM) (t i k : Nat) (x : Int) : ZM := (zup M.1 t i k x, M.2)
def pL (M : ZM) (t i k : Nat) (x : Int) : ZM := (M.1, zup M.2.1 t i k x, M.2.2)
def pR (M : ZM) (r : ZRg) : ZM := (M.1, M.2.1, r, M.2.2.2)
def pF (M : ZM) (t i k : Nat) (x : Option Nat) : ZM := (M.1, M.2.1, M.2.2.1, (zupF M.2.2.2.1.1 t i k x, M.2.2.2.1.2), M.2.2.2.2)
def pCp (M : ZM) (t1 i1 sp t2 i2 dp n : Nat) : ZM := (zcp M.1 t1 i1 sp t2 i2 dp n, M.2)
def zrs (f : ZP) (t i : Nat) : ZP := fun t' i' k' => if t' = t ∧ i' = i then 0 else f t' i' k'
def zrsF (f : ZF) (t i : Nat) : ZF := fun t' i' k' => if t' = t ∧ i' = i then none else f t' i' k'
/-- one more of kind t, of n slots -/
def pNew (M : ZM) (t n : Nat) : ZM := (zrs M.1 t (M.2.2.2.1.2.2.2.2 t), zrs M.2.1 t (M.2.2.2.1.2.2.2.2 t), M.2.2.1, (zrsF M.2.2.2.1.1 t (M.2.2.2.1.2.2.2.2 t), M.2.2.2.1.2.1, M.2.2.2.1.2.2.1, M.2.2.2.1.2.2.2.1, fun t' => if t' = t then M.2.2.2.1.2.2.2.2 t + 1 else M.2.2.2.1.2.2.2.2 t'), M.2.2.2.2.1 + 1, M.2.2.2.2.2 + n)
def pLen (M : ZM) (t i n : Nat) : ZM := (M.1, M.2.1, M.2.2.1, (M.2.2.2.1.1, (fun t' i' => if t' = t ∧ i' = i then n else M.2.2.2.1.2.1 t' i'), M.2.2.2.1.2.2), M.2.2.2.2)
def zrg (r : ZRg) (k : Nat) : Option Nat := match k with
  | 0 => r.1
  | 1 => r.2.1
  | 2 => r.2.2.1
  | _ => r.2.2.2
def zsr (r : ZRg) (k : Nat) (x : Option Nat) : ZRg := match k with
  | 0 => (x, r.2)
  | 1 => (r.1, x, r.2.2)
  | 2 => (r.1, r.2.1, x, r.2.2.2)
  | _ => (r.1, r.2.1, r.2.2.1, x)
/-- an instruction, its length, numbers to it, whole numbers to it -/
abbrev ZE : Type := Instr × Nat × List Nat × List Int
abbrev ZT : Type := List (Nat × ZE)
abbrev ZL : Type := List (Option ZV)
def zfd : ZT → Nat → Option ZE
  | [], _ => none
  | a :: l, pc => match Nat.beq a.1 pc with
    | true => some a.2
    | false => zfd l pc
def znt : ZL → Nat → Option ZV
  | [], _ => none
  | a :: _, 0 => a
  | _ :: l, n + 1 => znt l n
def zse : ZL → Nat → Option ZV → ZL
  | [], _, _ => []
  | _ :: l, 0, x => x :: l
  | a :: l, n + 1, x => a :: zse l n x
def zen : Nat → List ZV → ZL
  | 0, _ => []
  | n + 1, [] => none :: zen n []
  | n + 1, .inr (.inl x) :: l => match n with
    | 0 => []
    | n + 1 => some (.inr (.inl x)) :: none :: zen n l
  | n + 1, v :: l => some v :: zen n l
def zpo : Nat → List ZV → List ZV → Option (List ZV × List ZV)
  | 0, as, st => some (as, st)
  | _ + 1, _, [] => none
  | n + 1, as, v :: st => zpo n (v :: as) st
def zbr {α : Type} (c : ClassFile.Cond) (x y : Int) (a b : α) : α := match c with
  | .eq => if x = y then a else b
  | .ne => if x = y then b else a
  | .lt => if x < y then a else b
  | .ge => if x < y then b else a
  | .gt => if y < x then a else b
  | .le => if y < x then b else a
def zsw {α : Type} (x : Int) : List Int → List Nat → (Nat → α) → α → α
  | v :: vs, t :: ts, k, d => if x = v then k t else zsw x vs ts k d
  | _, _, _, d => d
def z_and (x y : Int) : Int := (Int32.ofInt x &&& Int32.ofInt y).toInt
def z_or (x y : Int) : Int := (Int32.ofInt x ||| Int32.ofInt y).toInt
def z_xor (x y : Int) : Int := (Int32.ofInt x ^^^ Int32.ofInt y).toInt
def z_shl (x y : Int) : Int := (Int32.ofInt x <<< (Int32.ofInt y &&& 31)).toInt
def z_shr (x y : Int) : Int := (Int32.ofInt x >>> (Int32.ofInt y &&& 31)).toInt
def z_land (x y : Int) : Int := (Int64.ofInt x &&& Int64.ofInt y).toInt
def z_lor (x y : Int) : Int := (Int64.ofInt x ||| Int64.ofInt y).toInt
def z_lshl (x y : Int) : Int := (Int64.ofInt x <<< ((Int32.ofInt y).toInt64 &&& 63)).toInt
def z_lushr (x y : Int) : Int := ((Int64.ofInt x).toUInt64 >>> ((Int32.ofInt y).toInt64.toUInt64 &&& Int64.toUInt64 63)).toInt64.toInt
def z_lcmp (x y : Int) : Int := if x < y then -1 else if x = y then 0 else 1
def z_i2b (x : Int) : Int := Int.bmod x 256
def z_b1 (x : Int) : Int := x % 2
/-- what one gets in the sea of two -/
def zgain (mine his lose turns stays : Int) : Int := if mine = 1 then (if his = 1 then -lose else turns) else (if his = 1 then stays else 0)
def zkeeps (a b lose turns stays : Int) : Bool := decide (zgain (1 - a) b lose turns stays ≤ zgain a b lose turns stays) && decide (zgain (1 - b) a lose turns stays ≤ zgain b a lose turns stays)
def zrl (lose turns stays : Int) : List Int := (if zkeeps 0 0 lose turns stays then [0] else []) ++ (if zkeeps 0 1 lose turns stays then [1] else []) ++ (if zkeeps 1 0 lose turns stays then [2] else []) ++ (if zkeeps 1 1 lose turns stays then [3] else [])
/-- what rests answers; none: it throws -/
def zrests (lose turns stays what : Int) : Option Int := if 0 ≤ lose ∧ lose ≤ 9 ∧ 0 ≤ turns ∧ turns ≤ 9 ∧ 0 ≤ stays ∧ stays ≤ 9 ∧ -1 ≤ what then (if what = -1 then some ((zrl lose turns stays).length : Int) else (zrl lose turns stays)[what.toNat]?) else none
def zrt (lose turns stays what : Int) : Int := match zrests lose turns stays what with
  | none => 1
  | some _ => 0
def zrv (lose turns stays what : Int) : Int := match zrests lose turns stays what with
  | none => 0
  | some v => v
/-- a cell of n slots is made that nobody keeps -/
def pCe (M : ZM) (n : Nat) : ZM := (M.1, M.2.1, M.2.2.1, M.2.2.2.1, M.2.2.2.2.1 + 1, M.2.2.2.2.2 + n)
/-- of these kinds there is one at most -/
def znw (M : ZM) (t : Nat) : Bool := match t with
  | 5 => Nat.beq (mC M 5) 0
  | 8 => Nat.beq (mC M 8) 0
  | 10 => Nat.beq (mC M 10) 0
  | _ => true
def zmax (x y : Int) : Int := if x < y then y else x
def zmin (x y : Int) : Int := if y < x then y else x
def zabs (x : Int) : Int := if 0 ≤ x then x else z32 (0 - x)
