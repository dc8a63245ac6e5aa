/-- what an array of a kind holds: 0 ints, 1 longs, 2 bytes, 3 booleans, 4 references, 5 ints that stand fast, 6 references that stand fast, 9 no array -/
def zek (t : Nat) : Nat := match t with
  | 27 => 1
  | 52 => 1
  | 103 => 1
  | 42 => 2
  | 43 => 3
  | 63 => 3
  | 86 => 3
  | 90 => 3
  | 46 => 4
  | 47 => 4
  | 48 => 4
  | 101 => 5
  | 102 => 5
  | 100 => 6
  | t => if t < 20 then 9 else 0
/-- the kind of what an array of references holds -/
def ztg (t : Nat) : Nat := match t with
  | 46 => 7
  | 47 => 2
  | 48 => 6
  | _ => 12
/-- how many fields -/
def znf (t : Nat) : Nat := match t with
  | 0 => 7
  | 1 => 2
  | 2 => 4
  | 3 => 2
  | 4 => 15
  | 5 => 7
  | 6 => 9
  | 7 => 6
  | 8 => 8
  | 9 => 7
  | 10 => 15
  | 11 => 60
  | _ => 0
section ZST
variable {α : Type}
def zbm (b : Bool) (a z : α) : α := match b with
  | true => a
  | false => z
/-- by what an array holds -/
def zem (q : Nat) (a0 a1 a2 a3 a4 a5 a6 z : α) : α := match q with
  | 0 => a0
  | 1 => a1
  | 2 => a2
  | 3 => a3
  | 4 => a4
  | 5 => a5
  | 6 => a6
  | _ => z
def zld (o : Option ZV) (k : ZV → α) (z : α) : α := match o with
  | some v => k v
  | none => z
def zcl (ls : ZL) (i : Nat) : ZL := match i with
  | 0 => ls
  | j + 1 => match znt ls j with
    | some (.inr (.inl _)) => zse ls j none
    | _ => ls
def zS1 (ls : ZL) (i : Nat) (v : ZV) (k : ZL → α) : α := k (zse (zcl ls i) i (some v))
def zS2 (ls : ZL) (i : Nat) (v : ZV) (k : ZL → α) : α := k (zse (zse (zcl ls i) i (some v)) (i + 1) none)
def zgf (M : ZM) (ax : List Nat) (i : Nat) (k : ZV → α) (z : α) : α := match ax with
  | t :: f :: pl :: tg :: rg :: _ => match pl with
    | 0 => k (.inl (mI M t i f))
    | 1 => k (.inl (mI M t i f))
    | 2 => k (.inr (.inl (mL M t i f)))
    | 3 => k (.inr (.inr (tg, mF M t i f)))
    | 4 => k (.inr (.inr (tg, zrg (mR M) rg)))
    | 5 => k (.inl (mKI M t i f))
    | 6 => k (.inr (.inl (mKL M t i f)))
    | _ => z
  | _ => z
def zpf (M : ZM) (ax : List Nat) (i : Nat) (v : ZV) (k : ZM → α) (z : α) : α := match ax with
  | t :: f :: pl :: tg :: rg :: _ => match pl, v with
    | 0, .inl x => k (pI M t i f x)
    | 1, .inl x => zbm (decide (x = 0) || decide (x = 1)) (k (pI M t i f x)) z
    | 2, .inr (.inl x) => k (pL M t i f x)
    | 3, .inr (.inr (t2, some j)) => zbm (Nat.beq t2 tg) (k (pF M t i f (some j))) z
    | 4, .inr (.inr (t2, o)) => match o with
      | none => k (pR M (zsr (mR M) rg none))
      | some j => zbm (Nat.beq t2 tg) (k (pR M (zsr (mR M) rg (some j)))) z
    | _, _ => z
  | _ => z
def zhd (ax : List Nat) : Nat := match ax with
  | a :: _ => a
  | [] => 0
abbrev zinb (M : ZM) (t i : Nat) (x : Int) : Prop := 0 ≤ x ∧ x < (mN M t i : Int)
/-- invocations: 0 static, 1 on an object, 2 Object's own constructor, 3 arraycopy, 4 ordinal, 5 the law's rests, 6 to 8 max, min, abs -/
def ziv (M : ZM) (ax : List Nat) (st : List ZV) (kn : List ZV → ZM → α) (kc : Nat → List ZV → List ZV → α) (z : α) : α := match ax with
  | 0 :: mi :: n :: _ => match zpo n [] st with
    | some (as, r) => zbm (Nat.ble r.length 4) (kc mi as r) z
    | none => z
  | 1 :: mi :: n :: _ :: _ :: tg :: _ => match zpo n [] st with
    | some (.inr (.inr (t, some i)) :: as, r) => zbm (Nat.beq t tg && Nat.ble r.length 4) (kc mi (.inr (.inr (t, some i)) :: as) r) z
    | _ => z
  | 2 :: _ => match st with
    | .inr (.inr (_, some _)) :: r => zbm (Nat.ble r.length 4) (kn r M) z
    | _ => z
  | 3 :: _ => match st with
    | .inl n :: .inl dp :: .inr (.inr (t2, some i2)) :: .inl sp :: .inr (.inr (t1, some i1)) :: r =>
      zbm (Nat.ble r.length 4) (zem (zek t1) (zem (zek t2) (if 0 ≤ sp ∧ 0 ≤ dp ∧ 0 ≤ n ∧ sp + n ≤ (mN M t1 i1 : Int) ∧ dp + n ≤ (mN M t2 i2 : Int) then kn r (pCp M t1 i1 sp.toNat t2 i2 dp.toNat n.toNat) else z) z z z z z z z) z z z z z z z) z
    | _ => z
  | 4 :: _ => match st with
    | .inr (.inr (t, some i)) :: r => zbm (Nat.beq t 12 && Nat.ble r.length 4) (kn (.inl (mKI M 12 i 2) :: r) M) z
    | _ => z
  | 5 :: _ => match st with
    | .inr (.inr (t2, some o)) :: .inl p3 :: .inl p2 :: .inl p1 :: .inl p0 :: .inr (.inr (t1, some _)) :: r =>
      zbm (Nat.beq t2 103 && Nat.beq t1 10 && Nat.ble r.length 4 && Nat.ble 1 (mN M 103 o)) (if zrt p0 p1 p2 p3 = 1 then kn (.inl 1 :: r) (pCe M 6) else kn (.inl 0 :: r) (pL M 103 o 0 (zrv p0 p1 p2 p3))) z
    | _ => z
  | 6 :: _ => match st with
    | .inl y :: .inl x :: r => zbm (Nat.ble r.length 4) (kn (.inl (zmax x y) :: r) M) z
    | _ => z
  | 7 :: _ => match st with
    | .inl y :: .inl x :: r => zbm (Nat.ble r.length 4) (kn (.inl (zmin x y) :: r) M) z
    | _ => z
  | 8 :: _ => match st with
    | .inl x :: r => zbm (Nat.ble r.length 4) (kn (.inl (zabs x) :: r) M) z
    | _ => z
  | _ => z
def zst (e : ZE) (pc : Nat) (ls : ZL) (st : List ZV) (M : ZM) (k : Nat → ZL → List ZV → ZM → α) (kr : Option ZV → ZM → α) (kc : Nat → List ZV → List ZV → α) (z : α) : α :=
  match e with
  | (ins, len, ax, cv) => match ins with
    | .aload i => zld (znt ls i) (fun v => match v with | .inr (.inr x) => k (pc + len) ls (.inr (.inr x) :: st) M | _ => z) z
    | .aload_n i => zld (znt ls i) (fun v => match v with | .inr (.inr x) => k (pc + len) ls (.inr (.inr x) :: st) M | _ => z) z
    | .iload i => zld (znt ls i) (fun v => match v with | .inl x => k (pc + len) ls (.inl x :: st) M | _ => z) z
    | .iload_n i => zld (znt ls i) (fun v => match v with | .inl x => k (pc + len) ls (.inl x :: st) M | _ => z) z
    | .lload i => zld (znt ls i) (fun v => match v with | .inr (.inl x) => k (pc + len) ls (.inr (.inl x) :: st) M | _ => z) z
    | .lload_n i => zld (znt ls i) (fun v => match v with | .inr (.inl x) => k (pc + len) ls (.inr (.inl x) :: st) M | _ => z) z
    | .astore i => match st with | .inr (.inr x) :: r => zS1 ls i (.inr (.inr x)) (fun l => k (pc + len) l r M) | _ => z
    | .astore_n i => match st with | .inr (.inr x) :: r => zS1 ls i (.inr (.inr x)) (fun l => k (pc + len) l r M) | _ => z
    | .istore i => match st with | .inl x :: r => zS1 ls i (.inl x) (fun l => k (pc + len) l r M) | _ => z
    | .istore_n i => match st with | .inl x :: r => zS1 ls i (.inl x) (fun l => k (pc + len) l r M) | _ => z
    | .lstore i => match st with | .inr (.inl x) :: r => zS2 ls i (.inr (.inl x)) (fun l => k (pc + len) l r M) | _ => z
    | .lstore_n i => match st with | .inr (.inl x) :: r => zS2 ls i (.inr (.inl x)) (fun l => k (pc + len) l r M) | _ => z
    | .iinc i n => zld (znt ls i) (fun v => match v with | .inl x => k (pc + len) (zse ls i (some (.inl (z32 (x + n))))) st M | _ => z) z
    | .iconst n => k (pc + len) ls (.inl n :: st) M
    | .bipush n => k (pc + len) ls (.inl n :: st) M
    | .sipush n => k (pc + len) ls (.inl n :: st) M
    | .lconst n => k (pc + len) ls (.inr (.inl ((n : Nat) : Int)) :: st) M
    | .ldc _ => match cv with | x :: _ => k (pc + len) ls (.inl x :: st) M | [] => z
    | .ldc_w _ => match cv with | x :: _ => k (pc + len) ls (.inl x :: st) M | [] => z
    | .ldc2_w _ => match cv with | x :: _ => k (pc + len) ls (.inr (.inl x) :: st) M | [] => z
    | .aconst_null => k (pc + len) ls (.inr (.inr (0, none)) :: st) M
    | .iadd => match st with | .inl y :: .inl x :: r => k (pc + len) ls (.inl (z32 (x + y)) :: r) M | _ => z
    | .isub => match st with | .inl y :: .inl x :: r => k (pc + len) ls (.inl (z32 (x - y)) :: r) M | _ => z
    | .imul => match st with | .inl y :: .inl x :: r => k (pc + len) ls (.inl (z32 (x * y)) :: r) M | _ => z
    | .idiv => match st with | .inl y :: .inl x :: r => if y = 0 then z else k (pc + len) ls (.inl (z32 (x.tdiv y)) :: r) M | _ => z
    | .irem => match st with | .inl y :: .inl x :: r => if y = 0 then z else k (pc + len) ls (.inl (x.tmod y) :: r) M | _ => z
    | .ineg => match st with | .inl x :: r => k (pc + len) ls (.inl (z32 (-x)) :: r) M | _ => z
    | .iand => match st with | .inl y :: .inl x :: r => k (pc + len) ls (.inl (z_and x y) :: r) M | _ => z
    | .ior => match st with | .inl y :: .inl x :: r => k (pc + len) ls (.inl (z_or x y) :: r) M | _ => z
    | .ixor => match st with | .inl y :: .inl x :: r => k (pc + len) ls (.inl (z_xor x y) :: r) M | _ => z
    | .ishl => match st with | .inl y :: .inl x :: r => k (pc + len) ls (.inl (z_shl x y) :: r) M | _ => z
    | .ishr => match st with | .inl y :: .inl x :: r => k (pc + len) ls (.inl (z_shr x y) :: r) M | _ => z
    | .ladd => match st with | .inr (.inl y) :: .inr (.inl x) :: r => k (pc + len) ls (.inr (.inl (z64 (x + y))) :: r) M | _ => z
    | .lsub => match st with | .inr (.inl y) :: .inr (.inl x) :: r => k (pc + len) ls (.inr (.inl (z64 (x - y))) :: r) M | _ => z
    | .lmul => match st with | .inr (.inl y) :: .inr (.inl x) :: r => k (pc + len) ls (.inr (.inl (z64 (x * y))) :: r) M | _ => z
    | .ldiv => match st with | .inr (.inl y) :: .inr (.inl x) :: r => if y = 0 then z else k (pc + len) ls (.inr (.inl (z64 (x.tdiv y))) :: r) M | _ => z
    | .lrem => match st with | .inr (.inl y) :: .inr (.inl x) :: r => if y = 0 then z else k (pc + len) ls (.inr (.inl (x.tmod y)) :: r) M | _ => z
    | .land => match st with | .inr (.inl y) :: .inr (.inl x) :: r => k (pc + len) ls (.inr (.inl (z_land x y)) :: r) M | _ => z
    | .lor => match st with | .inr (.inl y) :: .inr (.inl x) :: r => k (pc + len) ls (.inr (.inl (z_lor x y)) :: r) M | _ => z
    | .lshl => match st with | .inl y :: .inr (.inl x) :: r => k (pc + len) ls (.inr (.inl (z_lshl x y)) :: r) M | _ => z
    | .lushr => match st with | .inl y :: .inr (.inl x) :: r => k (pc + len) ls (.inr (.inl (z_lushr x y)) :: r) M | _ => z
    | .lcmp => match st with | .inr (.inl y) :: .inr (.inl x) :: r => k (pc + len) ls (.inl (z_lcmp x y) :: r) M | _ => z
    | .i2l => match st with | .inl x :: r => k (pc + len) ls (.inr (.inl x) :: r) M | _ => z
    | .l2i => match st with | .inr (.inl x) :: r => k (pc + len) ls (.inl (z32 x) :: r) M | _ => z
    | .i2b => match st with | .inl x :: r => k (pc + len) ls (.inl (z_i2b x) :: r) M | _ => z
    | .dup => match st with | .inl x :: r => k (pc + len) ls (.inl x :: .inl x :: r) M | .inr (.inr x) :: r => k (pc + len) ls (.inr (.inr x) :: .inr (.inr x) :: r) M | _ => z
    | .dup2 => match st with
      | .inr (.inl x) :: r => k (pc + len) ls (.inr (.inl x) :: .inr (.inl x) :: r) M
      | .inl x :: .inl y :: r => k (pc + len) ls (.inl x :: .inl y :: .inl x :: .inl y :: r) M
      | .inl x :: .inr (.inr y) :: r => k (pc + len) ls (.inl x :: .inr (.inr y) :: .inl x :: .inr (.inr y) :: r) M
      | _ => z
    | .pop => match st with | .inl _ :: r => k (pc + len) ls r M | .inr (.inr _) :: r => k (pc + len) ls r M | _ => z
    | .goto _ => k (zhd ax) ls st M
    | .ifCond c _ => match st with | .inl x :: r => zbr c x 0 (k (zhd ax) ls r M) (k (pc + len) ls r M) | _ => z
    | .if_icmp c _ => match st with | .inl y :: .inl x :: r => zbr c x y (k (zhd ax) ls r M) (k (pc + len) ls r M) | _ => z
    | .if_acmp c _ => match st with | .inr (.inr (t1, y)) :: .inr (.inr (t2, x)) :: r => zbm (Nat.beq t1 12 && Nat.beq t2 12) (match c with | .eq => if x = y then k (zhd ax) ls r M else k (pc + len) ls r M | .ne => if x = y then k (pc + len) ls r M else k (zhd ax) ls r M) z | _ => z
    | .ifnull _ => match st with | .inr (.inr (_, o)) :: r => (match o with | none => k (zhd ax) ls r M | some _ => k (pc + len) ls r M) | _ => z
    | .ifnonnull _ => match st with | .inr (.inr (_, o)) :: r => (match o with | none => k (pc + len) ls r M | some _ => k (zhd ax) ls r M) | _ => z
    | .tableswitch _ _ _ _ => match st, ax with | .inl x :: r, d :: ts => zsw x cv ts (fun t => k t ls r M) (k d ls r M) | _, _ => z
    | .getfield _ => match st with | .inr (.inr (t, some i)) :: r => zbm (Nat.beq t (zhd ax)) (zgf M ax i (fun v => k (pc + len) ls (v :: r) M) z) z | _ => z
    | .putfield _ => match st with | v :: .inr (.inr (t, some i)) :: r => zbm (Nat.beq t (zhd ax)) (zpf M ax i v (fun M => k (pc + len) ls r M) z) z | _ => z
    | .getstatic _ => match ax with | t :: i :: _ => k (pc + len) ls (.inr (.inr (t, some i)) :: st) M | _ => z
    | .iaload => match st with | .inl x :: .inr (.inr (t, some i)) :: r => zem (zek t) (if zinb M t i x then k (pc + len) ls (.inl (mI M t i x.toNat) :: r) M else z) z z z z (if zinb M t i x then k (pc + len) ls (.inl (mKI M t i x.toNat) :: r) M else z) z z | _ => z
    | .baload => match st with | .inl x :: .inr (.inr (t, some i)) :: r => zem (zek t) z z (if zinb M t i x then k (pc + len) ls (.inl (mI M t i x.toNat) :: r) M else z) (if zinb M t i x then k (pc + len) ls (.inl (mI M t i x.toNat) :: r) M else z) z z z z | _ => z
    | .laload => match st with | .inl x :: .inr (.inr (t, some i)) :: r => zem (zek t) z (if zinb M t i x then k (pc + len) ls (.inr (.inl (mL M t i x.toNat)) :: r) M else z) z z z z z z | _ => z
    | .aaload => match st with | .inl x :: .inr (.inr (t, some i)) :: r => zem (zek t) z z z z (if zinb M t i x then k (pc + len) ls (.inr (.inr (ztg t, mF M t i x.toNat)) :: r) M else z) z (if zinb M t i x then k (pc + len) ls (.inr (.inr (ztg t, mF M t i x.toNat)) :: r) M else z) z | _ => z
    | .iastore => match st with | .inl v :: .inl x :: .inr (.inr (t, some i)) :: r => zem (zek t) (if zinb M t i x then k (pc + len) ls r (pI M t i x.toNat v) else z) z z z z z z z | _ => z
    | .bastore => match st with | .inl v :: .inl x :: .inr (.inr (t, some i)) :: r => zem (zek t) z z (if zinb M t i x then k (pc + len) ls r (pI M t i x.toNat (z_i2b v)) else z) (if zinb M t i x then k (pc + len) ls r (pI M t i x.toNat (z_b1 v)) else z) z z z z | _ => z
    | .lastore => match st with | .inr (.inl v) :: .inl x :: .inr (.inr (t, some i)) :: r => zem (zek t) z (if zinb M t i x then k (pc + len) ls r (pL M t i x.toNat v) else z) z z z z z z | _ => z
    | .aastore => match st with | .inr (.inr (t2, some j)) :: .inl x :: .inr (.inr (t, some i)) :: r => zbm (Nat.beq t2 (ztg t)) (zem (zek t) z z z z (if zinb M t i x then k (pc + len) ls r (pF M t i x.toNat (some j)) else z) z z z) z | _ => z
    | .arraylength => match st with | .inr (.inr (t, some i)) :: r => zem (zek t) (k (pc + len) ls (.inl (mN M t i : Int) :: r) M) (k (pc + len) ls (.inl (mN M t i : Int) :: r) M) (k (pc + len) ls (.inl (mN M t i : Int) :: r) M) (k (pc + len) ls (.inl (mN M t i : Int) :: r) M) (k (pc + len) ls (.inl (mN M t i : Int) :: r) M) (k (pc + len) ls (.inl (mN M t i : Int) :: r) M) (k (pc + len) ls (.inl (mN M t i : Int) :: r) M) z | _ => z
    | .new _ => zbm (znw M (zhd ax)) (k (pc + len) ls (.inr (.inr (zhd ax, some (mC M (zhd ax)))) :: st) (pNew M (zhd ax) (znf (zhd ax)))) z
    | .newarray _ => match st with | .inl n :: r => if 0 ≤ n ∧ n ≤ 100000 then k (pc + len) ls (.inr (.inr (zhd ax, some (mC M (zhd ax)))) :: r) (pNew (pLen M (zhd ax) (mC M (zhd ax)) n.toNat) (zhd ax) n.toNat) else z | _ => z
    | .anewarray _ => match st with | .inl n :: r => if 0 ≤ n ∧ n ≤ 100000 then k (pc + len) ls (.inr (.inr (zhd ax, some (mC M (zhd ax)))) :: r) (pNew (pLen M (zhd ax) (mC M (zhd ax)) n.toNat) (zhd ax) n.toNat) else z | _ => z
    | .invokevirtual _ => ziv M ax st (fun st M => k (pc + len) ls st M) (fun mi as r => kc mi as r) z
    | .invokespecial _ => ziv M ax st (fun st M => k (pc + len) ls st M) (fun mi as r => kc mi as r) z
    | .invokestatic _ => ziv M ax st (fun st M => k (pc + len) ls st M) (fun mi as r => kc mi as r) z
    | .ireturn => match st, ax with | [.inl x], [] => kr (some (.inl x)) M | [.inl x], _ :: _ => kr (some (.inl (z_b1 x))) M | _, _ => z
    | .lreturn => match st with | [.inr (.inl x)] => kr (some (.inr (.inl x))) M | _ => z
    | .return_ => match st with | [] => kr none M | _ => z
    | _ => z
end ZST
abbrev ZR : Type := Option ZV × ZM
/-- the methods: code and how many locals -/
abbrev ZG : Type := Nat → Option (ZT × Nat)
def zcall (o : Option ZR) (f : Option ZV → ZM → Option ZR) : Option ZR := match o with
  | none => none
  | some p => f p.1 p.2
def zcg (o : Option (ZT × Nat)) (f : ZT → Nat → Option ZR) : Option ZR := match o with
  | none => none
  | some p => f p.1 p.2
def zcd (d : Nat) (f : Nat → Option ZR) : Option ZR := match d with
  | 0 => none
  | d + 1 => f d
/-- places that values take among the locals -/
def zsz : List ZV → Nat
  | [] => 0
  | .inr (.inl _) :: l => zsz l + 2
  | .inl _ :: l => zsz l + 1
  | .inr (.inr _) :: l => zsz l + 1
def zex (G : ZG) : Nat → ZT → Nat → ZL → List ZV → ZM → Nat → Option ZR
  | _, _, _, _, _, _, 0 => none
  | d, tab, pc, ls, st, M, n + 1 => match zfd tab pc with
    | none => none
    | some e => zst e pc ls st M (fun pc ls st M => zex G d tab pc ls st M n) (fun r M => some (r, M))
      (fun mi as rest => zcd d fun d' => zcg (G mi) fun tab2 nl => zbm (Nat.ble (zsz as) nl) (zcall (zex G d' tab2 0 (zen nl as) [] M n) fun r M2 => zex G d tab (pc + 3) ls (r.toList ++ rest) M2 n) none) none
