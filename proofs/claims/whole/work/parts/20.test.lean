theorem t1 (G : ZG) (n d : Nat) (i : Nat) (x : Int) (I L : ZP) (r : ZRg) (c : Nat × Nat) (sl : Nat) (sx : Nat → Int) :
  zex G (n + 2) d tb_X4_get 0 [some (vR 3 (some i)), some (vI x)] [] (I, L, r, zK0 sl sx, c) = if x < 0 then zex G n d tb_X4_get 21 [some (vR 3 (some i)), some (vI x)] [] (I, L, r, zK0 sl sx, c) else zex G n d tb_X4_get 4 [some (vR 3 (some i)), some (vI x)] [] (I, L, r, zK0 sl sx, c) := rfl
theorem t2 (G : ZG) (n d : Nat) (i : Nat) (x : Int) (I L : ZP) (r : ZRg) (c : Nat × Nat) (sl : Nat) (sx : Nat → Int) :
  zex G (n + 6) d tb_X4_get 12 [some (vR 3 (some i)), some (vI x)] [] (I, L, r, zK0 sl sx, c) = if 0 ≤ x ∧ x < (zlN i : Int) then some (some (vI (I 26 i x.toNat)), (I, L, r, zK0 sl sx, c)) else none := rfl
theorem t3 (G : ZG) (n d : Nat) (f p s : Nat) (x3 x4 x5 x6 : Int) (I L : ZP) (r : ZRg) (c : Nat × Nat) (sl : Nat) (sx : Nat → Int) :
  zex G (n + 10) d tb_X1_take 0 [some (vR 0 (some f)), some (vR 4 (some p)), some (vR 7 (some s)), some (vI x3), none, none, none] [] (I, L, r, zK0 sl sx, c) =
   if 0 < I 4 p 0 then zex G (n + 4) d tb_X1_take 12 [some (vR 0 (some f)), some (vR 4 (some p)), some (vR 7 (some s)), some (vI x3), some (vI 0), none, none] [] (I, L, r, zK0 sl sx, c)
   else zex G (n+4) d tb_X1_take 91 [some (vR 0 (some f)), some (vR 4 (some p)), some (vR 7 (some s)), some (vI x3), some (vI 0), none, none] [] (I, L, r, zK0 sl sx, c) := rfl
