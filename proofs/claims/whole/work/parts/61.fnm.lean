def Mo_usual_2 (N : Nat) : Nat → Nat → Int → Int → ZM → Option ZM
  | 0, _, _, _, _ => none
  | n + 1, a0, x1, x2, M => if x2 < 9 then zI ((0 : Int) ≤ z32 ((z32 (9 * x1)) + x2) ∧ z32 ((z32 (9 * x1)) + x2) < 18) <| zW (pI M 51 a0 (z32 ((z32 (9 * x1)) + x2)).toNat 0) fun M101 => zW (z32 (x2 + 1)) fun x102 => Mo_usual_2 N n a0 x1 x102 M101 else zI ((0 : Int) ≤ z32 ((z32 (9 * x1)) + 4) ∧ z32 ((z32 (9 * x1)) + 4) < 18) <| zW (pI M 51 a0 (z32 ((z32 (9 * x1)) + 4)).toNat 20) fun M103 => zI ((0 : Int) ≤ z32 ((z32 (9 * x1)) + 5) ∧ z32 ((z32 (9 * x1)) + 5) < 18) <| zW (pI M103 51 a0 (z32 ((z32 (9 * x1)) + 5)).toNat 6) fun M104 => zI ((0 : Int) ≤ z32 ((z32 (9 * x1)) + 6) ∧ z32 ((z32 (9 * x1)) + 6) < 18) <| zW (pI M104 51 a0 (z32 ((z32 (9 * x1)) + 6)).toNat 5) fun M105 => zI ((0 : Int) ≤ z32 ((z32 ((z32 (9 * x1)) + 6)) + 1) ∧ z32 ((z32 ((z32 (9 * x1)) + 6)) + 1) < 18) <| zW (pI M105 51 a0 (z32 ((z32 ((z32 (9 * x1)) + 6)) + 1)).toNat 3) fun M106 => zI ((0 : Int) ≤ z32 ((z32 ((z32 (9 * x1)) + 6)) + 2) ∧ z32 ((z32 ((z32 (9 * x1)) + 6)) + 2) < 18) <| zW (pI M106 51 a0 (z32 ((z32 ((z32 (9 * x1)) + 6)) + 2)).toNat 1) fun M107 => some M107
def Mo_usual (N : Nat) (a0 : Nat) (x1 : Int) (M : ZM) : Option ZM :=
  Mo_usual_2 N N a0 x1 0 M
def Mo_fresh0_2 (N : Nat) : Nat → Nat → Int → ZM → Option ZM
  | 0, _, _, _ => none
  | n + 1, a0, x1, M => if x1 < 16 then if x1 < 4 then zI ((0 : Int) ≤ x1 ∧ x1 < 16) <| zW (pI M 81 a0 x1.toNat 0) fun M101 => zW (z32 (x1 + 1)) fun x102 => Mo_fresh0_2 N n a0 x102 M101 else if x1 < 10 then zI ((0 : Int) ≤ x1 ∧ x1 < 16) <| zW (pI M 81 a0 x1.toNat 2) fun M103 => zW (z32 (x1 + 1)) fun x104 => Mo_fresh0_2 N n a0 x104 M103 else zI ((0 : Int) ≤ x1 ∧ x1 < 16) <| zW (pI M 81 a0 x1.toNat 0) fun M105 => zW (z32 (x1 + 1)) fun x106 => Mo_fresh0_2 N n a0 x106 M105 else some M
def Mo_fresh0 (N : Nat) (a0 : Nat) (M : ZM) : Option ZM :=
  Mo_fresh0_2 N N a0 0 M
def Mo_thrown (N : Nat) (a0 : Nat) (M : ZM) : Option (Int × ZM) :=
  some (mI M 11 a0 0, M)
def Mo_within (N : Nat) (x0 : Int) (x1 : Int) (x2 : Int) (M : ZM) : Option (Int × ZM) :=
  if x0 < x1 then some (0, M) else if x2 < x0 then some (0, M) else some (1, M)
def Mo_between (N : Nat) (x0 : Int) (x1 : Int) (x2 : Int) (M : ZM) : Option (Int × ZM) :=
  if x0 < x1 then some (x1, M) else if x2 < x0 then some (x2, M) else some (x0, M)
def Mo_feed_93 (N : Nat) (rec8 : Nat → Int → Int → Int → Int → ZM → Option (Int × ZM)) (a0 : Nat) (x1 : Int) (x3 : Int) (x5 : Int) (x7 : Int) (x10 : Int) (M : ZM) : Option (Int × ZM) :=
  zI ((0 : Int) ≤ mI M 11 a0 1 ∧ mI M 11 a0 1 < ((1000 : Nat) : Int)) <| zW (pI M 50 a0 (mI M 11 a0 1).toNat x10) fun M101 => zW (pI M101 11 a0 1 (z32 ((mI M101 11 a0 1) + 1))) fun M102 => zW (z32 (x7 + 1)) fun x103 => rec8 a0 x1 x3 x5 x103 M102
def Mo_feed_39 (N : Nat) (rec8 : Nat → Int → Int → Int → Int → ZM → Option (Int × ZM)) (a0 : Nat) (x1 : Int) (x3 : Int) (x5 : Int) (x7 : Int) (y0 : Int) (M : ZM) : Option (Int × ZM) :=
  zW (z32 (z_land (z_lushr y0 (z32 (56 - (z32 (8 * (z_and x7 7)))))) 255)) fun x101 => if mI M 11 a0 1 < 1000 then if x101 = 10 then Mo_feed_93 N rec8 a0 x1 x3 x5 x7 x101 M else if x101 < 32 then zW (z32 (x7 + 1)) fun x102 => rec8 a0 x1 x3 x5 x102 M else if 126 < x101 then zW (z32 (x7 + 1)) fun x103 => rec8 a0 x1 x3 x5 x103 M else Mo_feed_93 N rec8 a0 x1 x3 x5 x7 x101 M else zW (z32 (x7 + 1)) fun x104 => rec8 a0 x1 x3 x5 x104 M
def Mo_feed_8 (N : Nat) : Nat → Nat → Int → Int → Int → Int → ZM → Option (Int × ZM)
  | 0, _, _, _, _, _, _ => none
  | n + 1, a0, x1, x3, x5, x7, M => if x7 < 24 then if x7 < 8 then Mo_feed_39 N (Mo_feed_8 N n) a0 x1 x3 x5 x7 x1 M else if x7 < 16 then Mo_feed_39 N (Mo_feed_8 N n) a0 x1 x3 x5 x7 x3 M else Mo_feed_39 N (Mo_feed_8 N n) a0 x1 x3 x5 x7 x5 M else some (mI M 11 a0 1, M)
def Mo_feed (N : Nat) (a0 : Nat) (x1 : Int) (x2 : Int) (x3 : Int) (M : ZM) : Option (Int × ZM) :=
  zW (pI M 11 a0 0 0) fun M101 => Mo_feed_8 N N a0 x1 x2 x3 0 M101
def Mo_signAt (N : Nat) (a0 : Nat) (x1 : Int) (M : ZM) : Option (Int × ZM) :=
  if x1 < mI M 11 a0 3 then zI ((0 : Int) ≤ x1 ∧ x1 < ((1000 : Nat) : Int)) <| some (mI M 50 a0 x1.toNat, M) else some (0, M)
def Mo_nextToken_188 (N : Nat) (a0 : Nat) (M : ZM) : Option ZM :=
  if 8 < z32 ((mI M 11 a0 4) - (mI M 11 a0 5)) then zW (pI M 11 a0 6 4) fun M101 => some M101 else zW (pI M 11 a0 6 1) fun M102 => some M102
def Mo_nextToken_109 (N : Nat) : Nat → Nat → ZM → Option ZM
  | 0, _, _ => none
  | n + 1, a0, M => zB (Mo_signAt N a0 (mI M 11 a0 4) M) fun v101 M101 => if v101 < 97 then Mo_nextToken_188 N a0 M101 else zB (Mo_signAt N a0 (mI M101 11 a0 4) M101) fun v102 M102 => if 122 < v102 then Mo_nextToken_188 N a0 M102 else if z32 ((mI M102 11 a0 4) - (mI M102 11 a0 5)) < 8 then zB (Mo_signAt N a0 (mI M102 11 a0 4) M102) fun v103 M103 => zW (pL M103 11 a0 7 (z64 ((z64 ((z64 ((mL M102 11 a0 7) * 27)) + v103)) - 96))) fun M104 => zW (pI M104 11 a0 4 (z32 ((mI M104 11 a0 4) + 1))) fun M105 => Mo_nextToken_109 N n a0 M105 else zW (pI M102 11 a0 4 (z32 ((mI M102 11 a0 4) + 1))) fun M106 => Mo_nextToken_109 N n a0 M106
def Mo_nextToken_299 (N : Nat) (a0 : Nat) (M : ZM) : Option ZM :=
  if 4 < z32 ((mI M 11 a0 4) - (mI M 11 a0 5)) then zW (pI M 11 a0 6 4) fun M101 => some M101 else zW (pI M 11 a0 6 2) fun M102 => some M102
def Mo_nextToken_224 (N : Nat) : Nat → Nat → ZM → Option ZM
  | 0, _, _ => none
  | n + 1, a0, M => zB (Mo_signAt N a0 (mI M 11 a0 4) M) fun v101 M101 => if v101 < 48 then Mo_nextToken_299 N a0 M101 else zB (Mo_signAt N a0 (mI M101 11 a0 4) M101) fun v102 M102 => if 57 < v102 then Mo_nextToken_299 N a0 M102 else if z32 ((mI M102 11 a0 4) - (mI M102 11 a0 5)) < 4 then zB (Mo_signAt N a0 (mI M102 11 a0 4) M102) fun v103 M103 => zW (pI M103 11 a0 8 (z32 ((z32 ((z32 ((mI M102 11 a0 8) * 10)) + v103)) - 48))) fun M104 => zW (pI M104 11 a0 4 (z32 ((mI M104 11 a0 4) + 1))) fun M105 => Mo_nextToken_224 N n a0 M105 else zW (pI M102 11 a0 4 (z32 ((mI M102 11 a0 4) + 1))) fun M106 => Mo_nextToken_224 N n a0 M106
def Mo_nextToken_345 (N : Nat) (x1 : Int) (b0 : Nat) (M : ZM) : Option ZM :=
  if x1 = 45 then zW (pI M 11 b0 6 3) fun M101 => some M101 else if x1 < 59 then zW (pI M 11 b0 6 4) fun M102 => some M102 else if 61 < x1 then zW (pI M 11 b0 6 4) fun M103 => some M103 else zW (pI M 11 b0 6 3) fun M104 => some M104
def Mo_nextToken_322 (N : Nat) (a0 : Nat) (x1 : Int) (M : ZM) : Option ZM :=
  zW (pI M 11 a0 4 (z32 ((mI M 11 a0 4) + 1))) fun M101 => if x1 < 40 then Mo_nextToken_345 N x1 a0 M101 else if 43 < x1 then Mo_nextToken_345 N x1 a0 M101 else zW (pI M101 11 a0 6 3) fun M102 => some M102
def Mo_nextToken_52 (N : Nat) (a0 : Nat) (M : ZM) : Option ZM :=
  zW (pI M 11 a0 5 (mI M 11 a0 4)) fun M101 => zW (pL M101 11 a0 7 0) fun M102 => zW (pI M102 11 a0 8 0) fun M103 => if mI M103 11 a0 4 = mI M103 11 a0 3 then zW (pI M103 11 a0 6 0) fun M104 => some M104 else zI ((0 : Int) ≤ mI M103 11 a0 4 ∧ mI M103 11 a0 4 < ((1000 : Nat) : Int)) <| zW (mI M103 50 a0 (mI M103 11 a0 4).toNat) fun x105 => if x105 < 97 then if x105 < 48 then Mo_nextToken_322 N a0 x105 M103 else if 57 < x105 then Mo_nextToken_322 N a0 x105 M103 else Mo_nextToken_224 N N a0 M103 else if 122 < x105 then if x105 < 48 then Mo_nextToken_322 N a0 x105 M103 else if 57 < x105 then Mo_nextToken_322 N a0 x105 M103 else Mo_nextToken_224 N N a0 M103 else Mo_nextToken_109 N N a0 M103
def Mo_nextToken_0 (N : Nat) : Nat → Nat → ZM → Option ZM
  | 0, _, _ => none
  | n + 1, a0, M => if mI M 11 a0 4 < mI M 11 a0 3 then zI ((0 : Int) ≤ mI M 11 a0 4 ∧ mI M 11 a0 4 < ((1000 : Nat) : Int)) <| if mI M 50 a0 (mI M 11 a0 4).toNat = 32 then zW (pI M 11 a0 4 (z32 ((mI M 11 a0 4) + 1))) fun M101 => Mo_nextToken_0 N n a0 M101 else zI ((0 : Int) ≤ mI M 11 a0 4 ∧ mI M 11 a0 4 < ((1000 : Nat) : Int)) <| if mI M 50 a0 (mI M 11 a0 4).toNat = 10 then zW (pI M 11 a0 4 (z32 ((mI M 11 a0 4) + 1))) fun M102 => Mo_nextToken_0 N n a0 M102 else Mo_nextToken_52 N a0 M else Mo_nextToken_52 N a0 M
def Mo_nextToken (N : Nat) (a0 : Nat) (M : ZM) : Option ZM :=
  Mo_nextToken_0 N N a0 M
def Mo_isWord (N : Nat) (a0 : Nat) (x1 : Int) (M : ZM) : Option (Int × ZM) :=
  if mI M 11 a0 6 = 1 then if z_lcmp (mL M 11 a0 7) x1 = 0 then some (1, M) else some (0, M) else some (0, M)
def Mo_isSign (N : Nat) (a0 : Nat) (x1 : Int) (M : ZM) : Option (Int × ZM) :=
  if mI M 11 a0 6 = 3 then zI ((0 : Int) ≤ mI M 11 a0 5 ∧ mI M 11 a0 5 < ((1000 : Nat) : Int)) <| if mI M 50 a0 (mI M 11 a0 5).toNat = x1 then some (1, M) else some (0, M) else some (0, M)
def Mo_fails (N : Nat) (a0 : Nat) (x1 : Int) (M : ZM) : Option (Int × ZM) :=
  zW (pI M 11 a0 9 (z32 (x1 + (z32 (16 * (mI M 11 a0 5)))))) fun M101 => some (0, M101)
def Mo_puts (N : Nat) (a0 : Nat) (x1 : Int) (M : ZM) : Option ZM :=
  zI ((0 : Int) ≤ mI M 11 a0 21 ∧ mI M 11 a0 21 < ((2000 : Nat) : Int)) <| zW (pI M 61 a0 (mI M 11 a0 21).toNat x1) fun M101 => zW (pI M101 11 a0 21 (z32 ((mI M101 11 a0 21) + 1))) fun M102 => some M102
def Mo_fact (N : Nat) (a0 : Nat) (M : ZM) : Option (Int × ZM) :=
  if mI M 11 a0 6 = 1 then if z_lcmp (mL M 11 a0 7) 459652 = 0 then some (1, M) else if z_lcmp (mL M 11 a0 7) 464144 = 0 then some (2, M) else if z_lcmp (mL M 11 a0 7) 812435 = 0 then some (3, M) else if z_lcmp (mL M 11 a0 7) 7622660 = 0 then some (4, M) else some (0, M) else some (0, M)
def Mo_reads_172 (N : Nat) (rec11 : Nat → Int → Int → ZM → Option (Int × ZM)) (a0 : Nat) (x1 : Int) (x2 : Int) (M : ZM) : Option (Int × ZM) :=
  zBv (Mo_nextToken N a0 M) fun M101 => rec11 a0 x1 x2 M101
def Mo_reads_99 (N : Nat) (rec11 : Nat → Int → Int → ZM → Option (Int × ZM)) (a0 : Nat) (x1 : Int) (x2 : Int) (x4 : Int) (b0 : Nat) (y1 : Int) (M : ZM) : Option (Int × ZM) :=
  zBv (Mo_puts N b0 y1 M) fun M101 => zW (z32 (x1 + 1)) fun x102 => if x4 = 0 then zI ((0 : Int) ≤ x102 ∧ x102 < 7) <| zW (pI M101 62 a0 x102.toNat 2) fun M103 => zI ((0 : Int) ≤ x102 ∧ x102 < 7) <| zW (pI M103 63 a0 x102.toNat (z_b1 0)) fun M104 => Mo_reads_172 N rec11 a0 x102 x2 M104 else zI ((0 : Int) ≤ x102 ∧ x102 < 7) <| zW (pI M101 62 a0 x102.toNat 1) fun M105 => zI ((0 : Int) ≤ x102 ∧ x102 < 7) <| zW (pI M105 63 a0 x102.toNat (z_b1 0)) fun M106 => Mo_reads_172 N rec11 a0 x102 x2 M106
def Mo_reads_152 (N : Nat) (rec11 : Nat → Int → Int → ZM → Option (Int × ZM)) : Nat → Nat → Int → Int → ZM → Option (Int × ZM)
  | 0, _, _, _, _ => none
  | n + 1, a0, x1, x2, M => if 0 < x1 then zI ((0 : Int) ≤ x1 ∧ x1 < 7) <| if mI M 62 a0 x1.toNat = 1 then zW (z32 (x1 + (-1))) fun x101 => Mo_reads_152 N rec11 n a0 x101 x2 M else Mo_reads_172 N rec11 a0 x1 x2 M else Mo_reads_172 N rec11 a0 x1 x2 M
def Mo_reads_147 (N : Nat) (rec11 : Nat → Int → Int → ZM → Option (Int × ZM)) (a0 : Nat) (x1 : Int) (b0 : Nat) (y1 : Int) (M : ZM) : Option (Int × ZM) :=
  zBv (Mo_puts N b0 y1 M) fun M101 => Mo_reads_152 N rec11 N a0 x1 0 M101
def Mo_reads_65 (N : Nat) (rec11 : Nat → Int → Int → ZM → Option (Int × ZM)) (a0 : Nat) (x1 : Int) (x2 : Int) (x3 : Int) (x4 : Int) (x5 : Int) (M : ZM) : Option (Int × ZM) :=
  if x1 = 5 then zB (Mo_fails N a0 5 M) fun v101 M101 => some (z_b1 v101, M101) else if x4 = 0 then if x5 = 0 then if 0 < x3 then Mo_reads_147 N rec11 a0 x1 a0 x3 M else Mo_reads_147 N rec11 a0 x1 a0 (z32 (100 + (mI M 11 a0 8))) M else if x4 = 0 then Mo_reads_99 N rec11 a0 x1 x2 x4 a0 28 M else Mo_reads_99 N rec11 a0 x1 x2 x4 a0 30 M else if x4 = 0 then Mo_reads_99 N rec11 a0 x1 x2 x4 a0 28 M else Mo_reads_99 N rec11 a0 x1 x2 x4 a0 30 M
def Mo_reads_424 (N : Nat) (rec11 : Nat → Int → Int → ZM → Option (Int × ZM)) (a0 : Nat) (x1 : Int) (x2 : Int) (M : ZM) : Option (Int × ZM) :=
  zBv (Mo_nextToken N a0 M) fun M101 => rec11 a0 x1 x2 M101
def Mo_reads_237 (N : Nat) (rec11 : Nat → Int → Int → ZM → Option (Int × ZM)) (a0 : Nat) (x1 : Int) (b0 : Nat) (y1 : Int) (M : ZM) : Option (Int × ZM) :=
  zBv (Mo_puts N b0 y1 M) fun M101 => Mo_reads_424 N rec11 a0 x1 1 M101
def Mo_reads_206 (N : Nat) (rec11 : Nat → Int → Int → ZM → Option (Int × ZM)) (a0 : Nat) (x1 : Int) (M : ZM) : Option (Int × ZM) :=
  zB (Mo_isSign N a0 43 M) fun v101 M101 => if v101 = 0 then zB (Mo_isSign N a0 45 M101) fun v102 M102 => if v102 = 0 then Mo_reads_237 N rec11 a0 x1 a0 22 M102 else Mo_reads_237 N rec11 a0 x1 a0 21 M102 else Mo_reads_237 N rec11 a0 x1 a0 20 M101
def Mo_reads_289 (N : Nat) (rec11 : Nat → Int → Int → ZM → Option (Int × ZM)) (a0 : Nat) (x1 : Int) (b0 : Nat) (y1 : Int) (M : ZM) : Option (Int × ZM) :=
  zBv (Mo_puts N b0 y1 M) fun M101 => zI ((0 : Int) ≤ x1 ∧ x1 < 7) <| zW (pI M101 63 a0 x1.toNat (z_b1 1)) fun M102 => Mo_reads_424 N rec11 a0 x1 1 M102
def Mo_reads_342 (N : Nat) (rec11 : Nat → Int → Int → ZM → Option (Int × ZM)) (a0 : Nat) (x1 : Int) (b0 : Nat) (y1 : Int) (M : ZM) : Option (Int × ZM) :=
  zBv (Mo_puts N b0 y1 M) fun M101 => zI ((0 : Int) ≤ x1 ∧ x1 < 7) <| zW (pI M101 63 a0 x1.toNat (z_b1 0)) fun M102 => Mo_reads_424 N rec11 a0 x1 1 M102
def Mo_reads_324 (N : Nat) (rec11 : Nat → Int → Int → ZM → Option (Int × ZM)) (a0 : Nat) (x1 : Int) (M : ZM) : Option (Int × ZM) :=
  zB (Mo_isWord N a0 1111 M) fun v101 M101 => if v101 = 0 then Mo_reads_342 N rec11 a0 x1 a0 27 M101 else Mo_reads_342 N rec11 a0 x1 a0 26 M101
def Mo_reads_379 (N : Nat) (rec11 : Nat → Int → Int → ZM → Option (Int × ZM)) : Nat → Nat → Int → Int → ZM → Option (Int × ZM)
  | 0, _, _, _, _ => none
  | n + 1, a0, x1, x2, M => if 0 < x1 then zI ((0 : Int) ≤ x1 ∧ x1 < 7) <| if mI M 62 a0 x1.toNat = 1 then zW (z32 (x1 + (-1))) fun x101 => Mo_reads_379 N rec11 n a0 x101 x2 M else Mo_reads_424 N rec11 a0 x1 x2 M else Mo_reads_424 N rec11 a0 x1 x2 M
def Mo_reads_418 (N : Nat) (a0 : Nat) (M : ZM) : Option (Int × ZM) :=
  zB (Mo_fails N a0 1 M) fun v101 M101 => some (z_b1 v101, M101)
def Mo_reads_399 (N : Nat) (a0 : Nat) (x1 : Int) (M : ZM) : Option (Int × ZM) :=
  if x1 = 0 then zB (Mo_isSign N a0 59 M) fun v101 M101 => if v101 = 0 then Mo_reads_418 N a0 M101 else zBv (Mo_nextToken N a0 M101) fun M102 => some (1, M102) else Mo_reads_418 N a0 M
def Mo_reads_304 (N : Nat) (rec11 : Nat → Int → Int → ZM → Option (Int × ZM)) (a0 : Nat) (x1 : Int) (x2 : Int) (M : ZM) : Option (Int × ZM) :=
  zB (Mo_isWord N a0 1111 M) fun v101 M101 => if v101 = 0 then zB (Mo_isWord N a0 423 M101) fun v102 M102 => if v102 = 0 then zB (Mo_isSign N a0 41 M102) fun v103 M103 => if v103 = 0 then Mo_reads_399 N a0 x1 M103 else if 0 < x1 then zBv (Mo_puts N a0 29 M103) fun M104 => zW (z32 (x1 + (-1))) fun x105 => Mo_reads_379 N rec11 N a0 x105 x2 M104 else Mo_reads_399 N a0 x1 M103 else Mo_reads_324 N rec11 a0 x1 M102 else Mo_reads_324 N rec11 a0 x1 M101
def Mo_reads_263 (N : Nat) (rec11 : Nat → Int → Int → ZM → Option (Int × ZM)) (a0 : Nat) (x1 : Int) (x2 : Int) (M : ZM) : Option (Int × ZM) :=
  zI ((0 : Int) ≤ x1 ∧ x1 < 7) <| if mI M 63 a0 x1.toNat = 0 then zB (Mo_isSign N a0 60 M) fun v101 M101 => if v101 = 0 then Mo_reads_289 N rec11 a0 x1 a0 25 M101 else Mo_reads_289 N rec11 a0 x1 a0 24 M101 else Mo_reads_304 N rec11 a0 x1 x2 M
def Mo_reads_11 (N : Nat) : Nat → Nat → Int → Int → ZM → Option (Int × ZM)
  | 0, _, _, _, _ => none
  | n + 1, a0, x1, x2, M => if x2 = 0 then zB (Mo_isSign N a0 43 M) fun v101 M101 => if v101 = 0 then zB (Mo_isSign N a0 45 M101) fun v102 M102 => if v102 = 0 then zB (Mo_isSign N a0 42 M102) fun v103 M103 => if v103 = 0 then zB (Mo_isSign N a0 60 M103) fun v104 M104 => if v104 = 0 then zB (Mo_isSign N a0 61 M104) fun v105 M105 => if v105 = 0 then Mo_reads_304 N (Mo_reads_11 N n) a0 x1 x2 M105 else Mo_reads_263 N (Mo_reads_11 N n) a0 x1 x2 M105 else Mo_reads_263 N (Mo_reads_11 N n) a0 x1 x2 M104 else Mo_reads_206 N (Mo_reads_11 N n) a0 x1 M103 else Mo_reads_206 N (Mo_reads_11 N n) a0 x1 M102 else Mo_reads_206 N (Mo_reads_11 N n) a0 x1 M101 else zB (Mo_fact N a0 M) fun v106 M106 => zB (Mo_isWord N a0 10631 M106) fun v107 M107 => zB (Mo_isSign N a0 40 M107) fun v108 M108 => if v106 = 0 then if v107 = 0 then if v108 = 0 then if mI M108 11 a0 6 = 2 then Mo_reads_65 N (Mo_reads_11 N n) a0 x1 x2 v106 v107 v108 M108 else zB (Mo_fails N a0 1 M108) fun v109 M109 => some (z_b1 v109, M109) else Mo_reads_65 N (Mo_reads_11 N n) a0 x1 x2 v106 v107 v108 M108 else Mo_reads_65 N (Mo_reads_11 N n) a0 x1 x2 v106 v107 v108 M108 else Mo_reads_65 N (Mo_reads_11 N n) a0 x1 x2 v106 v107 v108 M108
def Mo_reads (N : Nat) (a0 : Nat) (M : ZM) : Option (Int × ZM) :=
  zW (pI M 63 a0 0 (z_b1 0)) fun M101 => Mo_reads_11 N N a0 0 1 M101
def Mo_opens (N : Nat) (a0 : Nat) (x1 : Int) (M : ZM) : Option ZM :=
  zI ((0 : Int) ≤ x1 ∧ x1 < 7) <| zW (pI M 65 a0 x1.toNat 0) fun M101 => zI ((0 : Int) ≤ x1 ∧ x1 < 7) <| zW (pI M101 67 a0 x1.toNat 0) fun M102 => zI ((0 : Int) ≤ x1 ∧ x1 < 7) <| zW (pI M102 68 a0 x1.toNat 0) fun M103 => zI ((0 : Int) ≤ x1 ∧ x1 < 7) <| zW (pI M103 69 a0 x1.toNat 20) fun M104 => zI ((0 : Int) ≤ x1 ∧ x1 < 7) <| zW (pI M104 71 a0 x1.toNat 0) fun M105 => some M105
def Mo_sums (N : Nat) (a0 : Nat) (x1 : Int) (M : ZM) : Option ZM :=
  zI ((0 : Int) ≤ x1 ∧ x1 < 7) <| if mI M 69 a0 x1.toNat = 21 then zI ((0 : Int) ≤ x1 ∧ x1 < 7) <| zI ((0 : Int) ≤ x1 ∧ x1 < 7) <| zI ((0 : Int) ≤ x1 ∧ x1 < 7) <| zW (pI M 68 a0 x1.toNat (z32 ((mI M 68 a0 x1.toNat) - (mI M 70 a0 x1.toNat)))) fun M101 => zI ((0 : Int) ≤ x1 ∧ x1 < 7) <| zW (pI M101 71 a0 x1.toNat 0) fun M102 => some M102 else zI ((0 : Int) ≤ x1 ∧ x1 < 7) <| zI ((0 : Int) ≤ x1 ∧ x1 < 7) <| zI ((0 : Int) ≤ x1 ∧ x1 < 7) <| zW (pI M 68 a0 x1.toNat (z32 ((mI M 68 a0 x1.toNat) + (mI M 70 a0 x1.toNat)))) fun M103 => zI ((0 : Int) ≤ x1 ∧ x1 < 7) <| zW (pI M103 71 a0 x1.toNat 0) fun M104 => some M104
def Mo_tests_136 (N : Nat) (a0 : Nat) (x1 : Int) (x2 : Int) (M : ZM) : Option ZM :=
  zI ((0 : Int) ≤ x1 ∧ x1 < 7) <| zW (pI M 64 a0 x1.toNat x2) fun M101 => zI ((0 : Int) ≤ x1 ∧ x1 < 7) <| zW (pI M101 67 a0 x1.toNat 0) fun M102 => zI ((0 : Int) ≤ x1 ∧ x1 < 7) <| zW (pI M102 68 a0 x1.toNat 0) fun M103 => zI ((0 : Int) ≤ x1 ∧ x1 < 7) <| zW (pI M103 69 a0 x1.toNat 20) fun M104 => some M104
def Mo_tests_106 (N : Nat) (a0 : Nat) (x1 : Int) (x2 : Int) (M : ZM) : Option ZM :=
  zI ((0 : Int) ≤ x1 ∧ x1 < 7) <| if mI M 65 a0 x1.toNat = 27 then zI ((0 : Int) ≤ x1 ∧ x1 < 7) <| if mI M 64 a0 x1.toNat = 0 then if x2 = 0 then Mo_tests_136 N a0 x1 0 M else Mo_tests_136 N a0 x1 1 M else Mo_tests_136 N a0 x1 1 M else Mo_tests_136 N a0 x1 x2 M
def Mo_tests_76 (N : Nat) (a0 : Nat) (x1 : Int) (x2 : Int) (M : ZM) : Option ZM :=
  zI ((0 : Int) ≤ x1 ∧ x1 < 7) <| if mI M 65 a0 x1.toNat = 26 then zI ((0 : Int) ≤ x1 ∧ x1 < 7) <| if mI M 64 a0 x1.toNat = 0 then Mo_tests_106 N a0 x1 0 M else if x2 = 0 then Mo_tests_106 N a0 x1 0 M else Mo_tests_106 N a0 x1 1 M else Mo_tests_106 N a0 x1 x2 M
def Mo_tests_44 (N : Nat) (a0 : Nat) (x1 : Int) (x2 : Int) (M : ZM) : Option ZM :=
  zI ((0 : Int) ≤ x1 ∧ x1 < 7) <| if mI M 67 a0 x1.toNat = 25 then zI ((0 : Int) ≤ x1 ∧ x1 < 7) <| zI ((0 : Int) ≤ x1 ∧ x1 < 7) <| if mI M 66 a0 x1.toNat = mI M 68 a0 x1.toNat then Mo_tests_76 N a0 x1 1 M else Mo_tests_76 N a0 x1 0 M else Mo_tests_76 N a0 x1 x2 M
def Mo_tests (N : Nat) (a0 : Nat) (x1 : Int) (M : ZM) : Option ZM :=
  zBv (Mo_sums N a0 x1 M) fun M101 => zI ((0 : Int) ≤ x1 ∧ x1 < 7) <| zW (mI M101 68 a0 x1.toNat) fun x102 => zI ((0 : Int) ≤ x1 ∧ x1 < 7) <| if mI M101 67 a0 x1.toNat = 24 then zI ((0 : Int) ≤ x1 ∧ x1 < 7) <| zI ((0 : Int) ≤ x1 ∧ x1 < 7) <| if mI M101 66 a0 x1.toNat < mI M101 68 a0 x1.toNat then Mo_tests_44 N a0 x1 1 M101 else Mo_tests_44 N a0 x1 0 M101 else Mo_tests_44 N a0 x1 x102 M101
def Mo_worked_66 (N : Nat) (rec14 : Nat → Int → Int → Int → ZM → Option (Int × ZM)) (a0 : Nat) (x1 : Int) (x2 : Int) (x3 : Int) (b0 : Nat) (y1 : Int) (y2 : Int) (M : ZM) : Option (Int × ZM) :=
  zI ((0 : Int) ≤ y1 ∧ y1 < 7) <| zW (pI M 72 b0 y1.toNat y2) fun M101 => zBv (Mo_opens N a0 x2 M101) fun M102 => zW (z32 (x3 + 1)) fun x103 => rec14 a0 x1 x2 x103 M102
def Mo_worked_46 (N : Nat) (rec14 : Nat → Int → Int → Int → ZM → Option (Int × ZM)) (a0 : Nat) (x1 : Int) (x2 : Int) (x3 : Int) (x4 : Int) (M : ZM) : Option (Int × ZM) :=
  zW (z32 (x2 + 1)) fun x101 => if x4 = 30 then Mo_worked_66 N rec14 a0 x1 x101 x3 a0 x101 1 M else Mo_worked_66 N rec14 a0 x1 x101 x3 a0 x101 0 M
def Mo_worked_89 (N : Nat) (rec14 : Nat → Int → Int → Int → ZM → Option (Int × ZM)) (a0 : Nat) (x1 : Int) (x2 : Int) (x3 : Int) (x4 : Int) (M : ZM) : Option (Int × ZM) :=
  zBv (Mo_sums N a0 x2 M) fun M101 => zI ((0 : Int) ≤ x2 ∧ x2 < 7) <| zW (pI M101 69 a0 x2.toNat x4) fun M102 => zW (z32 (x3 + 1)) fun x103 => rec14 a0 x1 x2 x103 M102
def Mo_worked_137 (N : Nat) (rec14 : Nat → Int → Int → Int → ZM → Option (Int × ZM)) (a0 : Nat) (x1 : Int) (x2 : Int) (x3 : Int) (x4 : Int) (M : ZM) : Option (Int × ZM) :=
  zBv (Mo_sums N a0 x2 M) fun M101 => zI ((0 : Int) ≤ x2 ∧ x2 < 7) <| zI ((0 : Int) ≤ x2 ∧ x2 < 7) <| zW (pI M101 66 a0 x2.toNat (mI M101 68 a0 x2.toNat)) fun M102 => zI ((0 : Int) ≤ x2 ∧ x2 < 7) <| zW (pI M102 67 a0 x2.toNat x4) fun M103 => zI ((0 : Int) ≤ x2 ∧ x2 < 7) <| zW (pI M103 68 a0 x2.toNat 0) fun M104 => zI ((0 : Int) ≤ x2 ∧ x2 < 7) <| zW (pI M104 69 a0 x2.toNat 20) fun M105 => zW (z32 (x3 + 1)) fun x106 => rec14 a0 x1 x2 x106 M105
def Mo_worked_194 (N : Nat) (rec14 : Nat → Int → Int → Int → ZM → Option (Int × ZM)) (a0 : Nat) (x1 : Int) (x2 : Int) (x3 : Int) (x4 : Int) (M : ZM) : Option (Int × ZM) :=
  zBv (Mo_tests N a0 x2 M) fun M101 => zI ((0 : Int) ≤ x2 ∧ x2 < 7) <| zW (pI M101 65 a0 x2.toNat x4) fun M102 => zW (z32 (x3 + 1)) fun x103 => rec14 a0 x1 x2 x103 M102
def Mo_worked_300 (N : Nat) (rec14 : Nat → Int → Int → Int → ZM → Option (Int × ZM)) (a0 : Nat) (x1 : Int) (x2 : Int) (x3 : Int) (x5 : Int) (M : ZM) : Option (Int × ZM) :=
  zI ((0 : Int) ≤ x2 ∧ x2 < 7) <| if mI M 71 a0 x2.toNat = 0 then zI ((0 : Int) ≤ x2 ∧ x2 < 7) <| zW (pI M 70 a0 x2.toNat x5) fun M101 => zW (z32 (x3 + 1)) fun x102 => rec14 a0 x1 x2 x102 M101 else zI ((0 : Int) ≤ x2 ∧ x2 < 7) <| zI ((0 : Int) ≤ x2 ∧ x2 < 7) <| zW (pI M 70 a0 x2.toNat (z32 ((mI M 70 a0 x2.toNat) * x5))) fun M103 => zW (z32 (x3 + 1)) fun x104 => rec14 a0 x1 x2 x104 M103
def Mo_worked_268 (N : Nat) (rec14 : Nat → Int → Int → Int → ZM → Option (Int × ZM)) : Nat → Nat → Int → Int → Int → Int → ZM → Option (Int × ZM)
  | 0, _, _, _, _, _, _ => none
  | n + 1, a0, x1, x2, x3, x5, M => if 0 < x2 then zI ((0 : Int) ≤ x2 ∧ x2 < 7) <| if mI M 72 a0 x2.toNat = 1 then if x5 = 0 then zW (z32 (x2 + (-1))) fun x101 => Mo_worked_268 N rec14 n a0 x1 x101 x3 1 M else zW (z32 (x2 + (-1))) fun x102 => Mo_worked_268 N rec14 n a0 x1 x102 x3 0 M else Mo_worked_300 N rec14 a0 x1 x2 x3 x5 M else Mo_worked_300 N rec14 a0 x1 x2 x3 x5 M
def Mo_worked_243 (N : Nat) (rec14 : Nat → Int → Int → Int → ZM → Option (Int × ZM)) (a0 : Nat) (x1 : Int) (x2 : Int) (x3 : Int) (x4 : Int) (y0 : Int) (M : ZM) : Option (Int × ZM) :=
  if x4 = 29 then zBv (Mo_tests N a0 x2 M) fun M101 => zI ((0 : Int) ≤ x2 ∧ x2 < 7) <| zW (mI M101 64 a0 x2.toNat) fun x102 => zW (z32 (x2 + (-1))) fun x103 => Mo_worked_268 N rec14 N a0 x1 x103 x3 x102 M101 else Mo_worked_268 N rec14 N a0 x1 x2 x3 y0 M
def Mo_worked_14 (N : Nat) : Nat → Nat → Int → Int → Int → ZM → Option (Int × ZM)
  | 0, _, _, _, _, _ => none
  | n + 1, a0, x1, x2, x3, M => zI ((0 : Int) ≤ x1 ∧ x1 < 2) <| if x3 < mI M 60 a0 x1.toNat then zI ((0 : Int) ≤ x3 ∧ x3 < ((2000 : Nat) : Int)) <| zW (mI M 61 a0 x3.toNat) fun x101 => if x101 = 28 then Mo_worked_46 N (Mo_worked_14 N n) a0 x1 x2 x3 x101 M else if x101 = 30 then Mo_worked_46 N (Mo_worked_14 N n) a0 x1 x2 x3 x101 M else if x101 = 20 then Mo_worked_89 N (Mo_worked_14 N n) a0 x1 x2 x3 x101 M else if x101 = 21 then Mo_worked_89 N (Mo_worked_14 N n) a0 x1 x2 x3 x101 M else if x101 = 22 then zI ((0 : Int) ≤ x2 ∧ x2 < 7) <| zW (pI M 71 a0 x2.toNat x101) fun M102 => zW (z32 (x3 + 1)) fun x103 => Mo_worked_14 N n a0 x1 x2 x103 M102 else if x101 = 24 then Mo_worked_137 N (Mo_worked_14 N n) a0 x1 x2 x3 x101 M else if x101 = 25 then Mo_worked_137 N (Mo_worked_14 N n) a0 x1 x2 x3 x101 M else if x101 = 26 then Mo_worked_194 N (Mo_worked_14 N n) a0 x1 x2 x3 x101 M else if x101 = 27 then Mo_worked_194 N (Mo_worked_14 N n) a0 x1 x2 x3 x101 M else if x101 < 100 then if x101 < 20 then zI ((0 : Int) ≤ x101 ∧ x101 < 20) <| Mo_worked_243 N (Mo_worked_14 N n) a0 x1 x2 x3 x101 (mI M 73 a0 x101.toNat) M else Mo_worked_243 N (Mo_worked_14 N n) a0 x1 x2 x3 x101 0 M else Mo_worked_243 N (Mo_worked_14 N n) a0 x1 x2 x3 x101 (z32 (x101 - 100)) M else zBv (Mo_tests N a0 0 M) fun M104 => some (mI M104 64 a0 0, M104)
def Mo_worked (N : Nat) (a0 : Nat) (x1 : Int) (M : ZM) : Option (Int × ZM) :=
  zBv (Mo_opens N a0 0 M) fun M101 => zI ((0 : Int) ≤ x1 ∧ x1 < 2) <| zW (mI M101 59 a0 x1.toNat) fun x102 => Mo_worked_14 N N a0 x1 0 x102 M101
def Mo_isKept (N : Nat) (a0 : Nat) (M : ZM) : Option (Int × ZM) :=
  if mI M 11 a0 6 = 1 then if z_lcmp (mL M 11 a0 7) 8059349075 = 0 then some (1, M) else if z_lcmp (mL M 11 a0 7) 411 = 0 then some (1, M) else if z_lcmp (mL M 11 a0 7) 47 = 0 then some (1, M) else if z_lcmp (mL M 11 a0 7) 1615793 = 0 then some (1, M) else if z_lcmp (mL M 11 a0 7) 555 = 0 then some (1, M) else if z_lcmp (mL M 11 a0 7) 168755 = 0 then some (1, M) else if z_lcmp (mL M 11 a0 7) 4555648 = 0 then some (1, M) else if z_lcmp (mL M 11 a0 7) 1310653 = 0 then some (1, M) else if z_lcmp (mL M 11 a0 7) 131638 = 0 then some (1, M) else if z_lcmp (mL M 11 a0 7) 8863997 = 0 then some (1, M) else if z_lcmp (mL M 11 a0 7) 12250999 = 0 then some (1, M) else if z_lcmp (mL M 11 a0 7) 12322792 = 0 then some (1, M) else if z_lcmp (mL M 11 a0 7) 10334396 = 0 then some (1, M) else if z_lcmp (mL M 11 a0 7) 3913426 = 0 then some (1, M) else if z_lcmp (mL M 11 a0 7) 409469 = 0 then some (1, M) else if z_lcmp (mL M 11 a0 7) 380396 = 0 then some (1, M) else if z_lcmp (mL M 11 a0 7) 307058 = 0 then some (1, M) else if z_lcmp (mL M 11 a0 7) 259906 = 0 then some (1, M) else if z_lcmp (mL M 11 a0 7) 388708 = 0 then some (1, M) else if z_lcmp (mL M 11 a0 7) 8740238 = 0 then some (1, M) else if z_lcmp (mL M 11 a0 7) 394725 = 0 then some (1, M) else if z_lcmp (mL M 11 a0 7) 11263 = 0 then some (1, M) else if z_lcmp (mL M 11 a0 7) 10354323 = 0 then some (1, M) else if z_lcmp (mL M 11 a0 7) 10631 = 0 then some (1, M) else if z_lcmp (mL M 11 a0 7) 1111 = 0 then some (1, M) else if z_lcmp (mL M 11 a0 7) 423 = 0 then some (1, M) else some (0, M) else some (1, M)
def Mo_turbineNamed_5 (N : Nat) : Nat → Nat → Int → Int → ZM → Option (Int × ZM)
  | 0, _, _, _, _ => none
  | n + 1, a0, x1, x2, M => zI ((0 : Int) ≤ z32 ((z32 (9 * x1)) + 0) ∧ z32 ((z32 (9 * x1)) + 0) < 18) <| if x2 < z32 ((z32 (6 * x1)) + (mI M 51 a0 (z32 ((z32 (9 * x1)) + 0)).toNat)) then zI ((0 : Int) ≤ x2 ∧ x2 < 12) <| if z_lcmp (mL M 52 a0 x2.toNat) (mL M 11 a0 7) = 0 then some (z32 (x2 - (z32 (6 * x1))), M) else zW (z32 (x2 + 1)) fun x101 => Mo_turbineNamed_5 N n a0 x1 x101 M else some ((-1), M)
def Mo_turbineNamed (N : Nat) (a0 : Nat) (x1 : Int) (M : ZM) : Option (Int × ZM) :=
  zW (z32 (6 * x1)) fun x101 => Mo_turbineNamed_5 N N a0 x1 x101 M
def Mo_needsNumber (N : Nat) (a0 : Nat) (x1 : Int) (x2 : Int) (M : ZM) : Option (Int × ZM) :=
  if mI M 11 a0 6 = 2 then zB (Mo_within N (mI M 11 a0 8) x1 x2 M) fun v101 M101 => if v101 = 0 then zB (Mo_fails N a0 4 M101) fun v102 M102 => some (z_b1 v102, M102) else zW (pI M101 11 a0 35 (mI M101 11 a0 8)) fun M103 => zBv (Mo_nextToken N a0 M103) fun M104 => some (1, M104) else zB (Mo_fails N a0 1 M) fun v105 M105 => some (z_b1 v105, M105)
def Mo_needsBoth (N : Nat) (a0 : Nat) (x1 : Int) (x2 : Int) (x3 : Int) (M : ZM) : Option (Int × ZM) :=
  zB (Mo_isWord N a0 x1 M) fun v101 M101 => if v101 = 0 then zB (Mo_fails N a0 1 M101) fun v102 M102 => some (z_b1 v102, M102) else zBv (Mo_nextToken N a0 M101) fun M103 => zB (Mo_needsNumber N a0 x2 x3 M103) fun v104 M104 => some (z_b1 v104, M104)
def Mo_closes (N : Nat) (a0 : Nat) (M : ZM) : Option (Int × ZM) :=
  zB (Mo_isSign N a0 59 M) fun v101 M101 => if v101 = 0 then zB (Mo_fails N a0 1 M101) fun v102 M102 => some (z_b1 v102, M102) else zBv (Mo_nextToken N a0 M101) fun M103 => some (1, M103)
def Mo_needsTurbine (N : Nat) (a0 : Nat) (x1 : Int) (M : ZM) : Option (Int × ZM) :=
  zB (Mo_isKept N a0 M) fun v101 M101 => if v101 = 0 then zB (Mo_turbineNamed N a0 x1 M101) fun v102 M102 => zW (pI M102 11 a0 35 v102) fun M103 => if mI M103 11 a0 35 < 0 then zB (Mo_fails N a0 2 M103) fun v104 M104 => if v104 = 0 then some (0, M104) else some (1, M104) else some (1, M103) else zB (Mo_fails N a0 1 M101) fun v105 M105 => some (z_b1 v105, M105)
def Mo_stands_3 (N : Nat) : Nat → Nat → Int → Int → ZM → Option (Int × ZM)
  | 0, _, _, _, _ => none
  | n + 1, a0, x1, x2, M => if x2 < z32 (6 + (mI M 51 a0 9)) then zI ((0 : Int) ≤ x2 ∧ x2 < 12) <| if mI M 55 a0 x2.toNat = x1 then some (1, M) else zW (z32 (x2 + 1)) fun x101 => Mo_stands_3 N n a0 x1 x101 M else some (0, M)
def Mo_stands (N : Nat) (a0 : Nat) (x1 : Int) (M : ZM) : Option (Int × ZM) :=
  Mo_stands_3 N N a0 x1 6 M
def Mo_readsTurbine_125 (N : Nat) (a0 : Nat) (x1 : Int) (x2 : Int) (b0 : Nat) (y1 : Int) (y2 : Int) (M : ZM) : Option (Int × ZM) :=
  zI ((0 : Int) ≤ y1 ∧ y1 < 12) <| zW (pI M 53 b0 y1.toNat y2) fun M101 => zI ((0 : Int) ≤ x1 ∧ x1 < 12) <| if mI M101 53 a0 x1.toNat < 0 then zB (Mo_fails N a0 1 M101) fun v102 M102 => some (z_b1 v102, M102) else zBv (Mo_nextToken N a0 M101) fun M103 => zB (Mo_needsBoth N a0 411 1 2 M103) fun v104 M104 => if v104 = 0 then some (0, M104) else zI ((0 : Int) ≤ x1 ∧ x1 < 12) <| zW (pI M104 54 a0 x1.toNat (mI M104 11 a0 35)) fun M105 => zB (Mo_isWord N a0 47 M105) fun v106 M106 => if v106 = 0 then zB (Mo_fails N a0 1 M106) fun v107 M107 => some (z_b1 v107, M107) else zBv (Mo_nextToken N a0 M106) fun M108 => if mI M108 11 a0 6 = 2 then if 35 < mI M108 11 a0 8 then zB (Mo_fails N a0 4 M108) fun v109 M109 => some (z_b1 v109, M109) else zB (Mo_stands N a0 (mI M108 11 a0 8) M108) fun v110 M110 => if v110 = 0 then zI ((0 : Int) ≤ x1 ∧ x1 < 12) <| zW (pI M110 55 a0 x1.toNat (mI M110 11 a0 8)) fun M111 => zBv (Mo_nextToken N a0 M111) fun M112 => zI ((0 : Int) ≤ x1 ∧ x1 < 12) <| zW (pI M112 56 a0 x1.toNat (-1)) fun M113 => zI ((0 : Int) ≤ x1 ∧ x1 < 12) <| zW (pI M113 57 a0 x1.toNat 0) fun M114 => zI ((0 : Int) ≤ x1 ∧ x1 < 12) <| zW (pL M114 52 a0 x1.toNat x2) fun M115 => zW (pI M115 51 a0 9 (z32 ((mI M115 51 a0 9) + 1))) fun M116 => zB (Mo_closes N a0 M116) fun v117 M117 => some (z_b1 v117, M117) else zB (Mo_fails N a0 3 M110) fun v118 M118 => some (z_b1 v118, M118) else zB (Mo_fails N a0 1 M108) fun v119 M119 => some (z_b1 v119, M119)
def Mo_readsTurbine (N : Nat) (a0 : Nat) (M : ZM) : Option (Int × ZM) :=
  zW (z32 (6 + (mI M 51 a0 9))) fun x101 => if x101 = 12 then zB (Mo_fails N a0 5 M) fun v102 M102 => some (z_b1 v102, M102) else zBv (Mo_nextToken N a0 M) fun M103 => zB (Mo_isKept N a0 M103) fun v104 M104 => if v104 = 0 then zB (Mo_turbineNamed N a0 1 M104) fun v105 M105 => if v105 < 0 then zW (mL M105 11 a0 7) fun x106 => zBv (Mo_nextToken N a0 M105) fun M107 => zB (Mo_isWord N a0 8740238 M107) fun v108 M108 => if v108 = 0 then zB (Mo_isWord N a0 394725 M108) fun v109 M109 => if v109 = 0 then zB (Mo_isWord N a0 11263 M109) fun v110 M110 => if v110 = 0 then zB (Mo_isWord N a0 10354323 M110) fun v111 M111 => if v111 = 0 then Mo_readsTurbine_125 N a0 x101 x106 a0 x101 (-1) M111 else Mo_readsTurbine_125 N a0 x101 x106 a0 x101 3 M111 else Mo_readsTurbine_125 N a0 x101 x106 a0 x101 2 M110 else Mo_readsTurbine_125 N a0 x101 x106 a0 x101 1 M109 else Mo_readsTurbine_125 N a0 x101 x106 a0 x101 0 M108 else zB (Mo_fails N a0 3 M105) fun v112 M112 => some (z_b1 v112, M112) else zB (Mo_fails N a0 1 M104) fun v113 M113 => some (z_b1 v113, M113)
def Mo_readsCable_113 (N : Nat) (a0 : Nat) (x1 : Int) (x2 : Int) (M : ZM) : Option (Int × ZM) :=
  zBv (Mo_nextToken N a0 M) fun M101 => zB (Mo_needsBoth N a0 4555648 1 200 M101) fun v102 M102 => if v102 = 0 then some (0, M102) else zI ((0 : Int) ≤ x1 ∧ x1 < 12) <| zW (pI M102 56 a0 x1.toNat x2) fun M103 => zI ((0 : Int) ≤ x1 ∧ x1 < 12) <| zW (pI M103 57 a0 x1.toNat (mI M103 11 a0 35)) fun M104 => zB (Mo_closes N a0 M104) fun v105 M105 => some (z_b1 v105, M105)
def Mo_readsCable (N : Nat) (a0 : Nat) (M : ZM) : Option (Int × ZM) :=
  zBv (Mo_nextToken N a0 M) fun M101 => zB (Mo_needsTurbine N a0 1 M101) fun v102 M102 => if v102 = 0 then some (0, M102) else zW (z32 (6 + (mI M102 11 a0 35))) fun x103 => zI ((0 : Int) ≤ x103 ∧ x103 < 12) <| if mI M102 56 a0 x103.toNat < 0 then zBv (Mo_nextToken N a0 M102) fun M104 => zB (Mo_isWord N a0 555 M104) fun v105 M105 => if v105 = 0 then zB (Mo_isWord N a0 168755 M105) fun v106 M106 => if v106 = 0 then zB (Mo_fails N a0 1 M106) fun v107 M107 => some (z_b1 v107, M107) else Mo_readsCable_113 N a0 x103 6 M106 else zBv (Mo_nextToken N a0 M105) fun M108 => zB (Mo_needsTurbine N a0 1 M108) fun v109 M109 => if v109 = 0 then some (0, M109) else zI ((0 : Int) ≤ z32 (6 + (mI M109 11 a0 35)) ∧ z32 (6 + (mI M109 11 a0 35)) < 12) <| if mI M109 56 a0 (z32 (6 + (mI M109 11 a0 35))).toNat < 0 then zB (Mo_fails N a0 2 M109) fun v110 M110 => some (z_b1 v110, M110) else zW (mI M109 11 a0 35) fun x111 => Mo_readsCable_113 N a0 x103 x111 M109 else zB (Mo_fails N a0 3 M102) fun v112 M112 => some (z_b1 v112, M112)
def Mo_isTold_17 (N : Nat) (a0 : Nat) (x1 : Int) (y0 : Int) (M : ZM) : Option (Int × ZM) :=
  zW (pI M 11 a0 22 (z_or (mI M 11 a0 22) (z_shl 1 x1))) fun M101 => some (z_b1 y0, M101)
def Mo_isTold (N : Nat) (a0 : Nat) (x1 : Int) (M : ZM) : Option (Int × ZM) :=
  if z_and (z_shr (mI M 11 a0 22) x1) 1 = 1 then Mo_isTold_17 N a0 x1 1 M else Mo_isTold_17 N a0 x1 0 M
def Mo_readsRow_32 (N : Nat) (rec20 : Nat → Int → Int → Int → ZM → Option (Int × ZM)) (a0 : Nat) (x1 : Int) (x2 : Int) (x3 : Int) (M : ZM) : Option (Int × ZM) :=
  if mI M 11 a0 6 = 2 then if x2 < mI M 11 a0 8 then zB (Mo_fails N a0 4 M) fun v101 M101 => some (z_b1 v101, M101) else if x3 = 8 then zB (Mo_fails N a0 5 M) fun v102 M102 => some (z_b1 v102, M102) else zI ((0 : Int) ≤ z32 ((z32 (24 + (z32 (8 * (z32 (x1 - 1)))))) + x3) ∧ z32 ((z32 (24 + (z32 (8 * (z32 (x1 - 1)))))) + x3) < 48) <| zW (pI M 58 a0 (z32 ((z32 (24 + (z32 (8 * (z32 (x1 - 1)))))) + x3)).toNat (mI M 11 a0 8)) fun M103 => zW (z32 (x3 + 1)) fun x104 => zBv (Mo_nextToken N a0 M103) fun M105 => rec20 a0 x1 x2 x104 M105 else zB (Mo_fails N a0 1 M) fun v106 M106 => some (z_b1 v106, M106)
def Mo_readsRow_20 (N : Nat) : Nat → Nat → Int → Int → Int → ZM → Option (Int × ZM)
  | 0, _, _, _, _, _ => none
  | n + 1, a0, x1, x2, x3, M => if x3 = 0 then Mo_readsRow_32 N (Mo_readsRow_20 N n) a0 x1 x2 x3 M else if mI M 11 a0 6 = 2 then Mo_readsRow_32 N (Mo_readsRow_20 N n) a0 x1 x2 x3 M else zI ((0 : Int) ≤ z32 (9 + x1) ∧ z32 (9 + x1) < 18) <| zW (pI M 51 a0 (z32 (9 + x1)).toNat x3) fun M101 => zB (Mo_closes N a0 M101) fun v102 M102 => some (z_b1 v102, M102)
def Mo_readsRow (N : Nat) (a0 : Nat) (x1 : Int) (x2 : Int) (M : ZM) : Option (Int × ZM) :=
  zB (Mo_isTold N a0 x1 M) fun v101 M101 => if v101 = 0 then zBv (Mo_nextToken N a0 M101) fun M102 => Mo_readsRow_20 N N a0 x1 x2 0 M102 else zB (Mo_fails N a0 3 M101) fun v103 M103 => some (z_b1 v103, M103)
def Mo_readsOne (N : Nat) (a0 : Nat) (x1 : Int) (x2 : Int) (M : ZM) : Option (Int × ZM) :=
  zB (Mo_isTold N a0 x1 M) fun v101 M101 => if v101 = 0 then zBv (Mo_nextToken N a0 M101) fun M102 => zB (Mo_needsNumber N a0 1 x2 M102) fun v103 M103 => if v103 = 0 then some (0, M103) else zI ((0 : Int) ≤ z32 (9 + x1) ∧ z32 (9 + x1) < 18) <| zW (pI M103 51 a0 (z32 (9 + x1)).toNat (mI M103 11 a0 35)) fun M104 => zB (Mo_closes N a0 M104) fun v105 M105 => some (z_b1 v105, M105) else zB (Mo_fails N a0 3 M101) fun v106 M106 => some (z_b1 v106, M106)
def Mo_readsWakes_21 (N : Nat) : Nat → Nat → Int → ZM → Option (Int × ZM)
  | 0, _, _, _ => none
  | n + 1, a0, x1, M => if x1 < 3 then zB (Mo_needsNumber N a0 0 9 M) fun v101 M101 => if v101 = 0 then some (0, M101) else zI ((0 : Int) ≤ z32 (15 + x1) ∧ z32 (15 + x1) < 18) <| zW (pI M101 51 a0 (z32 (15 + x1)).toNat (mI M101 11 a0 35)) fun M102 => zW (z32 (x1 + 1)) fun x103 => Mo_readsWakes_21 N n a0 x103 M102 else zB (Mo_closes N a0 M) fun v104 M104 => some (z_b1 v104, M104)
def Mo_readsWakes (N : Nat) (a0 : Nat) (M : ZM) : Option (Int × ZM) :=
  zB (Mo_isTold N a0 6 M) fun v101 M101 => if v101 = 0 then zBv (Mo_nextToken N a0 M101) fun M102 => Mo_readsWakes_21 N N a0 0 M102 else zB (Mo_fails N a0 3 M101) fun v103 M103 => some (z_b1 v103, M103)
def Mo_readsGives (N : Nat) (a0 : Nat) (M : ZM) : Option (Int × ZM) :=
  if mI M 59 a0 1 < mI M 60 a0 1 then zB (Mo_fails N a0 3 M) fun v101 M101 => some (z_b1 v101, M101) else zBv (Mo_nextToken N a0 M) fun M102 => zW (pI M102 59 a0 1 (mI M102 11 a0 21)) fun M103 => zB (Mo_reads N a0 M103) fun v104 M104 => if v104 = 0 then some (0, M104) else zW (pI M104 60 a0 1 (mI M104 11 a0 21)) fun M105 => some (1, M105)
def Mo_begins (N : Nat) (a0 : Nat) (M : ZM) : Option ZM :=
  zW (pI M 11 a0 3 (mI M 11 a0 1)) fun M101 => zW (pI M101 11 a0 1 0) fun M102 => zW (pI M102 11 a0 4 0) fun M103 => zBv (Mo_nextToken N a0 M103) fun M104 => some M104
def Mo_readsPark (N : Nat) (a0 : Nat) (M : ZM) : Option (Int × ZM) :=
  zB (Mo_isWord N a0 8059349075 M) fun v101 M101 => if v101 = 0 then zB (Mo_isWord N a0 1615793 M101) fun v102 M102 => if v102 = 0 then zB (Mo_isWord N a0 1310653 M102) fun v103 M103 => if v103 = 0 then zB (Mo_isWord N a0 131638 M103) fun v104 M104 => if v104 = 0 then zB (Mo_isWord N a0 8863997 M104) fun v105 M105 => if v105 = 0 then zB (Mo_isWord N a0 12250999 M105) fun v106 M106 => if v106 = 0 then zB (Mo_isWord N a0 12322792 M106) fun v107 M107 => if v107 = 0 then zB (Mo_isWord N a0 10334396 M107) fun v108 M108 => if v108 = 0 then zB (Mo_isWord N a0 3913426 M108) fun v109 M109 => if v109 = 0 then zB (Mo_fails N a0 1 M109) fun v110 M110 => some (z_b1 v110, M110) else zB (Mo_readsGives N a0 M109) fun v111 M111 => some (z_b1 v111, M111) else zB (Mo_readsOne N a0 5 12 M108) fun v112 M112 => some (z_b1 v112, M112) else zB (Mo_readsOne N a0 4 99 M107) fun v113 M113 => some (z_b1 v113, M113) else zB (Mo_readsWakes N a0 M106) fun v114 M114 => some (z_b1 v114, M114) else zB (Mo_readsRow N a0 3 20 M105) fun v115 M115 => some (z_b1 v115, M115) else zB (Mo_readsRow N a0 2 3 M104) fun v116 M116 => some (z_b1 v116, M116) else zB (Mo_readsRow N a0 1 30 M103) fun v117 M117 => some (z_b1 v117, M117) else zB (Mo_readsCable N a0 M102) fun v118 M118 => some (z_b1 v118, M118) else zB (Mo_readsTurbine N a0 M101) fun v119 M119 => some (z_b1 v119, M119)
def Mo_readsAll_39 (N : Nat) : Nat → Nat → ZM → Option (Int × ZM)
  | 0, _, _ => none
  | n + 1, a0, M => if mI M 11 a0 6 = 0 then some (1, M) else zB (Mo_readsPark N a0 M) fun v101 M101 => if v101 = 0 then some (0, M101) else Mo_readsAll_39 N n a0 M101
def Mo_readsAll (N : Nat) (a0 : Nat) (M : ZM) : Option (Int × ZM) :=
  zBv (Mo_usual N a0 1 M) fun M101 => zW (pI M101 59 a0 1 1000) fun M102 => zW (pI M102 60 a0 1 1000) fun M103 => zW (pI M103 11 a0 22 0) fun M104 => zW (pI M104 11 a0 21 1000) fun M105 => zBv (Mo_begins N a0 M105) fun M106 => Mo_readsAll_39 N N a0 M106
def Mo_shifts_2 (N : Nat) : Nat → Nat → Nat → Int → Int → ZM → Option ZM
  | 0, _, _, _, _, _ => none
  | n + 1, t0, a0, x1, x2, M => if x2 < x1 then zI ((0 : Int) ≤ z32 (x1 + x2) ∧ z32 (x1 + x2) < (mN M t0 a0 : Int)) <| zI ((0 : Int) ≤ x2 ∧ x2 < (mN M t0 a0 : Int)) <| zW (pI M t0 a0 x2.toNat (mI M t0 a0 (z32 (x1 + x2)).toNat)) fun M101 => zW (z32 (x2 + 1)) fun x102 => Mo_shifts_2 N n t0 a0 x1 x102 M101 else some M
def Mo_shifts (N : Nat) (t0 : Nat) (i0 : Nat) (x1 : Int) (M : ZM) : Option ZM :=
  Mo_shifts_2 N N t0 i0 x1 0 M
def Mo_lays_11 (N : Nat) : Nat → Nat → Int → ZM → Option ZM
  | 0, _, _, _ => none
  | n + 1, a0, x1, M => if x1 < 6 then zI ((0 : Int) ≤ z32 (6 + x1) ∧ z32 (6 + x1) < 12) <| zI ((0 : Int) ≤ x1 ∧ x1 < 12) <| zW (pL M 52 a0 x1.toNat (mL M 52 a0 (z32 (6 + x1)).toNat)) fun M101 => zW (z32 (x1 + 1)) fun x102 => Mo_lays_11 N n a0 x102 M101 else zBv (Mo_shifts N 53 a0 6 M) fun M103 => zBv (Mo_shifts N 54 a0 6 M103) fun M104 => zBv (Mo_shifts N 55 a0 6 M104) fun M105 => zBv (Mo_shifts N 56 a0 6 M105) fun M106 => zBv (Mo_shifts N 57 a0 6 M106) fun M107 => zBv (Mo_shifts N 58 a0 24 M107) fun M108 => zBv (Mo_shifts N 61 a0 1000 M108) fun M109 => zW (pI M109 59 a0 0 (z32 ((mI M109 59 a0 1) - 1000))) fun M110 => zW (pI M110 60 a0 0 (z32 ((mI M110 60 a0 1) - 1000))) fun M111 => some M111
def Mo_lays (N : Nat) (a0 : Nat) (M : ZM) : Option ZM :=
  zBv (Mo_shifts N 51 a0 9 M) fun M101 => Mo_lays_11 N N a0 0 M101
def Mo_copies_3 (N : Nat) : Nat → Nat → Nat → Int → Nat → Nat → Int → Int → ZM → Option ZM
  | 0, _, _, _, _, _, _, _, _ => none
  | n + 1, t0, a0, x1, t2, a2, x3, x4, M => if x4 < 16 then zI ((0 : Int) ≤ z32 (x1 + x4) ∧ z32 (x1 + x4) < (mN M t0 a0 : Int)) <| zI ((0 : Int) ≤ z32 (x3 + x4) ∧ z32 (x3 + x4) < (mN M t2 a2 : Int)) <| zW (pI M t2 a2 (z32 (x3 + x4)).toNat (mI M t0 a0 (z32 (x1 + x4)).toNat)) fun M101 => zW (z32 (x4 + 1)) fun x102 => Mo_copies_3 N n t0 a0 x1 t2 a2 x3 x102 M101 else some M
def Mo_copies (N : Nat) (t0 : Nat) (i0 : Nat) (x1 : Int) (t2 : Nat) (i2 : Nat) (x3 : Int) (M : ZM) : Option ZM :=
  Mo_copies_3 N N t0 i0 x1 t2 i2 x3 0 M
def Mo_readsLine_175 (N : Nat) (a0 : Nat) (M : ZM) : Option (Int × ZM) :=
  zW (pI M 74 a0 5 (z32 ((mI M 74 a0 5) + 1))) fun M101 => zB (Mo_closes N a0 M101) fun v102 M102 => some (z_b1 v102, M102)
def Mo_readsLine_150 (N : Nat) (a0 : Nat) (x1 : Int) (x2 : Int) (M : ZM) : Option (Int × ZM) :=
  if x1 = 0 then zB (Mo_needsNumber N a0 0 4 M) fun v101 M101 => if v101 = 0 then some (0, M101) else zI ((0 : Int) ≤ x2 ∧ x2 < 240) <| zW (pI M101 77 a0 x2.toNat (mI M101 11 a0 35)) fun M102 => Mo_readsLine_175 N a0 M102 else Mo_readsLine_175 N a0 M
def Mo_readsLine_71 (N : Nat) (a0 : Nat) (y0 : Int) (M : ZM) : Option (Int × ZM) :=
  if y0 < 0 then zB (Mo_fails N a0 1 M) fun v101 M101 => some (z_b1 v101, M101) else if mI M 74 a0 5 = 40 then zB (Mo_fails N a0 5 M) fun v102 M102 => some (z_b1 v102, M102) else zBv (Mo_nextToken N a0 M) fun M103 => zW (z32 (200 + (mI M103 74 a0 5))) fun x104 => zI ((0 : Int) ≤ x104 ∧ x104 < 240) <| zW (pI M103 75 a0 x104.toNat y0) fun M105 => if y0 = 4 then Mo_readsLine_150 N a0 y0 x104 M105 else zB (Mo_needsTurbine N a0 0 M105) fun v106 M106 => if v106 = 0 then some (0, M106) else zI ((0 : Int) ≤ x104 ∧ x104 < 240) <| zW (pI M106 76 a0 x104.toNat (mI M106 11 a0 35)) fun M107 => zBv (Mo_nextToken N a0 M107) fun M108 => Mo_readsLine_150 N a0 y0 x104 M108
def Mo_readsLine (N : Nat) (a0 : Nat) (M : ZM) : Option (Int × ZM) :=
  zB (Mo_isWord N a0 409469 M) fun v101 M101 => if v101 = 0 then zB (Mo_isWord N a0 380396 M101) fun v102 M102 => if v102 = 0 then zB (Mo_isWord N a0 307058 M102) fun v103 M103 => if v103 = 0 then zB (Mo_isWord N a0 259906 M103) fun v104 M104 => if v104 = 0 then zB (Mo_isWord N a0 388708 M104) fun v105 M105 => if v105 = 0 then Mo_readsLine_71 N a0 (-1) M105 else Mo_readsLine_71 N a0 4 M105 else Mo_readsLine_71 N a0 3 M104 else Mo_readsLine_71 N a0 2 M103 else Mo_readsLine_71 N a0 1 M102 else Mo_readsLine_71 N a0 0 M101
def Mo_laysLines_14 (N : Nat) : Nat → Nat → Int → Int → Int → ZM → Option ZM
  | 0, _, _, _, _, _ => none
  | n + 1, a0, x1, x2, x3, M => if x3 < 40 then zI ((0 : Int) ≤ z32 ((z32 (40 * x1)) + x3) ∧ z32 ((z32 (40 * x1)) + x3) < 240) <| zI ((0 : Int) ≤ z32 ((z32 (40 * x2)) + x3) ∧ z32 ((z32 (40 * x2)) + x3) < 240) <| zW (pI M 75 a0 (z32 ((z32 (40 * x2)) + x3)).toNat (mI M 75 a0 (z32 ((z32 (40 * x1)) + x3)).toNat)) fun M101 => zI ((0 : Int) ≤ z32 ((z32 (40 * x1)) + x3) ∧ z32 ((z32 (40 * x1)) + x3) < 240) <| zI ((0 : Int) ≤ z32 ((z32 (40 * x2)) + x3) ∧ z32 ((z32 (40 * x2)) + x3) < 240) <| zW (pI M101 76 a0 (z32 ((z32 (40 * x2)) + x3)).toNat (mI M101 76 a0 (z32 ((z32 (40 * x1)) + x3)).toNat)) fun M102 => zI ((0 : Int) ≤ z32 ((z32 (40 * x1)) + x3) ∧ z32 ((z32 (40 * x1)) + x3) < 240) <| zI ((0 : Int) ≤ z32 ((z32 (40 * x2)) + x3) ∧ z32 ((z32 (40 * x2)) + x3) < 240) <| zW (pI M102 77 a0 (z32 ((z32 (40 * x2)) + x3)).toNat (mI M102 77 a0 (z32 ((z32 (40 * x1)) + x3)).toNat)) fun M103 => zW (z32 (x3 + 1)) fun x104 => Mo_laysLines_14 N n a0 x1 x2 x104 M103 else some M
def Mo_laysLines (N : Nat) (a0 : Nat) (x1 : Int) (x2 : Int) (M : ZM) : Option ZM :=
  zI ((0 : Int) ≤ x1 ∧ x1 < 6) <| zI ((0 : Int) ≤ x2 ∧ x2 < 6) <| zW (pI M 74 a0 x2.toNat (mI M 74 a0 x1.toNat)) fun M101 => Mo_laysLines_14 N N a0 x1 x2 0 M101
def Mo_laysSeen_14 (N : Nat) : Nat → Nat → Int → Int → Int → ZM → Option ZM
  | 0, _, _, _, _, _ => none
  | n + 1, a0, x1, x2, x3, M => if x3 < 8 then zI ((0 : Int) ≤ z32 ((z32 (8 * x1)) + x3) ∧ z32 ((z32 (8 * x1)) + x3) < 40) <| zI ((0 : Int) ≤ z32 ((z32 (8 * x2)) + x3) ∧ z32 ((z32 (8 * x2)) + x3) < 40) <| zW (pI M 79 a0 (z32 ((z32 (8 * x2)) + x3)).toNat (mI M 79 a0 (z32 ((z32 (8 * x1)) + x3)).toNat)) fun M101 => zI ((0 : Int) ≤ z32 ((z32 (8 * x1)) + x3) ∧ z32 ((z32 (8 * x1)) + x3) < 40) <| zI ((0 : Int) ≤ z32 ((z32 (8 * x2)) + x3) ∧ z32 ((z32 (8 * x2)) + x3) < 40) <| zW (pI M101 80 a0 (z32 ((z32 (8 * x2)) + x3)).toNat (mI M101 80 a0 (z32 ((z32 (8 * x1)) + x3)).toNat)) fun M102 => zW (z32 (x3 + 1)) fun x103 => Mo_laysSeen_14 N n a0 x1 x2 x103 M102 else some M
def Mo_laysSeen (N : Nat) (a0 : Nat) (x1 : Int) (x2 : Int) (M : ZM) : Option ZM :=
  zI ((0 : Int) ≤ x1 ∧ x1 < 5) <| zI ((0 : Int) ≤ x2 ∧ x2 < 5) <| zW (pI M 78 a0 x2.toNat (mI M 78 a0 x1.toNat)) fun M101 => Mo_laysSeen_14 N N a0 x1 x2 0 M101
def Mo_park_46 (N : Nat) : Nat → Nat → Int → ZM → Option (Int × ZM)
  | 0, _, _, _ => none
  | n + 1, a0, x1, M => if x1 < 4 then zI ((0 : Int) ≤ x1 ∧ x1 < 4) <| zW (pI M 86 a0 x1.toNat (z_b1 0)) fun M101 => zW (z32 (x1 + 1)) fun x102 => Mo_park_46 N n a0 x102 M101 else some (0, M)
def Mo_park (N : Nat) (a0 : Nat) (M : ZM) : Option (Int × ZM) :=
  zW (pI M 11 a0 0 0) fun M101 => zB (Mo_readsAll N a0 M101) fun v102 M102 => if v102 = 0 then some (mI M102 11 a0 9, M102) else zBv (Mo_lays N a0 M102) fun M103 => zBv (Mo_fresh0 N a0 M103) fun M104 => zW (pI M104 74 a0 0 0) fun M105 => zW (pI M105 78 a0 0 0) fun M106 => zW (pI M106 11 a0 49 0) fun M107 => Mo_park_46 N N a0 0 M107
def Mo_day_16 (N : Nat) : Nat → Nat → ZM → Option (Int × ZM)
  | 0, _, _ => none
  | n + 1, a0, M => if mI M 11 a0 6 = 0 then zBv (Mo_laysLines N a0 5 0 M) fun M101 => some (0, M101) else zB (Mo_readsLine N a0 M) fun v102 M102 => if v102 = 0 then some (mI M102 11 a0 9, M102) else Mo_day_16 N n a0 M102
def Mo_day (N : Nat) (a0 : Nat) (M : ZM) : Option (Int × ZM) :=
  zW (pI M 11 a0 0 0) fun M101 => zW (pI M101 74 a0 5 0) fun M102 => zBv (Mo_begins N a0 M102) fun M103 => Mo_day_16 N N a0 M103
def Mo_isTurbine (N : Nat) (a0 : Nat) (x1 : Int) (M : ZM) : Option (Int × ZM) :=
  if x1 < 0 then some (0, M) else if x1 < mI M 51 a0 0 then some (1, M) else some (0, M)
def Mo_rowOf (N : Nat) (a0 : Nat) (x1 : Int) (x2 : Int) (M : ZM) : Option (Int × ZM) :=
  zI ((0 : Int) ≤ x1 ∧ x1 < 18) <| if mI M 51 a0 x1.toNat = 0 then some (x2, M) else zI ((0 : Int) ≤ x1 ∧ x1 < 18) <| if mI M 51 a0 x1.toNat = 0 then none else zI ((0 : Int) ≤ z32 ((z32 (8 * (z32 (x1 - 1)))) + ((mI M 81 a0 0).tmod (mI M 51 a0 x1.toNat))) ∧ z32 ((z32 (8 * (z32 (x1 - 1)))) + ((mI M 81 a0 0).tmod (mI M 51 a0 x1.toNat))) < 48) <| some (mI M 58 a0 (z32 ((z32 (8 * (z32 (x1 - 1)))) + ((mI M 81 a0 0).tmod (mI M 51 a0 x1.toNat)))).toNat, M)
def Mo_priceNow (N : Nat) (a0 : Nat) (M : ZM) : Option (Int × ZM) :=
  zB (Mo_rowOf N a0 3 10 M) fun v101 M101 => some (z32 (v101 - 10), M101)
def Mo_isShut (N : Nat) (a0 : Nat) (x1 : Int) (M : ZM) : Option (Int × ZM) :=
  if z_and (z_shr (mI M 81 a0 2) x1) 1 = 1 then some (1, M) else some (0, M)
def Mo_isBroken (N : Nat) (a0 : Nat) (x1 : Int) (M : ZM) : Option (Int × ZM) :=
  if z_and (z_shr (mI M 81 a0 3) x1) 1 = 1 then some (1, M) else some (0, M)
def Mo_runs (N : Nat) (a0 : Nat) (x1 : Int) (M : ZM) : Option (Int × ZM) :=
  zB (Mo_isShut N a0 x1 M) fun v101 M101 => if v101 = 0 then zB (Mo_isBroken N a0 x1 M101) fun v102 M102 => if v102 = 0 then some (1, M102) else some (0, M102) else some (0, M101)
def Mo_turnedOf (N : Nat) (a0 : Nat) (x1 : Int) (M : ZM) : Option (Int × ZM) :=
  zI ((0 : Int) ≤ z32 (4 + x1) ∧ z32 (4 + x1) < 16) <| some (zabs (z32 ((mI M 81 a0 (z32 (4 + x1)).toNat) - 2)), M)
def Mo_looks (N : Nat) (a0 : Nat) (M : ZM) : Option ZM :=
  zB (Mo_rowOf N a0 1 10 M) fun v101 M101 => zW (pI M101 11 a0 50 v101) fun M102 => zB (Mo_rowOf N a0 2 0 M102) fun v103 M103 => zW (pI M103 11 a0 51 v103) fun M104 => some M104
def Mo_behind_120 (N : Nat) (x6 : Int) (y0 : Int) (y1 : Int) (M : ZM) : Option (Int × ZM) :=
  zW (z32 (y0 + y1)) fun x101 => zB (Mo_within N x6 0 5 M) fun v102 M102 => if v102 = 0 then some ((-1), M102) else zB (Mo_within N x101 0 5 M102) fun v103 M103 => if v103 = 0 then some ((-1), M103) else some (z32 ((z32 (6 * x101)) + x6), M103)
def Mo_behind_92 (N : Nat) (a0 : Nat) (x1 : Int) (x4 : Int) (x5 : Int) (y0 : Int) (y1 : Int) (M : ZM) : Option (Int × ZM) :=
  zW (z32 (y0 + y1)) fun x101 => zI ((0 : Int) ≤ x1 ∧ x1 < 12) <| if (mI M 11 a0 51).tmod 2 = 0 then Mo_behind_120 N x101 (z32 ((mI M 55 a0 x1.toNat).tdiv 6)) x5 M else Mo_behind_120 N x101 (z32 ((mI M 55 a0 x1.toNat).tdiv 6)) x4 M
def Mo_behind_65 (N : Nat) (a0 : Nat) (x1 : Int) (x4 : Int) (y0 : Int) (M : ZM) : Option (Int × ZM) :=
  zI ((0 : Int) ≤ x1 ∧ x1 < 12) <| if (mI M 11 a0 51).tmod 2 = 0 then Mo_behind_92 N a0 x1 x4 y0 ((mI M 55 a0 x1.toNat).tmod 6) x4 M else Mo_behind_92 N a0 x1 x4 y0 ((mI M 55 a0 x1.toNat).tmod 6) y0 M
def Mo_behind_42 (N : Nat) (a0 : Nat) (x1 : Int) (x2 : Int) (y0 : Int) (M : ZM) : Option (Int × ZM) :=
  if mI M 11 a0 51 = 0 then Mo_behind_65 N a0 x1 y0 x2 M else if mI M 11 a0 51 = 3 then Mo_behind_65 N a0 x1 y0 x2 M else Mo_behind_65 N a0 x1 y0 (z32 (-x2)) M
def Mo_behind_21 (N : Nat) (a0 : Nat) (x1 : Int) (x2 : Int) (M : ZM) : Option (Int × ZM) :=
  zI ((0 : Int) ≤ z32 (4 + x1) ∧ z32 (4 + x1) < 16) <| if mI M 81 a0 (z32 (4 + x1)).toNat < 2 then Mo_behind_42 N a0 x1 x2 (-1) M else Mo_behind_42 N a0 x1 x2 1 M
def Mo_behind (N : Nat) (a0 : Nat) (x1 : Int) (x2 : Int) (M : ZM) : Option (Int × ZM) :=
  zB (Mo_turnedOf N a0 x1 M) fun v101 M101 => if v101 = 2 then Mo_behind_21 N a0 x1 x2 M101 else if v101 = 1 then if 1 < x2 then Mo_behind_21 N a0 x1 x2 M101 else Mo_behind_42 N a0 x1 x2 0 M101 else Mo_behind_42 N a0 x1 x2 0 M101
def Mo_takesOf_17 (N : Nat) : Nat → Nat → Int → Int → Int → ZM → Option (Int × ZM)
  | 0, _, _, _, _, _ => none
  | n + 1, a0, x1, x2, x3, M => if x3 < 4 then zB (Mo_behind N a0 x1 x3 M) fun v101 M101 => zI ((0 : Int) ≤ x2 ∧ x2 < 12) <| if v101 = mI M101 55 a0 x2.toNat then zI ((0 : Int) ≤ z32 ((z32 (6 + x3)) - 1) ∧ z32 ((z32 (6 + x3)) - 1) < 18) <| zI ((0 : Int) ≤ x1 ∧ x1 < 12) <| if mI M101 53 a0 x1.toNat = 3 then some (zmax 0 (z32 ((mI M101 51 a0 (z32 ((z32 (6 + x3)) - 1)).toNat) - 1)), M101) else some (zmax 0 (z32 ((mI M101 51 a0 (z32 ((z32 (6 + x3)) - 1)).toNat) - 0)), M101) else zW (z32 (x3 + 1)) fun x102 => Mo_takesOf_17 N n a0 x1 x2 x102 M101 else some (0, M)
def Mo_takesOf (N : Nat) (a0 : Nat) (x1 : Int) (x2 : Int) (M : ZM) : Option (Int × ZM) :=
  if x1 = x2 then some (0, M) else zB (Mo_runs N a0 x1 M) fun v101 M101 => if v101 = 0 then some (0, M101) else Mo_takesOf_17 N N a0 x1 x2 1 M101
def Mo_takenOf_4 (N : Nat) : Nat → Nat → Int → Int → Int → ZM → Option (Int × ZM)
  | 0, _, _, _, _, _ => none
  | n + 1, a0, x1, x2, x3, M => if x3 < mI M 51 a0 0 then zB (Mo_takesOf N a0 x3 x1 M) fun v101 M101 => zW (z32 (x2 + v101)) fun x102 => zW (z32 (x3 + 1)) fun x103 => Mo_takenOf_4 N n a0 x1 x102 x103 M101 else zW (zmin 9 x2) fun x104 => zI ((0 : Int) ≤ x1 ∧ x1 < 12) <| if mI M 53 a0 x1.toNat = 1 then some (zmax 0 (z32 (x104 - 1)), M) else some (x104, M)
def Mo_takenOf (N : Nat) (a0 : Nat) (x1 : Int) (M : ZM) : Option (Int × ZM) :=
  Mo_takenOf_4 N N a0 x1 0 0 M
def Mo_windOf (N : Nat) (a0 : Nat) (x1 : Int) (M : ZM) : Option (Int × ZM) :=
  zB (Mo_takenOf N a0 x1 M) fun v101 M101 => some (z32 ((z32 ((mI M 11 a0 50) * (z32 (10 - v101)))).tdiv 10), M101)
def Mo_powerOf_94 (N : Nat) (a0 : Nat) (x1 : Int) (x2 : Int) (M : ZM) : Option (Int × ZM) :=
  zB (Mo_between N x2 0 99 M) fun v101 M101 => zB (Mo_turnedOf N a0 x1 M101) fun v102 M102 => if v102 = 0 then some (v101, M102) else zB (Mo_turnedOf N a0 x1 M102) fun v103 M103 => if v103 = 1 then some (z32 ((z32 (v101 * 9)).tdiv 10), M103) else some (z32 ((z32 (v101 * 6)).tdiv 10), M103)
def Mo_powerOf_87 (N : Nat) (a0 : Nat) (x1 : Int) (b0 : Nat) (y1 : Int) (y2 : Int) (M : ZM) : Option (Int × ZM) :=
  zI ((0 : Int) ≤ y1 ∧ y1 < 20) <| zW (pI M 73 b0 y1.toNat y2) fun M101 => zB (Mo_worked N a0 0 M101) fun v102 M102 => Mo_powerOf_94 N a0 x1 v102 M102
def Mo_powerOf (N : Nat) (a0 : Nat) (x1 : Int) (M : ZM) : Option (Int × ZM) :=
  zB (Mo_runs N a0 x1 M) fun v101 M101 => if v101 = 0 then some (0, M101) else zB (Mo_windOf N a0 x1 M101) fun v102 M102 => if mI M102 59 a0 0 < mI M102 60 a0 0 then zW (pI M102 73 a0 1 v102) fun M103 => zI ((0 : Int) ≤ z32 (10 + x1) ∧ z32 (10 + x1) < 16) <| zW (pI M103 73 a0 2 (mI M103 81 a0 (z32 (10 + x1)).toNat)) fun M104 => zB (Mo_turnedOf N a0 x1 M104) fun v105 M105 => zW (pI M105 73 a0 3 v105) fun M106 => if 5 < (mI M106 81 a0 0).tmod 12 then Mo_powerOf_87 N a0 x1 a0 4 1 M106 else Mo_powerOf_87 N a0 x1 a0 4 0 M106 else Mo_powerOf_94 N a0 x1 v102 M102
def Mo_hopsOf_4 (N : Nat) : Nat → Nat → Int → Int → ZM → Option (Int × ZM)
  | 0, _, _, _, _ => none
  | n + 1, a0, x2, x3, M => if x3 = 6 then some (x2, M) else zI ((0 : Int) ≤ x3 ∧ x3 < 12) <| if mI M 56 a0 x3.toNat < 0 then some (x2, M) else zW (z32 (x2 + 1)) fun x101 => zI ((0 : Int) ≤ x3 ∧ x3 < 12) <| zW (mI M 56 a0 x3.toNat) fun x102 => Mo_hopsOf_4 N n a0 x101 x102 M
def Mo_hopsOf (N : Nat) (a0 : Nat) (x1 : Int) (M : ZM) : Option (Int × ZM) :=
  Mo_hopsOf_4 N N a0 0 x1 M
def Mo_homeBy_99 (N : Nat) (rec35 : Nat → Int → Int → Int → ZM → Option (Int × ZM)) (rec42 : Nat → Int → Int → Int → Int → ZM → Option (Int × ZM)) (a0 : Nat) (x1 : Int) (x2 : Int) (x3 : Int) (x4 : Int) (b0 : Nat) (y1 : Int) (y2 : Int) (M : ZM) : Option (Int × ZM) :=
  zI ((0 : Int) ≤ y1 ∧ y1 < 6) <| zW (pI M 88 b0 y1.toNat y2) fun M101 => zI ((0 : Int) ≤ x4 ∧ x4 < 12) <| if mI M101 56 a0 x4.toNat = 6 then zI ((0 : Int) ≤ x4 ∧ x4 < 6) <| zW (z32 (x2 + (mI M101 88 a0 x4.toNat))) fun x102 => zW (z32 (x4 + 1)) fun x103 => rec42 a0 x1 x102 x3 x103 M101 else zI ((0 : Int) ≤ x4 ∧ x4 < 12) <| zI ((0 : Int) ≤ mI M101 56 a0 x4.toNat ∧ mI M101 56 a0 x4.toNat < 6) <| zI ((0 : Int) ≤ x4 ∧ x4 < 6) <| zI ((0 : Int) ≤ mI M101 56 a0 x4.toNat ∧ mI M101 56 a0 x4.toNat < 6) <| zW (pI M101 88 a0 (mI M101 56 a0 x4.toNat).toNat (z32 ((mI M101 88 a0 (mI M101 56 a0 x4.toNat).toNat) + (mI M101 88 a0 x4.toNat)))) fun M104 => zW (z32 (x4 + 1)) fun x105 => rec42 a0 x1 x2 x3 x105 M104
def Mo_homeBy_42 (N : Nat) (rec35 : Nat → Int → Int → Int → ZM → Option (Int × ZM)) : Nat → Nat → Int → Int → Int → Int → ZM → Option (Int × ZM)
  | 0, _, _, _, _, _, _ => none
  | n + 1, a0, x1, x2, x3, x4, M => if x4 < mI M 51 a0 0 then zB (Mo_hopsOf N a0 x4 M) fun v101 M101 => if v101 = x3 then if x4 = x1 then Mo_homeBy_99 N rec35 (Mo_homeBy_42 N rec35 n) a0 x1 x2 x3 x4 a0 x4 0 M101 else zI ((0 : Int) ≤ x4 ∧ x4 < 12) <| zI ((0 : Int) ≤ x4 ∧ x4 < 6) <| Mo_homeBy_99 N rec35 (Mo_homeBy_42 N rec35 n) a0 x1 x2 x3 x4 a0 x4 (zmin (mI M101 57 a0 x4.toNat) (mI M101 88 a0 x4.toNat)) M101 else zW (z32 (x4 + 1)) fun x102 => Mo_homeBy_42 N rec35 n a0 x1 x2 x3 x102 M101 else zW (z32 (x3 + (-1))) fun x103 => rec35 a0 x1 x2 x103 M
def Mo_homeBy_35 (N : Nat) : Nat → Nat → Int → Int → Int → ZM → Option (Int × ZM)
  | 0, _, _, _, _, _ => none
  | n + 1, a0, x1, x2, x3, M => if 0 < x3 then Mo_homeBy_42 N (Mo_homeBy_35 N n) N a0 x1 x2 x3 0 M else some (x2, M)
def Mo_homeBy_4 (N : Nat) : Nat → Nat → Int → Int → Int → ZM → Option (Int × ZM)
  | 0, _, _, _, _, _ => none
  | n + 1, a0, x1, x2, x3, M => if x3 < mI M 51 a0 0 then zI ((0 : Int) ≤ x3 ∧ x3 < 6) <| zI ((0 : Int) ≤ x3 ∧ x3 < 6) <| zW (pI M 88 a0 x3.toNat (mI M 87 a0 x3.toNat)) fun M101 => zW (z32 (x3 + 1)) fun x102 => Mo_homeBy_4 N n a0 x1 x2 x102 M101 else Mo_homeBy_35 N N a0 x1 x2 6 M
def Mo_homeBy (N : Nat) (a0 : Nat) (x1 : Int) (M : ZM) : Option (Int × ZM) :=
  Mo_homeBy_4 N N a0 x1 0 0 M
def Mo_laysPowers_2 (N : Nat) : Nat → Nat → Int → ZM → Option ZM
  | 0, _, _, _ => none
  | n + 1, a0, x1, M => if x1 < mI M 51 a0 0 then zB (Mo_powerOf N a0 x1 M) fun v101 M101 => zI ((0 : Int) ≤ x1 ∧ x1 < 6) <| zW (pI M101 87 a0 x1.toNat v101) fun M102 => zW (z32 (x1 + 1)) fun x103 => Mo_laysPowers_2 N n a0 x103 M102 else some M
def Mo_laysPowers (N : Nat) (a0 : Nat) (M : ZM) : Option ZM :=
  Mo_laysPowers_2 N N a0 0 M
def Mo_homeNow (N : Nat) (a0 : Nat) (M : ZM) : Option (Int × ZM) :=
  zBv (Mo_looks N a0 M) fun M101 => zBv (Mo_laysPowers N a0 M101) fun M102 => zB (Mo_homeBy N a0 (-1) M102) fun v103 M103 => some (v103, M103)
def Mo_powersNow_12 (N : Nat) : Nat → Nat → Int → Int → ZM → Option (Int × ZM)
  | 0, _, _, _, _ => none
  | n + 1, a0, x1, x2, M => if x2 < mI M 51 a0 0 then zI ((0 : Int) ≤ x2 ∧ x2 < 6) <| zW (z32 (x1 + (mI M 87 a0 x2.toNat))) fun x101 => zW (z32 (x2 + 1)) fun x102 => Mo_powersNow_12 N n a0 x101 x102 M else some (x1, M)
def Mo_powersNow (N : Nat) (a0 : Nat) (M : ZM) : Option (Int × ZM) :=
  zBv (Mo_looks N a0 M) fun M101 => zBv (Mo_laysPowers N a0 M101) fun M102 => Mo_powersNow_12 N N a0 0 0 M102
def Mo_soldNow (N : Nat) (a0 : Nat) (M : ZM) : Option (Int × ZM) :=
  zB (Mo_homeNow N a0 M) fun v101 M101 => zB (Mo_priceNow N a0 M101) fun v102 M102 => some (z32 (v101 * v102), M102)
def Mo_passes_90 (N : Nat) (rec19 : Nat → Int → Int → Int → ZM → Option (Int × ZM)) (a0 : Nat) (x1 : Int) (x2 : Int) (x3 : Int) (b0 : Nat) (y1 : Int) (y2 : Int) (y3 : Int) (M : ZM) : Option (Int × ZM) :=
  zI ((0 : Int) ≤ y1 ∧ y1 < 16) <| zW (pI M 81 b0 y1.toNat (z32 (y2 + y3))) fun M101 => zI ((0 : Int) ≤ z32 (10 + x3) ∧ z32 (10 + x3) < 16) <| if mI M101 81 a0 (z32 (10 + x3)).toNat < mI M101 51 a0 4 then zW (z_or x2 0) fun x102 => zW (z32 (x3 + 1)) fun x103 => rec19 a0 x1 x102 x103 M101 else zW (z_or x2 (z_shl 1 x3)) fun x104 => zW (z32 (x3 + 1)) fun x105 => rec19 a0 x1 x104 x105 M101
def Mo_passes_58 (N : Nat) (rec19 : Nat → Int → Int → Int → ZM → Option (Int × ZM)) (a0 : Nat) (x1 : Int) (x2 : Int) (x3 : Int) (y0 : Int) (y1 : Int) (M : ZM) : Option (Int × ZM) :=
  zW (z32 (y0 + y1)) fun x101 => zI ((0 : Int) ≤ z32 (10 + x3) ∧ z32 (10 + x3) < 16) <| zI ((0 : Int) ≤ x3 ∧ x3 < 12) <| if mI M 53 a0 x3.toNat = 2 then Mo_passes_90 N rec19 a0 x1 x2 x3 a0 (z32 (10 + x3)) (mI M 81 a0 (z32 (10 + x3)).toNat) (z32 (2 * x101)) M else Mo_passes_90 N rec19 a0 x1 x2 x3 a0 (z32 (10 + x3)) (mI M 81 a0 (z32 (10 + x3)).toNat) x101 M
def Mo_passes_19 (N : Nat) : Nat → Nat → Int → Int → Int → ZM → Option (Int × ZM)
  | 0, _, _, _, _, _ => none
  | n + 1, a0, x1, x2, x3, M => if x3 < mI M 51 a0 0 then zB (Mo_runs N a0 x3 M) fun v101 M101 => if v101 = 0 then zW (z32 (x3 + 1)) fun x102 => Mo_passes_19 N n a0 x1 x2 x102 M101 else zB (Mo_turnedOf N a0 x3 M101) fun v103 M103 => zB (Mo_takenOf N a0 x3 M103) fun v104 M104 => if 0 < v104 then Mo_passes_58 N (Mo_passes_19 N n) a0 x1 x2 x3 v103 1 M104 else Mo_passes_58 N (Mo_passes_19 N n) a0 x1 x2 x3 v103 0 M104 else zW (pI M 81 a0 3 (z_or (mI M 81 a0 3) x2)) fun M105 => zW (pI M105 81 a0 0 (z32 ((mI M105 81 a0 0) + 1))) fun M106 => some (x1, M106)
def Mo_passes (N : Nat) (a0 : Nat) (M : ZM) : Option (Int × ZM) :=
  zB (Mo_soldNow N a0 M) fun v101 M101 => zW (pI M101 81 a0 1 (z32 ((mI M101 81 a0 1) + v101))) fun M102 => Mo_passes_19 N N a0 v101 0 0 M102
def Mo_turbine (N : Nat) (a0 : Nat) (x1 : Int) (x2 : Int) (M : ZM) : Option (Int × ZM) :=
  zW (pI M 11 a0 0 0) fun M101 => zB (Mo_isTurbine N a0 x1 M101) fun v102 M102 => if v102 = 0 then some ((-2), M102) else zB (Mo_within N x2 0 8 M102) fun v103 M103 => if v103 = 0 then some ((-2), M103) else if x2 < 3 then if x2 = 0 then zI ((0 : Int) ≤ x1 ∧ x1 < 12) <| some (mI M103 53 a0 x1.toNat, M103) else if x2 = 1 then zI ((0 : Int) ≤ x1 ∧ x1 < 12) <| some (mI M103 54 a0 x1.toNat, M103) else zI ((0 : Int) ≤ x1 ∧ x1 < 12) <| some (mI M103 55 a0 x1.toNat, M103) else if x2 < 6 then if x2 = 3 then zI ((0 : Int) ≤ z32 (4 + x1) ∧ z32 (4 + x1) < 16) <| some (mI M103 81 a0 (z32 (4 + x1)).toNat, M103) else if x2 = 4 then zB (Mo_isShut N a0 x1 M103) fun v104 M104 => if v104 = 0 then some (1, M104) else some (0, M104) else zB (Mo_isBroken N a0 x1 M103) fun v105 M105 => if v105 = 0 then some (0, M105) else some (1, M105) else if x2 = 6 then zI ((0 : Int) ≤ z32 (10 + x1) ∧ z32 (10 + x1) < 16) <| some (mI M103 81 a0 (z32 (10 + x1)).toNat, M103) else if x2 = 7 then zI ((0 : Int) ≤ x1 ∧ x1 < 12) <| some (mI M103 56 a0 x1.toNat, M103) else zI ((0 : Int) ≤ x1 ∧ x1 < 12) <| some (mI M103 57 a0 x1.toNat, M103)
def Mo_wind (N : Nat) (a0 : Nat) (x1 : Int) (M : ZM) : Option (Int × ZM) :=
  zW (pI M 11 a0 0 0) fun M101 => zBv (Mo_looks N a0 M101) fun M102 => zB (Mo_isTurbine N a0 x1 M102) fun v103 M103 => if v103 = 0 then some ((-1), M103) else zB (Mo_windOf N a0 x1 M103) fun v104 M104 => some (v104, M104)
def Mo_power (N : Nat) (a0 : Nat) (x1 : Int) (M : ZM) : Option (Int × ZM) :=
  zW (pI M 11 a0 0 0) fun M101 => zBv (Mo_looks N a0 M101) fun M102 => zB (Mo_isTurbine N a0 x1 M102) fun v103 M103 => if v103 = 0 then some ((-1), M103) else zB (Mo_powerOf N a0 x1 M103) fun v104 M104 => some (v104, M104)
def Mo_carried (N : Nat) (a0 : Nat) (x1 : Int) (M : ZM) : Option (Int × ZM) :=
  zW (pI M 11 a0 0 0) fun M101 => zB (Mo_isTurbine N a0 x1 M101) fun v102 M102 => if v102 = 0 then some ((-1), M102) else zB (Mo_homeNow N a0 M102) fun v103 M103 => zI ((0 : Int) ≤ x1 ∧ x1 < 12) <| if mI M103 56 a0 x1.toNat < 0 then some (0, M103) else zI ((0 : Int) ≤ x1 ∧ x1 < 6) <| some (mI M103 88 a0 x1.toNat, M103)
def Mo_home (N : Nat) (a0 : Nat) (M : ZM) : Option (Int × ZM) :=
  zW (pI M 11 a0 0 0) fun M101 => zB (Mo_homeNow N a0 M101) fun v102 M102 => some (v102, M102)
def Mo_keeps_49 (N : Nat) (a0 : Nat) (M : ZM) : Option ZM :=
  zBv (Mo_copies N 81 a0 0 85 a0 (z32 (16 * (mI M 11 a0 49))) M) fun M101 => zW (pI M101 11 a0 49 (z32 ((mI M101 11 a0 49) + 1))) fun M102 => some M102
def Mo_keeps_11 (N : Nat) : Nat → Nat → Int → ZM → Option ZM
  | 0, _, _, _ => none
  | n + 1, a0, x1, M => if x1 < 240 then zI ((0 : Int) ≤ z32 (x1 + 16) ∧ z32 (x1 + 16) < 256) <| zI ((0 : Int) ≤ x1 ∧ x1 < 256) <| zW (pI M 85 a0 x1.toNat (mI M 85 a0 (z32 (x1 + 16)).toNat)) fun M101 => zW (z32 (x1 + 1)) fun x102 => Mo_keeps_11 N n a0 x102 M101 else zW (pI M 11 a0 49 (z32 ((mI M 11 a0 49) - 1))) fun M103 => Mo_keeps_49 N a0 M103
def Mo_keeps (N : Nat) (a0 : Nat) (M : ZM) : Option ZM :=
  if mI M 11 a0 49 = 16 then Mo_keeps_11 N N a0 0 M else Mo_keeps_49 N a0 M
def Mo_turn (N : Nat) (a0 : Nat) (x1 : Int) (x2 : Int) (M : ZM) : Option (Int × ZM) :=
  zW (pI M 11 a0 0 0) fun M101 => zB (Mo_isTurbine N a0 x1 M101) fun v102 M102 => if v102 = 0 then some ((-1), M102) else zB (Mo_within N x2 0 4 M102) fun v103 M103 => if v103 = 0 then some ((-1), M103) else zBv (Mo_keeps N a0 M103) fun M104 => zI ((0 : Int) ≤ z32 (4 + x1) ∧ z32 (4 + x1) < 16) <| zW (mI M104 81 a0 (z32 (4 + x1)).toNat) fun x105 => zI ((0 : Int) ≤ z32 (4 + x1) ∧ z32 (4 + x1) < 16) <| zW (pI M104 81 a0 (z32 (4 + x1)).toNat x2) fun M106 => some (x105, M106)
def Mo_canMend (N : Nat) (a0 : Nat) (x1 : Int) (M : ZM) : Option (Int × ZM) :=
  zB (Mo_isBroken N a0 x1 M) fun v101 M101 => if v101 = 0 then some (0, M101) else if mI M101 51 a0 5 = 0 then none else if (mI M101 81 a0 0).tmod (mI M101 51 a0 5) = 0 then some (1, M101) else some (0, M101)
def Mo_mends (N : Nat) (a0 : Nat) (x1 : Int) (M : ZM) : Option ZM :=
  zW (pI M 81 a0 3 (z_and (mI M 81 a0 3) (z_xor (z_shl 1 x1) (-1)))) fun M101 => zI ((0 : Int) ≤ z32 (10 + x1) ∧ z32 (10 + x1) < 16) <| zW (pI M101 81 a0 (z32 (10 + x1)).toNat 0) fun M102 => some M102
def Mo_shut (N : Nat) (a0 : Nat) (x1 : Int) (M : ZM) : Option (Int × ZM) :=
  zW (pI M 11 a0 0 0) fun M101 => zB (Mo_isTurbine N a0 x1 M101) fun v102 M102 => if v102 = 0 then some (0, M102) else zB (Mo_isShut N a0 x1 M102) fun v103 M103 => if v103 = 0 then zBv (Mo_keeps N a0 M103) fun M104 => zW (pI M104 81 a0 2 (z_or (mI M104 81 a0 2) (z_shl 1 x1))) fun M105 => some (1, M105) else some (0, M103)
def Mo_open (N : Nat) (a0 : Nat) (x1 : Int) (M : ZM) : Option (Int × ZM) :=
  zW (pI M 11 a0 0 0) fun M101 => zB (Mo_isTurbine N a0 x1 M101) fun v102 M102 => if v102 = 0 then some (0, M102) else zB (Mo_isShut N a0 x1 M102) fun v103 M103 => if v103 = 0 then some (0, M103) else zBv (Mo_keeps N a0 M103) fun M104 => zW (pI M104 81 a0 2 (z_and (mI M104 81 a0 2) (z_xor (z_shl 1 x1) (-1)))) fun M105 => some (1, M105)
def Mo_mend (N : Nat) (a0 : Nat) (x1 : Int) (M : ZM) : Option (Int × ZM) :=
  zW (pI M 11 a0 0 0) fun M101 => zB (Mo_isTurbine N a0 x1 M101) fun v102 M102 => if v102 = 0 then some (0, M102) else zB (Mo_canMend N a0 x1 M102) fun v103 M103 => if v103 = 0 then some (0, M103) else zBv (Mo_keeps N a0 M103) fun M104 => zBv (Mo_mends N a0 x1 M104) fun M105 => some (1, M105)
def Mo_step (N : Nat) (a0 : Nat) (M : ZM) : Option (Int × ZM) :=
  zW (pI M 11 a0 0 0) fun M101 => zBv (Mo_keeps N a0 M101) fun M102 => zB (Mo_passes N a0 M102) fun v103 M103 => some (v103, M103)
def Mo_undo (N : Nat) (a0 : Nat) (M : ZM) : Option (Int × ZM) :=
  zW (pI M 11 a0 0 0) fun M101 => if mI M101 11 a0 49 = 0 then some (0, M101) else zW (pI M101 11 a0 49 (z32 ((mI M101 11 a0 49) - 1))) fun M102 => zBv (Mo_copies N 85 a0 (z32 (16 * (mI M102 11 a0 49))) 81 a0 0 M102) fun M103 => some (1, M103)
def Mo_isDone_60 (N : Nat) (a0 : Nat) (x2 : Int) (y0 : Int) (y1 : Int) (M : ZM) : Option (Int × ZM) :=
  if y0 = y1 then some (0, M) else zW (pI M 81 a0 2 (z_xor (mI M 81 a0 2) (z_shl 1 x2))) fun M101 => some (1, M101)
def Mo_isDone_45 (N : Nat) (a0 : Nat) (x2 : Int) (x3 : Int) (M : ZM) : Option (Int × ZM) :=
  zB (Mo_isShut N a0 x2 M) fun v101 M101 => if x3 = 1 then Mo_isDone_60 N a0 x2 v101 1 M101 else Mo_isDone_60 N a0 x2 v101 0 M101
def Mo_isDone (N : Nat) (a0 : Nat) (x1 : Int) (M : ZM) : Option (Int × ZM) :=
  zI ((0 : Int) ≤ x1 ∧ x1 < 240) <| zW (mI M 76 a0 x1.toNat) fun x101 => zI ((0 : Int) ≤ x1 ∧ x1 < 240) <| zW (mI M 75 a0 x1.toNat) fun x102 => if x102 = 0 then zI ((0 : Int) ≤ x1 ∧ x1 < 240) <| zI ((0 : Int) ≤ z32 (4 + x101) ∧ z32 (4 + x101) < 16) <| zW (pI M 81 a0 (z32 (4 + x101)).toNat (mI M 77 a0 x1.toNat)) fun M103 => some (1, M103) else if x102 = 1 then Mo_isDone_45 N a0 x101 x102 M else if x102 = 2 then Mo_isDone_45 N a0 x101 x102 M else if x102 = 3 then zB (Mo_canMend N a0 x101 M) fun v104 M104 => if v104 = 0 then some (0, M104) else zBv (Mo_mends N a0 x101 M104) fun M105 => some (1, M105) else zB (Mo_passes N a0 M) fun v106 M106 => some (1, M106)
def Mo_judged_77 (N : Nat) (rec42 : Nat → Int → Int → Int → Int → ZM → Option (Int × ZM)) (a0 : Nat) (x1 : Int) (x2 : Int) (x3 : Int) (x4 : Int) (x5 : Int) (M : ZM) : Option (Int × ZM) :=
  if z_and (mI M 81 a0 3) (z_xor x5 (-1)) = 0 then zW (z32 (x4 + 1)) fun x101 => rec42 a0 x1 x2 x3 x101 M else if x3 < 0 then zW (z32 (x4 + 1)) fun x102 => rec42 a0 x1 x2 x4 x102 M else zW (z32 (x4 + 1)) fun x103 => rec42 a0 x1 x2 x3 x103 M
def Mo_judged_42 (N : Nat) : Nat → Nat → Int → Int → Int → Int → ZM → Option (Int × ZM)
  | 0, _, _, _, _, _, _ => none
  | n + 1, a0, x1, x2, x3, x4, M => if x4 < mI M 74 a0 0 then zW (mI M 81 a0 3) fun x101 => zB (Mo_isDone N a0 x4 M) fun v102 M102 => if v102 = 0 then if x2 < 0 then Mo_judged_77 N (Mo_judged_42 N n) a0 x1 x4 x3 x4 x101 M102 else Mo_judged_77 N (Mo_judged_42 N n) a0 x1 x2 x3 x4 x101 M102 else Mo_judged_77 N (Mo_judged_42 N n) a0 x1 x2 x3 x4 x101 M102 else zW (mI M 81 a0 1) fun x103 => zBv (Mo_copies N 82 a0 0 81 a0 0 M) fun M104 => if x1 = 0 then some (x2, M104) else if x1 = 1 then some (x3, M104) else some (x103, M104)
def Mo_judged (N : Nat) (a0 : Nat) (x1 : Int) (M : ZM) : Option (Int × ZM) :=
  zW (pI M 11 a0 0 0) fun M101 => zB (Mo_within N x1 0 2 M101) fun v102 M102 => if v102 = 0 then some ((-1000000), M102) else zBv (Mo_copies N 81 a0 0 82 a0 0 M102) fun M103 => zBv (Mo_fresh0 N a0 M103) fun M104 => Mo_judged_42 N N a0 x1 (-1) (-1) 0 M104
def Mo_takes (N : Nat) (a0 : Nat) (x1 : Int) (x2 : Int) (M : ZM) : Option (Int × ZM) :=
  zW (pI M 11 a0 0 0) fun M101 => zBv (Mo_looks N a0 M101) fun M102 => zB (Mo_isTurbine N a0 x1 M102) fun v103 M103 => if v103 = 0 then some ((-1), M103) else zB (Mo_isTurbine N a0 x2 M103) fun v104 M104 => if v104 = 0 then some ((-1), M104) else if x1 = x2 then some ((-1), M104) else zB (Mo_takesOf N a0 x1 x2 M104) fun v105 M105 => some (v105, M105)
def Mo_later_32 (N : Nat) : Nat → Nat → Int → Int → ZM → Option (Int × ZM)
  | 0, _, _, _, _ => none
  | n + 1, a0, x1, x2, M => if x2 < x1 then zB (Mo_passes N a0 M) fun v101 M101 => zW (z32 (x2 + 1)) fun x102 => Mo_later_32 N n a0 x1 x102 M101 else zB (Mo_homeNow N a0 M) fun v103 M103 => zBv (Mo_copies N 83 a0 0 81 a0 0 M103) fun M104 => some (v103, M104)
def Mo_later (N : Nat) (a0 : Nat) (x1 : Int) (M : ZM) : Option (Int × ZM) :=
  zW (pI M 11 a0 0 0) fun M101 => zB (Mo_within N x1 0 60 M101) fun v102 M102 => if v102 = 0 then some ((-1), M102) else zBv (Mo_copies N 81 a0 0 83 a0 0 M102) fun M103 => Mo_later_32 N N a0 x1 0 M103
def Mo_total_36 (N : Nat) : Nat → Nat → Int → Int → Int → ZM → Option (Int × ZM)
  | 0, _, _, _, _, _ => none
  | n + 1, a0, x1, x2, x3, M => if x3 < x1 then zB (Mo_passes N a0 M) fun v101 M101 => zW (z32 (x2 + v101)) fun x102 => zW (z32 (x3 + 1)) fun x103 => Mo_total_36 N n a0 x1 x102 x103 M101 else zBv (Mo_copies N 83 a0 0 81 a0 0 M) fun M104 => some (x2, M104)
def Mo_total (N : Nat) (a0 : Nat) (x1 : Int) (M : ZM) : Option (Int × ZM) :=
  zW (pI M 11 a0 0 0) fun M101 => zB (Mo_within N x1 1 60 M101) fun v102 M102 => if v102 = 0 then some ((-1000000), M102) else zBv (Mo_copies N 81 a0 0 83 a0 0 M102) fun M103 => Mo_total_36 N N a0 x1 0 0 M103
def Mo_breaks_63 (N : Nat) (a0 : Nat) (x2 : Int) (M : ZM) : Option (Int × ZM) :=
  zBv (Mo_copies N 83 a0 0 81 a0 0 M) fun M101 => if 100 < x2 then some ((-1), M101) else some (x2, M101)
def Mo_breaks_38 (N : Nat) : Nat → Nat → Int → Int → ZM → Option (Int × ZM)
  | 0, _, _, _, _ => none
  | n + 1, a0, x1, x2, M => if 100 < x2 then Mo_breaks_63 N a0 x2 M else zB (Mo_isBroken N a0 x1 M) fun v101 M101 => if v101 = 0 then zB (Mo_passes N a0 M101) fun v102 M102 => zW (z32 (x2 + 1)) fun x103 => Mo_breaks_38 N n a0 x1 x103 M102 else Mo_breaks_63 N a0 x2 M101
def Mo_breaks (N : Nat) (a0 : Nat) (x1 : Int) (M : ZM) : Option (Int × ZM) :=
  zW (pI M 11 a0 0 0) fun M101 => zB (Mo_isTurbine N a0 x1 M101) fun v102 M102 => if v102 = 0 then some ((-1), M102) else zB (Mo_isBroken N a0 x1 M102) fun v103 M103 => if v103 = 0 then zBv (Mo_copies N 81 a0 0 83 a0 0 M103) fun M104 => Mo_breaks_38 N N a0 x1 0 M104 else some ((-1), M103)
def Mo_lost (N : Nat) (a0 : Nat) (M : ZM) : Option (Int × ZM) :=
  zW (pI M 11 a0 0 0) fun M101 => zB (Mo_powersNow N a0 M101) fun v102 M102 => zB (Mo_homeBy N a0 (-1) M102) fun v103 M103 => some (z32 (v102 - v103), M103)
def Mo_powerBy_8 (N : Nat) : Nat → Nat → Int → Int → Int → ZM → Option (Int × ZM)
  | 0, _, _, _, _, _ => none
  | n + 1, a0, x1, x2, x3, M => if x3 < mI M 51 a0 0 then zI ((0 : Int) ≤ x3 ∧ x3 < 12) <| if mI M 54 a0 x3.toNat = x1 then zB (Mo_powerOf N a0 x3 M) fun v101 M101 => zW (z32 (x2 + v101)) fun x102 => zW (z32 (x3 + 1)) fun x103 => Mo_powerBy_8 N n a0 x1 x102 x103 M101 else zW (z32 (x2 + 0)) fun x104 => zW (z32 (x3 + 1)) fun x105 => Mo_powerBy_8 N n a0 x1 x104 x105 M else some (x2, M)
def Mo_powerBy (N : Nat) (a0 : Nat) (x1 : Int) (M : ZM) : Option (Int × ZM) :=
  zBv (Mo_looks N a0 M) fun M101 => Mo_powerBy_8 N N a0 x1 0 0 M101
def Mo_turnsAll_146 (N : Nat) (rec68 : Nat → Int → Int → Int → Int → ZM → Option ZM) (a0 : Nat) (x1 : Int) (x2 : Int) (x3 : Int) (x4 : Int) (y0 : Int) (M : ZM) : Option ZM :=
  if mI M 11 a0 54 < y0 then zW (pI M 11 a0 54 y0) fun M101 => zW (pI M101 11 a0 55 x4) fun M102 => zW (z32 (x4 + 1)) fun x103 => rec68 a0 x1 x2 x3 x103 M102 else zW (z32 (x4 + 1)) fun x104 => rec68 a0 x1 x2 x3 x104 M
def Mo_turnsAll_88 (N : Nat) (rec68 : Nat → Int → Int → Int → Int → ZM → Option ZM) : Nat → Nat → Int → Int → Int → Int → Int → Int → ZM → Option ZM
  | 0, _, _, _, _, _, _, _, _ => none
  | n + 1, a0, x1, x2, x3, x4, x5, x6, M => if x6 < 0 then if x2 = 0 then zB (Mo_soldNow N a0 M) fun v101 M101 => Mo_turnsAll_146 N rec68 a0 x1 x2 x3 x4 v101 M101 else zB (Mo_powerBy N a0 x2 M) fun v102 M102 => Mo_turnsAll_146 N rec68 a0 x1 x2 x3 x4 v102 M102 else if z_and (z_shr x1 x6) 1 = 0 then zW (z32 (x6 + (-1))) fun x103 => Mo_turnsAll_88 N rec68 n a0 x1 x2 x3 x4 x5 x103 M else zI ((0 : Int) ≤ z32 (4 + x6) ∧ z32 (4 + x6) < 16) <| zW (pI M 81 a0 (z32 (4 + x6)).toNat (x5.tmod 5)) fun M104 => zW (z32 (x5.tdiv 5)) fun x105 => zW (z32 (x6 + (-1))) fun x106 => Mo_turnsAll_88 N rec68 n a0 x1 x2 x3 x4 x105 x106 M104
def Mo_turnsAll_68 (N : Nat) : Nat → Nat → Int → Int → Int → Int → ZM → Option ZM
  | 0, _, _, _, _, _, _ => none
  | n + 1, a0, x1, x2, x3, x4, M => if x4 < x3 then zW (z32 ((mI M 51 a0 0) - 1)) fun x101 => Mo_turnsAll_88 N (Mo_turnsAll_68 N n) N a0 x1 x2 x3 x4 x4 x101 M else zBv (Mo_copies N 83 a0 0 81 a0 0 M) fun M102 => some M102
def Mo_turnsAll_18 (N : Nat) : Nat → Nat → Int → Int → Int → Int → ZM → Option ZM
  | 0, _, _, _, _, _, _ => none
  | n + 1, a0, x1, x2, x3, x4, M => if x4 < mI M 51 a0 0 then if z_and (z_shr x1 x4) 1 = 1 then zW (z32 (x3 * 5)) fun x101 => zW (z32 (x4 + 1)) fun x102 => Mo_turnsAll_18 N n a0 x1 x2 x101 x102 M else zW (z32 (x3 * 1)) fun x103 => zW (z32 (x4 + 1)) fun x104 => Mo_turnsAll_18 N n a0 x1 x2 x103 x104 M else zW (pI M 11 a0 54 (-1000000)) fun M105 => zW (pI M105 11 a0 55 0) fun M106 => Mo_turnsAll_68 N N a0 x1 x2 x3 0 M106
def Mo_turnsAll (N : Nat) (a0 : Nat) (x1 : Int) (x2 : Int) (M : ZM) : Option ZM :=
  zBv (Mo_copies N 81 a0 0 83 a0 0 M) fun M101 => Mo_turnsAll_18 N N a0 x1 x2 1 0 M101
def Mo_ownedBy_4 (N : Nat) : Nat → Nat → Int → Int → Int → ZM → Option (Int × ZM)
  | 0, _, _, _, _, _ => none
  | n + 1, a0, x1, x2, x3, M => if x3 < mI M 51 a0 0 then if x1 = 0 then zW (z_or x2 (z_shl 1 x3)) fun x101 => zW (z32 (x3 + 1)) fun x102 => Mo_ownedBy_4 N n a0 x1 x101 x102 M else zI ((0 : Int) ≤ x3 ∧ x3 < 12) <| if mI M 54 a0 x3.toNat = x1 then zW (z_or x2 (z_shl 1 x3)) fun x103 => zW (z32 (x3 + 1)) fun x104 => Mo_ownedBy_4 N n a0 x1 x103 x104 M else zW (z_or x2 0) fun x105 => zW (z32 (x3 + 1)) fun x106 => Mo_ownedBy_4 N n a0 x1 x105 x106 M else some (x2, M)
def Mo_ownedBy (N : Nat) (a0 : Nat) (x1 : Int) (M : ZM) : Option (Int × ZM) :=
  Mo_ownedBy_4 N N a0 x1 0 0 M
def Mo_foundOf_15 (N : Nat) : Nat → Nat → Int → Int → Int → Int → ZM → Option (Int × ZM)
  | 0, _, _, _, _, _, _ => none
  | n + 1, a0, x1, x2, x3, x4, M => if x2 < x4 then if z_and (z_shr x1 x4) 1 = 1 then zW (z32 (x3.tdiv 5)) fun x101 => zW (z32 (x4 + (-1))) fun x102 => Mo_foundOf_15 N n a0 x1 x2 x101 x102 M else zW (z32 (x3.tdiv 1)) fun x103 => zW (z32 (x4 + (-1))) fun x104 => Mo_foundOf_15 N n a0 x1 x2 x103 x104 M else if z_and (z_shr x1 x2) 1 = 1 then some (x3.tmod 5, M) else zI ((0 : Int) ≤ z32 (4 + x2) ∧ z32 (4 + x2) < 16) <| some (mI M 81 a0 (z32 (4 + x2)).toNat, M)
def Mo_foundOf (N : Nat) (a0 : Nat) (x1 : Int) (x2 : Int) (M : ZM) : Option (Int × ZM) :=
  zW (mI M 11 a0 55) fun x101 => zW (z32 ((mI M 51 a0 0) - 1)) fun x102 => Mo_foundOf_15 N N a0 x1 x2 x101 x102 M
def Mo_best_22 (N : Nat) (a0 : Nat) (x1 : Int) (M : ZM) : Option (Int × ZM) :=
  zB (Mo_ownedBy N a0 0 M) fun v101 M101 => zBv (Mo_turnsAll N a0 v101 0 M101) fun M102 => if x1 = (-1) then some (mI M102 11 a0 54, M102) else zB (Mo_ownedBy N a0 0 M102) fun v103 M103 => zB (Mo_foundOf N a0 v103 x1 M103) fun v104 M104 => some (v104, M104)
def Mo_best (N : Nat) (a0 : Nat) (x1 : Int) (M : ZM) : Option (Int × ZM) :=
  zW (pI M 11 a0 0 0) fun M101 => if x1 = (-1) then Mo_best_22 N a0 x1 M101 else zB (Mo_isTurbine N a0 x1 M101) fun v102 M102 => if v102 = 0 then some ((-1000000), M102) else Mo_best_22 N a0 x1 M102
def Mo_alone_30 (N : Nat) (a0 : Nat) (x1 : Int) (x2 : Int) (M : ZM) : Option (Int × ZM) :=
  zB (Mo_ownedBy N a0 x1 M) fun v101 M101 => zBv (Mo_turnsAll N a0 v101 x1 M101) fun M102 => if x2 = (-1) then some (mI M102 11 a0 54, M102) else zB (Mo_ownedBy N a0 x1 M102) fun v103 M103 => zB (Mo_foundOf N a0 v103 x2 M103) fun v104 M104 => some (v104, M104)
def Mo_alone (N : Nat) (a0 : Nat) (x1 : Int) (x2 : Int) (M : ZM) : Option (Int × ZM) :=
  zW (pI M 11 a0 0 0) fun M101 => zB (Mo_within N x1 1 2 M101) fun v102 M102 => if v102 = 0 then some ((-2), M102) else if x2 = (-1) then Mo_alone_30 N a0 x1 x2 M102 else zB (Mo_isTurbine N a0 x2 M102) fun v103 M103 => if v103 = 0 then some ((-2), M103) else Mo_alone_30 N a0 x1 x2 M103
def Mo_idle_42 (N : Nat) : Nat → Nat → Int → Int → Int → Int → Int → ZM → Option (Int × ZM)
  | 0, _, _, _, _, _, _, _ => none
  | n + 1, a0, x1, x2, x3, x4, x5, M => if x1 < x5 then zW (pI M 81 a0 2 x2) fun M101 => some (x3, M101) else if z_and x5 (z_xor x1 (-1)) = 0 then zW (pI M 81 a0 2 (z_or (z_and x2 (z_xor x1 (-1))) x5)) fun M102 => zB (Mo_soldNow N a0 M102) fun v103 M103 => if x4 < v103 then zW (z32 (x5 + 1)) fun x104 => Mo_idle_42 N n a0 x1 x2 x5 v103 x104 M103 else zW (z32 (x5 + 1)) fun x105 => Mo_idle_42 N n a0 x1 x2 x3 x4 x105 M103 else zW (z32 (x5 + 1)) fun x106 => Mo_idle_42 N n a0 x1 x2 x3 x4 x106 M
def Mo_idle (N : Nat) (a0 : Nat) (M : ZM) : Option (Int × ZM) :=
  zW (pI M 11 a0 0 0) fun M101 => zW (z_and (z32 ((z_shl 1 (mI M101 51 a0 0)) - 1)) (z_xor (mI M101 81 a0 3) (-1))) fun x102 => zW (mI M101 81 a0 2) fun x103 => Mo_idle_42 N N a0 x102 x103 0 (-1000000) 0 M101
def Mo_straight_25 (N : Nat) : Nat → Nat → Int → Int → ZM → Option (Int × ZM)
  | 0, _, _, _, _ => none
  | n + 1, a0, x1, x2, M => if x2 < 6 then zI ((0 : Int) ≤ z32 (4 + x2) ∧ z32 (4 + x2) < 16) <| zW (pI M 81 a0 (z32 (4 + x2)).toNat 2) fun M101 => zW (z32 (x2 + 1)) fun x102 => Mo_straight_25 N n a0 x1 x102 M101 else zB (Mo_soldNow N a0 M) fun v103 M103 => zBv (Mo_copies N 83 a0 0 81 a0 0 M103) fun M104 => some (z32 (v103 - x1), M104)
def Mo_straight (N : Nat) (a0 : Nat) (M : ZM) : Option (Int × ZM) :=
  zW (pI M 11 a0 0 0) fun M101 => zB (Mo_soldNow N a0 M101) fun v102 M102 => zBv (Mo_copies N 81 a0 0 83 a0 0 M102) fun M103 => Mo_straight_25 N N a0 v102 0 M103
def Mo_full_14 (N : Nat) : Nat → Nat → Int → Int → ZM → Option (Int × ZM)
  | 0, _, _, _, _ => none
  | n + 1, a0, x1, x2, M => if x2 < mI M 51 a0 0 then zI ((0 : Int) ≤ x2 ∧ x2 < 12) <| if mI M 56 a0 x2.toNat < 0 then zW (z_or x1 0) fun x101 => zW (z32 (x2 + 1)) fun x102 => Mo_full_14 N n a0 x101 x102 M else zI ((0 : Int) ≤ x2 ∧ x2 < 6) <| zI ((0 : Int) ≤ x2 ∧ x2 < 12) <| if mI M 88 a0 x2.toNat = mI M 57 a0 x2.toNat then zW (z_or x1 (z_shl 1 x2)) fun x103 => zW (z32 (x2 + 1)) fun x104 => Mo_full_14 N n a0 x103 x104 M else zW (z_or x1 0) fun x105 => zW (z32 (x2 + 1)) fun x106 => Mo_full_14 N n a0 x105 x106 M else some (x1, M)
def Mo_full (N : Nat) (a0 : Nat) (M : ZM) : Option (Int × ZM) :=
  zW (pI M 11 a0 0 0) fun M101 => zB (Mo_homeNow N a0 M101) fun v102 M102 => Mo_full_14 N N a0 0 0 M102
def Mo_dear_16 (N : Nat) : Nat → Nat → Int → Int → Int → ZM → Option (Int × ZM)
  | 0, _, _, _, _, _ => none
  | n + 1, a0, x1, x2, x3, M => if x3 < mI M 51 a0 0 then zI ((0 : Int) ≤ x3 ∧ x3 < 12) <| if mI M 56 a0 x3.toNat < 0 then zW (z32 (x3 + 1)) fun x101 => Mo_dear_16 N n a0 x1 x2 x101 M else zB (Mo_homeBy N a0 x3 M) fun v102 M102 => if x1 < 0 then zW (z32 (x3 + 1)) fun x103 => Mo_dear_16 N n a0 x3 v102 x103 M102 else if v102 < x2 then zW (z32 (x3 + 1)) fun x104 => Mo_dear_16 N n a0 x3 v102 x104 M102 else zW (z32 (x3 + 1)) fun x105 => Mo_dear_16 N n a0 x1 x2 x105 M102 else some (x1, M)
def Mo_dear (N : Nat) (a0 : Nat) (M : ZM) : Option (Int × ZM) :=
  zW (pI M 11 a0 0 0) fun M101 => zB (Mo_homeNow N a0 M101) fun v102 M102 => Mo_dear_16 N N a0 (-1) 0 0 M102
def Mo_fault (N : Nat) (a0 : Nat) (x1 : Int) (M : ZM) : Option (Int × ZM) :=
  zW (pI M 11 a0 0 0) fun M101 => zB (Mo_isTurbine N a0 x1 M101) fun v102 M102 => if v102 = 0 then some ((-1), M102) else zI ((0 : Int) ≤ x1 ∧ x1 < 12) <| if mI M102 56 a0 x1.toNat < 0 then some ((-1), M102) else zB (Mo_homeNow N a0 M102) fun v103 M103 => zB (Mo_homeBy N a0 x1 M103) fun v104 M104 => some (v104, M104)
def Mo_hops (N : Nat) (a0 : Nat) (x1 : Int) (M : ZM) : Option (Int × ZM) :=
  zW (pI M 11 a0 0 0) fun M101 => zB (Mo_isTurbine N a0 x1 M101) fun v102 M102 => if v102 = 0 then some ((-1), M102) else zB (Mo_hopsOf N a0 x1 M102) fun v103 M103 => some (v103, M103)
def Mo_windsOf_4 (N : Nat) : Nat → Nat → Int → Int → Int → ZM → Option (Int × ZM)
  | 0, _, _, _, _, _ => none
  | n + 1, a0, x1, x2, x3, M => if x3 < mI M 51 a0 0 then zI ((0 : Int) ≤ x3 ∧ x3 < 12) <| if mI M 54 a0 x3.toNat = x1 then zB (Mo_runs N a0 x3 M) fun v101 M101 => if v101 = 0 then zW (z32 (x2 + 0)) fun x102 => zW (z32 (x3 + 1)) fun x103 => Mo_windsOf_4 N n a0 x1 x102 x103 M101 else zB (Mo_windOf N a0 x3 M101) fun v104 M104 => zW (z32 (x2 + v104)) fun x105 => zW (z32 (x3 + 1)) fun x106 => Mo_windsOf_4 N n a0 x1 x105 x106 M104 else zW (z32 (x2 + 0)) fun x107 => zW (z32 (x3 + 1)) fun x108 => Mo_windsOf_4 N n a0 x1 x107 x108 M else some (x2, M)
def Mo_windsOf (N : Nat) (a0 : Nat) (x1 : Int) (M : ZM) : Option (Int × ZM) :=
  Mo_windsOf_4 N N a0 x1 0 0 M
def Mo_robbed (N : Nat) (a0 : Nat) (x1 : Int) (M : ZM) : Option (Int × ZM) :=
  zW (pI M 11 a0 0 0) fun M101 => zB (Mo_within N x1 1 2 M101) fun v102 M102 => if v102 = 0 then some ((-1), M102) else zBv (Mo_looks N a0 M102) fun M103 => zB (Mo_windsOf N a0 x1 M103) fun v104 M104 => zW (mI M104 81 a0 2) fun x105 => zB (Mo_ownedBy N a0 (z32 (3 - x1)) M104) fun v106 M106 => zW (pI M106 81 a0 2 (z_or (mI M104 81 a0 2) v106)) fun M107 => zB (Mo_windsOf N a0 x1 M107) fun v108 M108 => zW (pI M108 81 a0 2 x105) fun M109 => some (z32 (v108 - v104), M109)
def Mo_front_13 (N : Nat) : Nat → Nat → Int → Int → ZM → Option (Int × ZM)
  | 0, _, _, _, _ => none
  | n + 1, a0, x1, x2, M => if x2 < mI M 51 a0 0 then zB (Mo_takenOf N a0 x2 M) fun v101 M101 => if v101 = 0 then zW (z_or x1 (z_shl 1 x2)) fun x102 => zW (z32 (x2 + 1)) fun x103 => Mo_front_13 N n a0 x102 x103 M101 else zW (z_or x1 0) fun x104 => zW (z32 (x2 + 1)) fun x105 => Mo_front_13 N n a0 x104 x105 M101 else some (x1, M)
def Mo_front (N : Nat) (a0 : Nat) (M : ZM) : Option (Int × ZM) :=
  zW (pI M 11 a0 0 0) fun M101 => zBv (Mo_looks N a0 M101) fun M102 => Mo_front_13 N N a0 0 0 M102
def Mo_shade_23 (N : Nat) : Nat → Nat → Int → Int → Int → ZM → Option (Int × ZM)
  | 0, _, _, _, _, _ => none
  | n + 1, a0, x1, x2, x3, M => if x3 < mI M 51 a0 0 then zB (Mo_takesOf N a0 x1 x3 M) fun v101 M101 => if 0 < v101 then zW (z_or x2 (z_shl 1 x3)) fun x102 => zW (z32 (x3 + 1)) fun x103 => Mo_shade_23 N n a0 x1 x102 x103 M101 else zW (z_or x2 0) fun x104 => zW (z32 (x3 + 1)) fun x105 => Mo_shade_23 N n a0 x1 x104 x105 M101 else some (x2, M)
def Mo_shade (N : Nat) (a0 : Nat) (x1 : Int) (M : ZM) : Option (Int × ZM) :=
  zW (pI M 11 a0 0 0) fun M101 => zB (Mo_isTurbine N a0 x1 M101) fun v102 M102 => if v102 = 0 then some ((-1), M102) else zBv (Mo_looks N a0 M102) fun M103 => Mo_shade_23 N N a0 x1 0 0 M103
def Mo_laysWinds_67 (N : Nat) (rec4 : Nat → Int → Int → ZM → Option (Int × ZM)) : Nat → Nat → Int → Int → Int → ZM → Option (Int × ZM)
  | 0, _, _, _, _, _ => none
  | n + 1, a0, x1, x2, x3, M => if x3 < mI M 78 a0 0 then zI ((0 : Int) ≤ x2 ∧ x2 < 124) <| if mI M 90 a0 x2.toNat = 0 then zI ((0 : Int) ≤ x2 ∧ x2 < 124) <| zW (pI M 90 a0 x2.toNat (z_b1 0)) fun M101 => zW (z32 (x3 + 1)) fun x102 => Mo_laysWinds_67 N rec4 n a0 x1 x2 x102 M101 else zI ((0 : Int) ≤ x3 ∧ x3 < 40) <| zI ((0 : Int) ≤ z32 ((z32 (6 * x2)) + (mI M 79 a0 x3.toNat)) ∧ z32 ((z32 (6 * x2)) + (mI M 79 a0 x3.toNat)) < 744) <| zI ((0 : Int) ≤ x3 ∧ x3 < 40) <| if mI M 89 a0 (z32 ((z32 (6 * x2)) + (mI M 79 a0 x3.toNat))).toNat = mI M 80 a0 x3.toNat then zI ((0 : Int) ≤ x2 ∧ x2 < 124) <| zW (pI M 90 a0 x2.toNat (z_b1 1)) fun M103 => zW (z32 (x3 + 1)) fun x104 => Mo_laysWinds_67 N rec4 n a0 x1 x2 x104 M103 else zI ((0 : Int) ≤ x2 ∧ x2 < 124) <| zW (pI M 90 a0 x2.toNat (z_b1 0)) fun M105 => zW (z32 (x3 + 1)) fun x106 => Mo_laysWinds_67 N rec4 n a0 x1 x2 x106 M105 else zI ((0 : Int) ≤ x2 ∧ x2 < 124) <| if mI M 90 a0 x2.toNat = 0 then zW (z32 (x1 + 0)) fun x107 => zW (z32 (x2 + 1)) fun x108 => rec4 a0 x107 x108 M else zW (z32 (x1 + 1)) fun x109 => zW (z32 (x2 + 1)) fun x110 => rec4 a0 x109 x110 M
def Mo_laysWinds_33 (N : Nat) (rec4 : Nat → Int → Int → ZM → Option (Int × ZM)) : Nat → Nat → Int → Int → Int → ZM → Option (Int × ZM)
  | 0, _, _, _, _, _ => none
  | n + 1, a0, x1, x2, x3, M => if x3 < mI M 51 a0 0 then zB (Mo_powerOf N a0 x3 M) fun v101 M101 => zI ((0 : Int) ≤ z32 ((z32 (6 * x2)) + x3) ∧ z32 ((z32 (6 * x2)) + x3) < 744) <| zW (pI M101 89 a0 (z32 ((z32 (6 * x2)) + x3)).toNat v101) fun M102 => zW (z32 (x3 + 1)) fun x103 => Mo_laysWinds_33 N rec4 n a0 x1 x2 x103 M102 else Mo_laysWinds_67 N rec4 N a0 x1 x2 0 M
def Mo_laysWinds_4 (N : Nat) : Nat → Nat → Int → Int → ZM → Option (Int × ZM)
  | 0, _, _, _, _ => none
  | n + 1, a0, x1, x2, M => if x2 < 124 then zW (pI M 11 a0 50 (z32 (x2.tdiv 4))) fun M101 => zW (pI M101 11 a0 51 (x2.tmod 4)) fun M102 => zI ((0 : Int) ≤ x2 ∧ x2 < 124) <| zW (pI M102 90 a0 x2.toNat (z_b1 1)) fun M103 => Mo_laysWinds_33 N (Mo_laysWinds_4 N n) N a0 x1 x2 0 M103 else some (x1, M)
def Mo_laysWinds (N : Nat) (a0 : Nat) (M : ZM) : Option (Int × ZM) :=
  Mo_laysWinds_4 N N a0 0 0 M
def Mo_see (N : Nat) (a0 : Nat) (x1 : Int) (x2 : Int) (M : ZM) : Option (Int × ZM) :=
  zW (pI M 11 a0 0 0) fun M101 => zB (Mo_isTurbine N a0 x1 M101) fun v102 M102 => if v102 = 0 then some (0, M102) else zB (Mo_within N x2 0 99 M102) fun v103 M103 => if v103 = 0 then some (0, M103) else if mI M103 78 a0 0 = 8 then some (0, M103) else zI ((0 : Int) ≤ mI M103 78 a0 0 ∧ mI M103 78 a0 0 < 40) <| zW (pI M103 79 a0 (mI M103 78 a0 0).toNat x1) fun M104 => zI ((0 : Int) ≤ mI M104 78 a0 0 ∧ mI M104 78 a0 0 < 40) <| zW (pI M104 80 a0 (mI M104 78 a0 0).toNat x2) fun M105 => zW (pI M105 78 a0 0 (z32 ((mI M105 78 a0 0) + 1))) fun M106 => some (1, M106)
def Mo_winds_61 (N : Nat) (rec32 : Nat → Int → Int → Int → Int → Int → Int → ZM → Option (Int × ZM)) (a0 : Nat) (x1 : Int) (x2 : Int) (x3 : Int) (x5 : Int) (x6 : Int) (M : ZM) : Option (Int × ZM) :=
  zW (z32 (x6.tdiv 4)) fun x101 => zW (z_or x5 (z_shl 1 (x6.tmod 4))) fun x102 => zW (z32 (x6 + 1)) fun x103 => rec32 a0 x1 x2 x3 x101 x102 x103 M
def Mo_winds_32 (N : Nat) : Nat → Nat → Int → Int → Int → Int → Int → Int → ZM → Option (Int × ZM)
  | 0, _, _, _, _, _, _, _, _ => none
  | n + 1, a0, x1, x2, x3, x4, x5, x6, M => if x6 < 124 then zI ((0 : Int) ≤ x6 ∧ x6 < 124) <| if mI M 90 a0 x6.toNat = 0 then zW (z32 (x6 + 1)) fun x101 => Mo_winds_32 N n a0 x1 x2 x3 x4 x5 x101 M else if x3 < 0 then zW (z32 (x6.tdiv 4)) fun x102 => Mo_winds_61 N (Mo_winds_32 N n) a0 x1 x2 x102 x5 x6 M else Mo_winds_61 N (Mo_winds_32 N n) a0 x1 x2 x3 x5 x6 M else if x1 = 0 then some (x2, M) else if x1 = 1 then some (x3, M) else if x1 = 2 then some (x4, M) else some (x5, M)
def Mo_winds (N : Nat) (a0 : Nat) (x1 : Int) (M : ZM) : Option (Int × ZM) :=
  zW (pI M 11 a0 0 0) fun M101 => zB (Mo_within N x1 0 3 M101) fun v102 M102 => if v102 = 0 then some ((-1), M102) else zB (Mo_laysWinds N a0 M102) fun v103 M103 => Mo_winds_32 N N a0 x1 v103 (-1) (-1) 0 0 M103
def Mo_ask_54 (N : Nat) (rec14 : Nat → Int → Int → Int → ZM → Option (Int × ZM)) : Nat → Nat → Int → Int → Int → Int → Int → ZM → Option (Int × ZM)
  | 0, _, _, _, _, _, _, _ => none
  | n + 1, a0, x1, x2, x3, x4, x5, M => if x5 < 124 then zI ((0 : Int) ≤ x5 ∧ x5 < 124) <| if mI M 90 a0 x5.toNat = 0 then zW (z32 (x5 + 1)) fun x101 => Mo_ask_54 N rec14 n a0 x1 x2 x3 x4 x101 M else zI ((0 : Int) ≤ z32 ((z32 (6 * x5)) + x3) ∧ z32 ((z32 (6 * x5)) + x3) < 744) <| zI ((0 : Int) ≤ mI M 89 a0 (z32 ((z32 (6 * x5)) + x3)).toNat ∧ mI M 89 a0 (z32 ((z32 (6 * x5)) + x3)).toNat < 100) <| zI ((0 : Int) ≤ mI M 89 a0 (z32 ((z32 (6 * x5)) + x3)).toNat ∧ mI M 89 a0 (z32 ((z32 (6 * x5)) + x3)).toNat < 100) <| zW (pI M 91 a0 (mI M 89 a0 (z32 ((z32 (6 * x5)) + x3)).toNat).toNat (z32 ((mI M 91 a0 (mI M 89 a0 (z32 ((z32 (6 * x5)) + x3)).toNat).toNat) + 1))) fun M102 => zI ((0 : Int) ≤ z32 ((z32 (6 * x5)) + x3) ∧ z32 ((z32 (6 * x5)) + x3) < 744) <| zI ((0 : Int) ≤ mI M102 89 a0 (z32 ((z32 (6 * x5)) + x3)).toNat ∧ mI M102 89 a0 (z32 ((z32 (6 * x5)) + x3)).toNat < 100) <| zW (zmax x4 (mI M102 91 a0 (mI M102 89 a0 (z32 ((z32 (6 * x5)) + x3)).toNat).toNat)) fun x103 => zW (z32 (x5 + 1)) fun x104 => Mo_ask_54 N rec14 n a0 x1 x2 x3 x103 x104 M102 else if x4 < x1 then zW (z32 (x3 + 1)) fun x105 => rec14 a0 x4 x3 x105 M else zW (z32 (x3 + 1)) fun x106 => rec14 a0 x1 x2 x106 M
def Mo_ask_30 (N : Nat) (rec14 : Nat → Int → Int → Int → ZM → Option (Int × ZM)) : Nat → Nat → Int → Int → Int → Int → Int → ZM → Option (Int × ZM)
  | 0, _, _, _, _, _, _, _ => none
  | n + 1, a0, x1, x2, x3, x4, x5, M => if x5 < 100 then zI ((0 : Int) ≤ x5 ∧ x5 < 100) <| zW (pI M 91 a0 x5.toNat 0) fun M101 => zW (z32 (x5 + 1)) fun x102 => Mo_ask_30 N rec14 n a0 x1 x2 x3 x4 x102 M101 else Mo_ask_54 N rec14 N a0 x1 x2 x3 x4 0 M
def Mo_ask_14 (N : Nat) : Nat → Nat → Int → Int → Int → ZM → Option (Int × ZM)
  | 0, _, _, _, _, _ => none
  | n + 1, a0, x1, x2, x3, M => if x3 < mI M 51 a0 0 then Mo_ask_30 N (Mo_ask_14 N n) N a0 x1 x2 x3 0 0 M else some (x2, M)
def Mo_ask (N : Nat) (a0 : Nat) (M : ZM) : Option (Int × ZM) :=
  zW (pI M 11 a0 0 0) fun M101 => zB (Mo_laysWinds N a0 M101) fun v102 M102 => Mo_ask_14 N N a0 v102 (-1) 0 M102
def Mo_chance_83 (N : Nat) (rec51 : Nat → Int → Int → Int → Int → Int → Int → ZM → Option (Int × ZM)) (a0 : Nat) (x1 : Int) (x2 : Int) (x3 : Int) (x4 : Int) (x5 : Int) (x6 : Int) (b0 : Nat) (y1 : Int) (M : ZM) : Option (Int × ZM) :=
  zW (pI M 11 b0 50 y1) fun M101 => zB (Mo_powerOf N a0 x1 M101) fun v102 M102 => if v102 < x2 then zW (z32 (x6 + 1)) fun x103 => rec51 a0 x1 x2 x3 x4 x5 x103 M102 else if x6.tmod 2 = 0 then zW (z32 (x5 + x3)) fun x104 => zW (z32 (x6 + 1)) fun x105 => rec51 a0 x1 x2 x3 x4 x104 x105 M102 else zW (z32 (x5 + (z32 (10 - x3)))) fun x106 => zW (z32 (x6 + 1)) fun x107 => rec51 a0 x1 x2 x3 x4 x106 x107 M102
def Mo_chance_51 (N : Nat) : Nat → Nat → Int → Int → Int → Int → Int → Int → ZM → Option (Int × ZM)
  | 0, _, _, _, _, _, _, _, _ => none
  | n + 1, a0, x1, x2, x3, x4, x5, x6, M => if x6 < 8 then zW (pI M 11 a0 51 (z32 (x6.tdiv 2))) fun M101 => if x6.tmod 2 = 0 then Mo_chance_83 N (Mo_chance_51 N n) a0 x1 x2 x3 x4 x5 x6 a0 x4 M101 else Mo_chance_83 N (Mo_chance_51 N n) a0 x1 x2 x3 x4 x5 x6 a0 (z32 (x4.tdiv 2)) M101 else some (z32 (x5 * 25000), M)
def Mo_chance (N : Nat) (a0 : Nat) (x1 : Int) (x2 : Int) (x3 : Int) (M : ZM) : Option (Int × ZM) :=
  zW (pI M 11 a0 0 0) fun M101 => zB (Mo_isTurbine N a0 x1 M101) fun v102 M102 => if v102 = 0 then some ((-1), M102) else zB (Mo_within N x2 1 99 M102) fun v103 M103 => if v103 = 0 then some ((-1), M103) else zB (Mo_within N x3 0 10 M103) fun v104 M104 => if v104 = 0 then some ((-1), M104) else zBv (Mo_looks N a0 M104) fun M105 => zW (mI M105 11 a0 50) fun x106 => Mo_chance_51 N N a0 x1 x2 x3 x106 0 0 M105
def Mo_getsBy (N : Nat) (x0 : Int) (x1 : Int) (x2 : Int) (x3 : Int) (x4 : Int) (M : ZM) : Option (Int × ZM) :=
  if x3 = 1 then if x4 = 1 then some (z32 (-x0), M) else some (x1, M) else if x4 = 1 then some (x2, M) else some (0, M)
def Mo_rests_61 (N : Nat) : Nat → Nat → Int → Int → Int → Int → Int → Int → ZM → Option (Int × ZM)
  | 0, _, _, _, _, _, _, _, _ => none
  | n + 1, a0, x1, x2, x3, x4, x5, x6, M => if x6 < 4 then zW (z32 (x6.tdiv 2)) fun x101 => zW (x6.tmod 2) fun x102 => zB (Mo_getsBy N x1 x2 x3 (z32 (1 - x101)) x102 M) fun v103 M103 => zB (Mo_getsBy N x1 x2 x3 x101 x102 M103) fun v104 M104 => if v104 < v103 then zW (z32 (x6 + 1)) fun x105 => Mo_rests_61 N n a0 x1 x2 x3 x4 x5 x105 M104 else zB (Mo_getsBy N x1 x2 x3 (z32 (1 - x102)) x101 M104) fun v106 M106 => zB (Mo_getsBy N x1 x2 x3 x102 x101 M106) fun v107 M107 => if v107 < v106 then zW (z32 (x6 + 1)) fun x108 => Mo_rests_61 N n a0 x1 x2 x3 x4 x5 x108 M107 else if x5 = x4 then some (x6, M107) else zW (z32 (x5 + 1)) fun x109 => zW (z32 (x6 + 1)) fun x110 => Mo_rests_61 N n a0 x1 x2 x3 x4 x109 x110 M107 else if x4 = (-1) then zW (pI M 11 a0 0 0) fun M111 => if x4 = (-1) then some (x5, M111) else some (0, M111) else zW (pI M 11 a0 0 1) fun M112 => if x4 = (-1) then some (x5, M112) else some (0, M112)
def Mo_rests_42 (N : Nat) (a0 : Nat) (x1 : Int) (x2 : Int) (x3 : Int) (x4 : Int) (b0 : Nat) (y1 : Int) (M : ZM) : Option (Int × ZM) :=
  zW (pI M 11 b0 0 y1) fun M101 => if mI M101 11 a0 0 = 1 then some (0, M101) else Mo_rests_61 N N a0 x1 x2 x3 x4 0 0 M101
def Mo_rests (N : Nat) (a0 : Nat) (x1 : Int) (x2 : Int) (x3 : Int) (x4 : Int) (M : ZM) : Option (Int × ZM) :=
  zB (Mo_within N x1 0 9 M) fun v101 M101 => if v101 = 0 then Mo_rests_42 N a0 x1 x2 x3 x4 a0 1 M101 else zB (Mo_within N x2 0 9 M101) fun v102 M102 => if v102 = 0 then Mo_rests_42 N a0 x1 x2 x3 x4 a0 1 M102 else zB (Mo_within N x3 0 9 M102) fun v103 M103 => if v103 = 0 then Mo_rests_42 N a0 x1 x2 x3 x4 a0 1 M103 else if x4 < (-1) then Mo_rests_42 N a0 x1 x2 x3 x4 a0 1 M103 else Mo_rests_42 N a0 x1 x2 x3 x4 a0 0 M103
def Mo_draws (N : Nat) (a0 : Nat) (x1 : Int) (M : ZM) : Option (Int × ZM) :=
  zW (pL M 11 a0 59 ((z64 ((z64 ((mL M 11 a0 59) * 1103515245)) + 12345)).tmod 2147483648)) fun M101 => if x1 = 0 then none else some (z32 ((z64 ((mL M101 11 a0 59).tdiv 65536)).tmod x1), M101)
def Mo_livesStep_98 (N : Nat) (a0 : Nat) (M : ZM) : Option ZM :=
  zB (Mo_passes N a0 M) fun v101 M101 => some M101
def Mo_livesStep_80 (N : Nat) (a0 : Nat) (x1 : Int) (x2 : Int) (M : ZM) : Option ZM :=
  if x2 = 3 then zB (Mo_canMend N a0 x1 M) fun v101 M101 => if v101 = 0 then Mo_livesStep_98 N a0 M101 else zBv (Mo_mends N a0 x1 M101) fun M102 => Mo_livesStep_98 N a0 M102 else Mo_livesStep_98 N a0 M
def Mo_livesStep_61 (N : Nat) (a0 : Nat) (x1 : Int) (x2 : Int) (M : ZM) : Option ZM :=
  if x2 = 2 then zW (pI M 81 a0 2 (z_and (mI M 81 a0 2) (z_xor (z_shl 1 x1) (-1)))) fun M101 => Mo_livesStep_80 N a0 x1 x2 M101 else Mo_livesStep_80 N a0 x1 x2 M
def Mo_livesStep_44 (N : Nat) (a0 : Nat) (x1 : Int) (x2 : Int) (M : ZM) : Option ZM :=
  if x2 = 1 then zW (pI M 81 a0 2 (z_or (mI M 81 a0 2) (z_shl 1 x1))) fun M101 => Mo_livesStep_61 N a0 x1 x2 M101 else Mo_livesStep_61 N a0 x1 x2 M
def Mo_livesStep (N : Nat) (a0 : Nat) (M : ZM) : Option ZM :=
  if 0 < mI M 51 a0 0 then zB (Mo_draws N a0 (mI M 51 a0 0) M) fun v101 M101 => zB (Mo_draws N a0 6 M101) fun v102 M102 => if v102 = 0 then zB (Mo_draws N a0 5 M102) fun v103 M103 => zI ((0 : Int) ≤ z32 (4 + v101) ∧ z32 (4 + v101) < 16) <| zW (pI M103 81 a0 (z32 (4 + v101)).toNat v103) fun M104 => Mo_livesStep_44 N a0 v101 v102 M104 else Mo_livesStep_44 N a0 v101 v102 M102 else Mo_livesStep_98 N a0 M
def Mo_days_61 (N : Nat) : Nat → Nat → Int → Int → Int → ZM → Option (Int × ZM)
  | 0, _, _, _, _, _ => none
  | n + 1, a0, x2, x3, x4, M => if x4 < x2 then zBv (Mo_livesStep N a0 M) fun M101 => zW (z32 (x4 + 1)) fun x102 => Mo_days_61 N n a0 x2 x3 x102 M101 else zW (z32 ((mI M 81 a0 1) - (mI M 82 a0 1))) fun x103 => zW (mI M 81 a0 3) fun x104 => zB (Mo_homeNow N a0 M) fun v105 M105 => zBv (Mo_copies N 82 a0 0 81 a0 0 M105) fun M106 => if x3 = 0 then some (x103, M106) else if x3 = 1 then some (x104, M106) else some (v105, M106)
def Mo_days (N : Nat) (a0 : Nat) (x1 : Int) (x2 : Int) (x3 : Int) (M : ZM) : Option (Int × ZM) :=
  zW (pI M 11 a0 0 0) fun M101 => zB (Mo_within N x1 0 9999 M101) fun v102 M102 => if v102 = 0 then some ((-1000000), M102) else zB (Mo_within N x2 1 99 M102) fun v103 M103 => if v103 = 0 then some ((-1000000), M103) else zB (Mo_within N x3 0 2 M103) fun v104 M104 => if v104 = 0 then some ((-1000000), M104) else zW (pL M104 11 a0 59 x1) fun M105 => zBv (Mo_copies N 81 a0 0 82 a0 0 M105) fun M106 => Mo_days_61 N N a0 x2 x3 0 M106
def Mo_mark_59 (N : Nat) (a0 : Nat) (x1 : Int) (x2 : Int) (x3 : Int) (y0 : Int) (M : ZM) : Option (Int × ZM) :=
  zBv (Mo_laysLines N a0 x3 y0 M) fun M101 => zBv (Mo_laysSeen N a0 x3 y0 M101) fun M102 => if x2 = 0 then zBv (Mo_copies N 81 a0 0 84 a0 (z32 (16 * x1)) M102) fun M103 => some (1, M103) else zBv (Mo_copies N 84 a0 (z32 (16 * x1)) 81 a0 0 M102) fun M104 => zW (pI M104 11 a0 49 0) fun M105 => some (1, M105)
def Mo_mark_47 (N : Nat) (a0 : Nat) (x1 : Int) (x2 : Int) (y0 : Int) (M : ZM) : Option (Int × ZM) :=
  if x2 = 0 then Mo_mark_59 N a0 x1 x2 y0 (z32 (1 + x1)) M else Mo_mark_59 N a0 x1 x2 y0 0 M
def Mo_mark_29 (N : Nat) (a0 : Nat) (x1 : Int) (x2 : Int) (M : ZM) : Option (Int × ZM) :=
  zI ((0 : Int) ≤ x1 ∧ x1 < 4) <| zW (pI M 86 a0 x1.toNat (z_b1 1)) fun M101 => if x2 = 0 then Mo_mark_47 N a0 x1 x2 0 M101 else Mo_mark_47 N a0 x1 x2 (z32 (1 + x1)) M101
def Mo_mark (N : Nat) (a0 : Nat) (x1 : Int) (x2 : Int) (M : ZM) : Option (Int × ZM) :=
  zW (pI M 11 a0 0 0) fun M101 => zB (Mo_within N x1 0 3 M101) fun v102 M102 => if v102 = 0 then some (0, M102) else if x2 = 0 then Mo_mark_29 N a0 x1 x2 M102 else zI ((0 : Int) ≤ x1 ∧ x1 < 4) <| if mI M102 86 a0 x1.toNat = 0 then some (0, M102) else Mo_mark_29 N a0 x1 x2 M102
def Mo_count (N : Nat) (a0 : Nat) (x1 : Int) (M : ZM) : Option (Int × ZM) :=
  zW (pI M 11 a0 0 0) fun M101 => zB (Mo_within N x1 0 12 M101) fun v102 M102 => if v102 = 0 then some ((-1000000), M102) else if x1 < 2 then if x1 = 0 then some (mI M102 51 a0 0, M102) else some (mI M102 81 a0 0, M102) else if x1 < 5 then if x1 = 2 then zB (Mo_rowOf N a0 1 10 M102) fun v103 M103 => some (v103, M103) else if x1 = 3 then zB (Mo_rowOf N a0 2 0 M102) fun v104 M104 => some (v104, M104) else zB (Mo_priceNow N a0 M102) fun v105 M105 => some (v105, M105) else if x1 < 7 then if x1 = 5 then zB (Mo_powersNow N a0 M102) fun v106 M106 => some (v106, M106) else some (mI M102 81 a0 1, M102) else if x1 < 9 then if x1 = 7 then some (z_and (z32 ((z_shl 1 (mI M102 51 a0 0)) - 1)) (z_xor (mI M102 81 a0 2) (-1)), M102) else some (mI M102 81 a0 3, M102) else if x1 < 11 then if x1 = 9 then some (mI M102 74 a0 0, M102) else some (mI M102 78 a0 0, M102) else if x1 = 11 then some (mI M102 11 a0 49, M102) else some (mI M102 11 a0 1, M102)
