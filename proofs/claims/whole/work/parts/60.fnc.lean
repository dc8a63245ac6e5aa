def Nu_add (N : Nat) (a0 : Nat) (x1 : Int) (M : ZM) : Option (Int × ZM) :=
  if mI M 3 a0 1 < (zlN a0 : Int) then zI ((0 : Int) ≤ mI M 3 a0 1 ∧ mI M 3 a0 1 < (zlN a0 : Int)) <| zW (pI M 26 a0 (mI M 3 a0 1).toNat x1) fun M101 => zW (pI M101 3 a0 1 (z32 ((mI M101 3 a0 1) + 1))) fun M102 => some (1, M102) else some (0, M)
def Re_fail (N : Nat) (a0 : Nat) (x1 : Int) (M : ZM) : Option (Int × ZM) :=
  zW (pI M 5 a0 3 (z32 (x1 + (z32 (16 * (mI M 8 0 3)))))) fun M101 => some (0, M101)
def Ta_takeWord_92 (N : Nat) : Nat → Nat → Int → ZM → Option ZM
  | 0, _, _, _ => none
  | n + 1, a0, x3, M => if mI M 8 a0 2 = 1 then zN (zrg (mR M) 3) (if x3 < 30 then zI ((0 : Int) ≤ x3 ∧ x3 < 30) <| if z_lcmp (mKL M 12 x3.toNat 1) (mL M 8 a0 5) = 0 then zI ((0 : Int) ≤ x3 ∧ x3 < 30) <| zW (pR M (zsr (mR M) 3 (some x3.toNat))) fun M102 => zW (z32 (x3 + 1)) fun x103 => Ta_takeWord_92 N n a0 x103 M102 else zW (pR M (zsr (mR M) 3 none)) fun M104 => zW (z32 (x3 + 1)) fun x105 => Ta_takeWord_92 N n a0 x105 M104 else some M) (fun w101 => some M) else some M
def Ta_takeWord_68 (N : Nat) (a0 : Nat) (x1 : Int) (x2 : Int) (M : ZM) : Option ZM :=
  if 8 < z32 (x2 - x1) then zW (pI M 8 a0 2 3) fun M101 => zW (pI M101 8 a0 7 x2) fun M102 => Ta_takeWord_92 N N a0 0 M102 else zW (pI M 8 a0 2 1) fun M103 => zW (pI M103 8 a0 7 x2) fun M104 => Ta_takeWord_92 N N a0 0 M104
def Ta_takeWord_7 (N : Nat) : Nat → Nat → Int → Int → ZM → Option ZM
  | 0, _, _, _, _ => none
  | n + 1, a0, x1, x2, M => if x2 < mI M 8 a0 1 then zI ((0 : Int) ≤ x2 ∧ x2 < ((1000 : Nat) : Int)) <| if mI M 42 a0 x2.toNat < 97 then Ta_takeWord_68 N a0 x1 x2 M else zI ((0 : Int) ≤ x2 ∧ x2 < ((1000 : Nat) : Int)) <| if 122 < mI M 42 a0 x2.toNat then Ta_takeWord_68 N a0 x1 x2 M else zI ((0 : Int) ≤ x2 ∧ x2 < ((1000 : Nat) : Int)) <| zW (pL M 8 a0 5 (z64 ((z64 ((mL M 8 a0 5) * 32)) + (z32 ((z32 ((mI M 42 a0 x2.toNat) - 97)) + 1))))) fun M101 => zW (z32 (x2 + 1)) fun x102 => Ta_takeWord_7 N n a0 x1 x102 M101 else Ta_takeWord_68 N a0 x1 x2 M
def Ta_takeWord (N : Nat) (a0 : Nat) (x1 : Int) (M : ZM) : Option ZM :=
  zW (pL M 8 a0 5 0) fun M101 => Ta_takeWord_7 N N a0 x1 x1 M101
def Ta_isSign (N : Nat) (x0 : Int) (M : ZM) : Option (Int × ZM) :=
  if x0 = 40 then some (1, M) else if x0 = 41 then some (1, M) else if x0 = 60 then some (1, M) else if x0 = 61 then some (1, M) else if x0 = 43 then some (1, M) else if x0 = 45 then some (1, M) else if x0 = 42 then some (1, M) else if x0 = 59 then some (1, M) else some (0, M)
def Ta_takeNumber_64 (N : Nat) (a0 : Nat) (x1 : Int) (x2 : Int) (M : ZM) : Option ZM :=
  if 4 < z32 (x2 - x1) then zW (pI M 8 a0 2 3) fun M101 => zW (pI M101 8 a0 7 x2) fun M102 => some M102 else zW (pI M 8 a0 2 2) fun M103 => zW (pI M103 8 a0 7 x2) fun M104 => some M104
def Ta_takeNumber_7 (N : Nat) : Nat → Nat → Int → Int → ZM → Option ZM
  | 0, _, _, _, _ => none
  | n + 1, a0, x1, x2, M => if x2 < mI M 8 a0 1 then zI ((0 : Int) ≤ x2 ∧ x2 < ((1000 : Nat) : Int)) <| if mI M 42 a0 x2.toNat < 48 then Ta_takeNumber_64 N a0 x1 x2 M else zI ((0 : Int) ≤ x2 ∧ x2 < ((1000 : Nat) : Int)) <| if 57 < mI M 42 a0 x2.toNat then Ta_takeNumber_64 N a0 x1 x2 M else zI ((0 : Int) ≤ x2 ∧ x2 < ((1000 : Nat) : Int)) <| zW (pI M 8 a0 4 (z32 ((z32 ((mI M 8 a0 4) * 10)) + (z32 ((mI M 42 a0 x2.toNat) - 48))))) fun M101 => zW (z32 (x2 + 1)) fun x102 => Ta_takeNumber_7 N n a0 x1 x102 M101 else Ta_takeNumber_64 N a0 x1 x2 M
def Ta_takeNumber (N : Nat) (a0 : Nat) (x1 : Int) (M : ZM) : Option ZM :=
  zW (pI M 8 a0 4 0) fun M101 => Ta_takeNumber_7 N N a0 x1 x1 M101
def Ta_pass_135 (N : Nat) (a0 : Nat) (x1 : Int) (M : ZM) : Option ZM :=
  zI ((0 : Int) ≤ x1 ∧ x1 < ((1000 : Nat) : Int)) <| zB (Ta_isSign N (mI M 42 a0 x1.toNat) M) fun v101 M101 => if v101 = 0 then zW (pI M101 8 a0 2 3) fun M102 => zW (pI M102 8 a0 7 (z32 (x1 + 1))) fun M103 => some M103 else zI ((0 : Int) ≤ x1 ∧ x1 < ((1000 : Nat) : Int)) <| zW (pI M101 8 a0 2 (mI M101 42 a0 x1.toNat)) fun M104 => zW (pI M104 8 a0 7 (z32 (x1 + 1))) fun M105 => some M105
def Ta_pass_105 (N : Nat) (a0 : Nat) (x1 : Int) (M : ZM) : Option ZM :=
  zI ((0 : Int) ≤ x1 ∧ x1 < ((1000 : Nat) : Int)) <| if mI M 42 a0 x1.toNat < 48 then Ta_pass_135 N a0 x1 M else zI ((0 : Int) ≤ x1 ∧ x1 < ((1000 : Nat) : Int)) <| if 57 < mI M 42 a0 x1.toNat then Ta_pass_135 N a0 x1 M else zBv (Ta_takeNumber N a0 x1 M) fun M101 => some M101
def Ta_pass_46 (N : Nat) (a0 : Nat) (x1 : Int) (M : ZM) : Option ZM :=
  zW (pI M 8 a0 3 x1) fun M101 => if x1 < mI M101 8 a0 1 then zI ((0 : Int) ≤ x1 ∧ x1 < ((1000 : Nat) : Int)) <| if mI M101 42 a0 x1.toNat < 97 then Ta_pass_105 N a0 x1 M101 else zI ((0 : Int) ≤ x1 ∧ x1 < ((1000 : Nat) : Int)) <| if 122 < mI M101 42 a0 x1.toNat then Ta_pass_105 N a0 x1 M101 else zBv (Ta_takeWord N a0 x1 M101) fun M102 => some M102 else zW (pI M101 8 a0 2 0) fun M103 => zW (pI M103 8 a0 7 (mI M103 8 a0 1)) fun M104 => some M104
def Ta_pass_10 (N : Nat) : Nat → Nat → Int → ZM → Option ZM
  | 0, _, _, _ => none
  | n + 1, a0, x1, M => if x1 < mI M 8 a0 1 then zI ((0 : Int) ≤ x1 ∧ x1 < ((1000 : Nat) : Int)) <| if mI M 42 a0 x1.toNat = 10 then zW (z32 (x1 + 1)) fun x101 => Ta_pass_10 N n a0 x101 M else zI ((0 : Int) ≤ x1 ∧ x1 < ((1000 : Nat) : Int)) <| if mI M 42 a0 x1.toNat = 32 then zW (z32 (x1 + 1)) fun x102 => Ta_pass_10 N n a0 x102 M else Ta_pass_46 N a0 x1 M else Ta_pass_46 N a0 x1 M
def Ta_pass (N : Nat) (a0 : Nat) (M : ZM) : Option ZM :=
  zW (mI M 8 a0 7) fun x101 => zW (pR M (zsr (mR M) 3 none)) fun M102 => Ta_pass_10 N N a0 x101 M102
def Re_passSign (N : Nat) (a0 : Nat) (x1 : Int) (M : ZM) : Option (Int × ZM) :=
  if mI M 8 0 2 = x1 then zBv (Ta_pass N 0 M) fun M101 => some (1, M101) else zB (Re_fail N a0 1 M) fun v102 M102 => some (z_b1 v102, M102)
def Re_factOf (N : Nat) (o0 : Option Nat) (M : ZM) : Option (Int × ZM) :=
  if o0 = some 26 then some ((-1), M) else if o0 = some 27 then some ((-2), M) else if o0 = some 28 then some ((-3), M) else if o0 = some 29 then some ((-4), M) else some (0, M)
def Re_readPart_b_51 (N : Nat) (cc_readE : Nat → Int → ZM → Option (Int × ZM)) (cc_readPart : Nat → Int → ZM → Option (Int × ZM)) (a0 : Nat) (x1 : Int) (x2 : Int) (o3 : Option Nat) (x4 : Int) (M : ZM) : Option (Int × ZM) :=
  if x1 < 5 then zW (mI M 8 0 4) fun x101 => zBv (Ta_pass N 0 M) fun M102 => if x2 = 40 then zB (cc_readE a0 (z32 (x1 + 1)) M102) fun v103 M103 => if v103 = 0 then some (0, M103) else zB (Re_passSign N a0 41 M103) fun v104 M104 => if v104 = 0 then some (0, M104) else some (1, M104) else if o3 = some 23 then zB (cc_readPart a0 (z32 (x1 + 1)) M102) fun v105 M105 => if v105 = 0 then some (0, M105) else zO (zrg (mR M105) 2) fun p106 => zB (Nu_add N (7 * p106 + 5) (-5) M105) fun v107 M107 => if v107 = 0 then some (0, M107) else some (1, M107) else zO (zrg (mR M102) 2) fun p108 => if x2 = 2 then zB (Nu_add N (7 * p108 + 5) x101 M102) fun v109 M109 => some (z_b1 v109, M109) else zB (Nu_add N (7 * p108 + 5) x4 M102) fun v110 M110 => some (z_b1 v110, M110) else zB (Re_fail N a0 5 M) fun v111 M111 => some (z_b1 v111, M111)
def Re_readPart_b (N : Nat) (cc_readE : Nat → Int → ZM → Option (Int × ZM)) (cc_readPart : Nat → Int → ZM → Option (Int × ZM)) (a0 : Nat) (x1 : Int) (M : ZM) : Option (Int × ZM) :=
  zW (mI M 8 0 2) fun x101 => zW (zrg (mR M) 3) fun o102 => zB (Re_factOf N o102 M) fun v103 M103 => if x101 = 2 then Re_readPart_b_51 N cc_readE cc_readPart a0 x1 x101 o102 v103 M103 else if x101 = 40 then Re_readPart_b_51 N cc_readE cc_readPart a0 x1 x101 o102 v103 M103 else if o102 = some 23 then Re_readPart_b_51 N cc_readE cc_readPart a0 x1 x101 o102 v103 M103 else if v103 = 0 then zB (Re_fail N a0 1 M103) fun v104 M104 => some (z_b1 v104, M104) else Re_readPart_b_51 N cc_readE cc_readPart a0 x1 x101 o102 v103 M103
def Re_readProduct_b_12 (N : Nat) (cc_readPart : Nat → Int → ZM → Option (Int × ZM)) : Nat → Nat → Int → Int → ZM → Option (Int × ZM)
  | 0, _, _, _, _ => none
  | n + 1, a0, x1, x2, M => if x2 < 1000 then if mI M 8 0 2 = 42 then zBv (Ta_pass N 0 M) fun M101 => zB (cc_readPart a0 x1 M101) fun v102 M102 => if v102 = 0 then some (0, M102) else zO (zrg (mR M102) 2) fun p103 => zB (Nu_add N (7 * p103 + 5) (-12) M102) fun v104 M104 => zW (z32 (x2 + 1)) fun x105 => Re_readProduct_b_12 N cc_readPart n a0 x1 x105 M104 else some (1, M) else some (1, M)
def Re_readProduct_b (N : Nat) (cc_readPart : Nat → Int → ZM → Option (Int × ZM)) (a0 : Nat) (x1 : Int) (M : ZM) : Option (Int × ZM) :=
  zB (cc_readPart a0 x1 M) fun v101 M101 => if v101 = 0 then some (0, M101) else Re_readProduct_b_12 N cc_readPart N a0 x1 0 M101
def Re_readSum_b_91 (N : Nat) (cc_readProduct : Nat → Int → ZM → Option (Int × ZM)) (rec12 : Nat → Int → Int → ZM → Option (Int × ZM)) (a0 : Nat) (x1 : Int) (x2 : Int) (b0 : Nat) (y1 : Int) (M : ZM) : Option (Int × ZM) :=
  zB (Nu_add N b0 y1 M) fun v101 M101 => zW (z32 (x2 + 1)) fun x102 => rec12 a0 x1 x102 M101
def Re_readSum_b_43 (N : Nat) (cc_readProduct : Nat → Int → ZM → Option (Int × ZM)) (rec12 : Nat → Int → Int → ZM → Option (Int × ZM)) (a0 : Nat) (x1 : Int) (x2 : Int) (M : ZM) : Option (Int × ZM) :=
  zW (mI M 8 0 2) fun x101 => zBv (Ta_pass N 0 M) fun M102 => zB (cc_readProduct a0 x1 M102) fun v103 M103 => if v103 = 0 then some (0, M103) else zO (zrg (mR M103) 2) fun p104 => if x101 = 43 then Re_readSum_b_91 N cc_readProduct rec12 a0 x1 x2 (7 * p104 + 5) (-10) M103 else Re_readSum_b_91 N cc_readProduct rec12 a0 x1 x2 (7 * p104 + 5) (-11) M103
def Re_readSum_b_12 (N : Nat) (cc_readProduct : Nat → Int → ZM → Option (Int × ZM)) : Nat → Nat → Int → Int → ZM → Option (Int × ZM)
  | 0, _, _, _, _ => none
  | n + 1, a0, x1, x2, M => if x2 < 1000 then if mI M 8 0 2 = 43 then Re_readSum_b_43 N cc_readProduct (Re_readSum_b_12 N cc_readProduct n) a0 x1 x2 M else if mI M 8 0 2 = 45 then Re_readSum_b_43 N cc_readProduct (Re_readSum_b_12 N cc_readProduct n) a0 x1 x2 M else some (1, M) else some (1, M)
def Re_readSum_b (N : Nat) (cc_readProduct : Nat → Int → ZM → Option (Int × ZM)) (a0 : Nat) (x1 : Int) (M : ZM) : Option (Int × ZM) :=
  zB (cc_readProduct a0 x1 M) fun v101 M101 => if v101 = 0 then some (0, M101) else Re_readSum_b_12 N cc_readProduct N a0 x1 0 M101
def Re_readTest_b_72 (N : Nat) (cc_readSum : Nat → Int → ZM → Option (Int × ZM)) (b0 : Nat) (y1 : Int) (M : ZM) : Option (Int × ZM) :=
  zB (Nu_add N b0 y1 M) fun v101 M101 => some (1, M101)
def Re_readTest_b_32 (N : Nat) (cc_readSum : Nat → Int → ZM → Option (Int × ZM)) (a0 : Nat) (x1 : Int) (x2 : Int) (M : ZM) : Option (Int × ZM) :=
  zBv (Ta_pass N 0 M) fun M101 => zB (cc_readSum a0 x1 M101) fun v102 M102 => if v102 = 0 then some (0, M102) else zO (zrg (mR M102) 2) fun p103 => if x2 = 60 then Re_readTest_b_72 N cc_readSum (7 * p103 + 5) (-8) M102 else Re_readTest_b_72 N cc_readSum (7 * p103 + 5) (-9) M102
def Re_readTest_b (N : Nat) (cc_readSum : Nat → Int → ZM → Option (Int × ZM)) (a0 : Nat) (x1 : Int) (M : ZM) : Option (Int × ZM) :=
  zB (cc_readSum a0 x1 M) fun v101 M101 => if v101 = 0 then some (0, M101) else zW (mI M101 8 0 2) fun x102 => if x102 = 60 then Re_readTest_b_32 N cc_readSum a0 x1 x102 M101 else if x102 = 61 then Re_readTest_b_32 N cc_readSum a0 x1 x102 M101 else some (1, M101)
def Re_readE_b_84 (N : Nat) (cc_readTest : Nat → Int → ZM → Option (Int × ZM)) (rec12 : Nat → Int → Int → ZM → Option (Int × ZM)) (a0 : Nat) (x1 : Int) (x2 : Int) (b0 : Nat) (y1 : Int) (M : ZM) : Option (Int × ZM) :=
  zB (Nu_add N b0 y1 M) fun v101 M101 => zW (z32 (x2 + 1)) fun x102 => rec12 a0 x1 x102 M101
def Re_readE_b_43 (N : Nat) (cc_readTest : Nat → Int → ZM → Option (Int × ZM)) (rec12 : Nat → Int → Int → ZM → Option (Int × ZM)) (a0 : Nat) (x1 : Int) (x2 : Int) (o3 : Option Nat) (M : ZM) : Option (Int × ZM) :=
  zBv (Ta_pass N 0 M) fun M101 => zB (cc_readTest a0 x1 M101) fun v102 M102 => if v102 = 0 then some (0, M102) else zO (zrg (mR M102) 2) fun p103 => if o3 = some 24 then Re_readE_b_84 N cc_readTest rec12 a0 x1 x2 (7 * p103 + 5) (-6) M102 else Re_readE_b_84 N cc_readTest rec12 a0 x1 x2 (7 * p103 + 5) (-7) M102
def Re_readE_b_12 (N : Nat) (cc_readTest : Nat → Int → ZM → Option (Int × ZM)) : Nat → Nat → Int → Int → ZM → Option (Int × ZM)
  | 0, _, _, _, _ => none
  | n + 1, a0, x1, x2, M => if x2 < 1000 then zW (zrg (mR M) 3) fun o101 => if o101 = some 24 then Re_readE_b_43 N cc_readTest (Re_readE_b_12 N cc_readTest n) a0 x1 x2 o101 M else if o101 = some 25 then Re_readE_b_43 N cc_readTest (Re_readE_b_12 N cc_readTest n) a0 x1 x2 o101 M else some (1, M) else some (1, M)
def Re_readE_b (N : Nat) (cc_readTest : Nat → Int → ZM → Option (Int × ZM)) (a0 : Nat) (x1 : Int) (M : ZM) : Option (Int × ZM) :=
  zB (cc_readTest a0 x1 M) fun v101 M101 => if v101 = 0 then some (0, M101) else Re_readE_b_12 N cc_readTest N a0 x1 0 M101
def Re_P (N : Nat) : Nat → Nat → Int → ZM → Option (Int × ZM)
  | 0, _, _, _ => none
  | k + 1, a, x, M => Re_readPart_b N (fun a x M => Re_readE_b N (Re_readTest_b N (Re_readSum_b N (Re_readProduct_b N (Re_P N k)))) a x M) (Re_P N k) a x M
def Re_readE (N : Nat) (a0 : Nat) (x1 : Int) (M : ZM) : Option (Int × ZM) := Re_readE_b N (Re_readTest_b N (Re_readSum_b N (Re_readProduct_b N (Re_P N 7)))) a0 x1 M
def Nu_get (N : Nat) (a0 : Nat) (x1 : Int) (M : ZM) : Option (Int × ZM) :=
  if x1 < 0 then some (0, M) else if x1 < mI M 3 a0 1 then zI ((0 : Int) ≤ x1 ∧ x1 < (zlN a0 : Int)) <| some (mI M 26 a0 x1.toNat, M) else some (0, M)
def Pa_turnedBy (N : Nat) (x0 : Int) (M : ZM) : Option (Int × ZM) :=
  some (zabs (z32 (x0 - 2)), M)
def Pa_drift (N : Nat) (x0 : Int) (x1 : Int) (M : ZM) : Option (Int × ZM) :=
  zB (Pa_turnedBy N x0 M) fun v101 M101 => if v101 = 0 then some (0, M101) else if v101 = 1 then if x1 = 1 then some (0, M101) else if x0 < 2 then some ((-1), M101) else some (1, M101) else if x0 < 2 then some ((-1), M101) else some (1, M101)
def Pa_tenths_156 (N : Nat) (y0 : Int) (y1 : Int) (M : ZM) : Option (Int × ZM) :=
  some (zmax (z32 (y0 - y1)) 0, M)
def Pa_tenths_105 (N : Nat) (a0 : Nat) (x1 : Int) (x2 : Int) (x8 : Int) (x9 : Int) (M : ZM) : Option (Int × ZM) :=
  if x8 < 1 then some (0, M) else if 3 < x8 then some (0, M) else zB (Pa_drift N x2 x8 M) fun v101 M101 => if x9 = v101 then zB (Nu_get N (7 * a0 + 4) (z32 (x8 - 1)) M101) fun v102 M102 => zI ((0 : Int) ≤ x1 ∧ x1 < 6) <| if mI M102 28 a0 x1.toNat = 3 then Pa_tenths_156 N v102 1 M102 else Pa_tenths_156 N v102 0 M102 else some (0, M101)
def Pa_tenths_86 (N : Nat) (a0 : Nat) (x1 : Int) (x2 : Int) (x4 : Int) (x8 : Int) (y0 : Int) (M : ZM) : Option (Int × ZM) :=
  if x4 = 2 then zW (z32 (-x8)) fun x101 => Pa_tenths_105 N a0 x1 x2 x101 y0 M else if x4 = 1 then zW (z32 (-x8)) fun x102 => Pa_tenths_105 N a0 x1 x2 x102 y0 M else Pa_tenths_105 N a0 x1 x2 x8 y0 M
def Pa_tenths_58 (N : Nat) (a0 : Nat) (x1 : Int) (x2 : Int) (x4 : Int) (x5 : Int) (x6 : Int) (y0 : Int) (M : ZM) : Option (Int × ZM) :=
  if y0 = 0 then if y0 = 0 then Pa_tenths_86 N a0 x1 x2 x4 x6 x5 M else Pa_tenths_86 N a0 x1 x2 x4 x6 x6 M else if y0 = 0 then Pa_tenths_86 N a0 x1 x2 x4 x5 x5 M else Pa_tenths_86 N a0 x1 x2 x4 x5 x6 M
def Pa_tenths (N : Nat) (a0 : Nat) (x1 : Int) (x2 : Int) (x3 : Int) (x4 : Int) (M : ZM) : Option (Int × ZM) :=
  zI ((0 : Int) ≤ x3 ∧ x3 < 6) <| zI ((0 : Int) ≤ x1 ∧ x1 < 6) <| zW (z32 ((z32 ((mI M 30 a0 x3.toNat).tdiv 6)) - (z32 ((mI M 30 a0 x1.toNat).tdiv 6)))) fun x101 => zI ((0 : Int) ≤ x3 ∧ x3 < 6) <| zI ((0 : Int) ≤ x1 ∧ x1 < 6) <| zW (z32 (((mI M 30 a0 x3.toNat).tmod 6) - ((mI M 30 a0 x1.toNat).tmod 6))) fun x102 => if x4 = 0 then Pa_tenths_58 N a0 x1 x2 x4 x101 x102 1 M else if x4 = 2 then Pa_tenths_58 N a0 x1 x2 x4 x101 x102 1 M else Pa_tenths_58 N a0 x1 x2 x4 x101 x102 0 M
def Pa_takenOf (N : Nat) (a0 : Nat) (x1 : Int) (x2 : Int) (M : ZM) : Option (Int × ZM) :=
  zW (zmin x2 9) fun x101 => zI ((0 : Int) ≤ x1 ∧ x1 < 6) <| if mI M 28 a0 x1.toNat = 1 then some (zmax (z32 (x101 - 1)) 0, M) else some (x101, M)
def St_isOpen (N : Nat) (a0 : Nat) (x1 : Int) (M : ZM) : Option (Int × ZM) :=
  if z_and (z_shr (mI M 7 a0 2) x1) 1 = 0 then some (0, M) else some (1, M)
def St_isBroken (N : Nat) (a0 : Nat) (x1 : Int) (M : ZM) : Option (Int × ZM) :=
  if z_and (z_shr (mI M 7 a0 3) x1) 1 = 0 then some (0, M) else some (1, M)
def St_runs (N : Nat) (a0 : Nat) (x1 : Int) (M : ZM) : Option (Int × ZM) :=
  zB (St_isOpen N a0 x1 M) fun v101 M101 => if v101 = 0 then some (0, M101) else zB (St_isBroken N a0 x1 M101) fun v102 M102 => if v102 = 0 then some (1, M102) else some (0, M102)
def Fl_take_18 (N : Nat) (rec3 : Nat → Nat → Nat → Int → Int → ZM → Option ZM) : Nat → Nat → Nat → Nat → Int → Int → Int → Int → ZM → Option ZM
  | 0, _, _, _, _, _, _, _, _ => none
  | n + 1, a0, a1, a2, x3, x4, x5, x6, M => if x6 < mI M 4 a1 0 then if x6 = x4 then zW (z32 (x6 + 1)) fun x101 => Fl_take_18 N rec3 n a0 a1 a2 x3 x4 x5 x101 M else zB (St_runs N a2 x6 M) fun v102 M102 => if v102 = 0 then zW (z32 (x6 + 1)) fun x103 => Fl_take_18 N rec3 n a0 a1 a2 x3 x4 x5 x103 M102 else zI ((0 : Int) ≤ x6 ∧ x6 < 6) <| zB (Pa_tenths N a1 x6 (mI M102 40 a2 x6.toNat) x4 x3 M102) fun v104 M104 => zW (z32 (x5 + v104)) fun x105 => zW (z32 (x6 + 1)) fun x106 => Fl_take_18 N rec3 n a0 a1 a2 x3 x4 x105 x106 M104 else zB (Pa_takenOf N a1 x4 x5 M) fun v107 M107 => zI ((0 : Int) ≤ x4 ∧ x4 < 6) <| zW (pI M107 20 a0 x4.toNat v107) fun M108 => zW (z32 (x4 + 1)) fun x109 => rec3 a0 a1 a2 x3 x109 M108
def Fl_take_3 (N : Nat) : Nat → Nat → Nat → Nat → Int → Int → ZM → Option ZM
  | 0, _, _, _, _, _, _ => none
  | n + 1, a0, a1, a2, x3, x4, M => if x4 < mI M 4 a1 0 then Fl_take_18 N (Fl_take_3 N n) N a0 a1 a2 x3 x4 0 0 M else some M
def Fl_take (N : Nat) (a0 : Nat) (a1 : Nat) (a2 : Nat) (x3 : Int) (M : ZM) : Option ZM :=
  Fl_take_3 N N a0 a1 a2 x3 0 M
def La_fact (N : Nat) (x0 : Int) (x1 : Int) (x2 : Int) (x3 : Int) (x4 : Int) (M : ZM) : Option (Int × ZM) :=
  if x0 = (-3) then some (x3, M) else if x0 = (-2) then some (x2, M) else if x0 = (-1) then some (x1, M) else some (x4, M)
def La_joined (N : Nat) (x0 : Int) (x1 : Int) (x2 : Int) (M : ZM) : Option (Int × ZM) :=
  if x0 = (-11) then some (z32 (x1 - x2), M) else if x0 = (-10) then some (z32 (x1 + x2), M) else if x0 = (-9) then if x1 = x2 then some (1, M) else some (0, M) else if x0 = (-8) then if x1 < x2 then some (1, M) else some (0, M) else if x0 = (-7) then if x1 = 0 then if x2 = 0 then some (0, M) else some (1, M) else some (1, M) else if x0 = (-6) then if x1 = 0 then some (0, M) else if x2 = 0 then some (0, M) else some (1, M) else some (z32 (x1 * x2), M)
def La_value_6 (N : Nat) : Nat → Nat → Int → Int → Int → Int → Int → Int → ZM → Option (Int × ZM)
  | 0, _, _, _, _, _, _, _, _ => none
  | n + 1, a0, x1, x2, x3, x4, x5, x6, M => if x6 < mI M 3 (7 * a0 + 5) 1 then zB (Nu_get N (7 * a0 + 5) x6 M) fun v101 M101 => if v101 < (-4) then if v101 = (-5) then if x5 < 1 then some (0, M101) else zI ((0 : Int) ≤ z32 (x5 - 1) ∧ z32 (x5 - 1) < 32) <| if mI M101 25 a0 (z32 (x5 - 1)).toNat = 0 then zI ((0 : Int) ≤ z32 (x5 - 1) ∧ z32 (x5 - 1) < 32) <| zW (pI M101 25 a0 (z32 (x5 - 1)).toNat 1) fun M102 => zW (z32 (x6 + 1)) fun x103 => La_value_6 N n a0 x1 x2 x3 x4 x5 x103 M102 else zI ((0 : Int) ≤ z32 (x5 - 1) ∧ z32 (x5 - 1) < 32) <| zW (pI M101 25 a0 (z32 (x5 - 1)).toNat 0) fun M104 => zW (z32 (x6 + 1)) fun x105 => La_value_6 N n a0 x1 x2 x3 x4 x5 x105 M104 else if x5 < 2 then some (0, M101) else zW (z32 (x5 + (-1))) fun x106 => zI ((0 : Int) ≤ z32 (x106 - 1) ∧ z32 (x106 - 1) < 32) <| zI ((0 : Int) ≤ x106 ∧ x106 < 32) <| zB (La_joined N v101 (mI M101 25 a0 (z32 (x106 - 1)).toNat) (mI M101 25 a0 x106.toNat) M101) fun v107 M107 => zI ((0 : Int) ≤ z32 (x106 - 1) ∧ z32 (x106 - 1) < 32) <| zW (pI M107 25 a0 (z32 (x106 - 1)).toNat v107) fun M108 => zW (z32 (x6 + 1)) fun x109 => La_value_6 N n a0 x1 x2 x3 x4 x106 x109 M108 else if x5 < 32 then if v101 < 0 then zB (La_fact N v101 x1 x2 x3 x4 M101) fun v110 M110 => zI ((0 : Int) ≤ x5 ∧ x5 < 32) <| zW (pI M110 25 a0 x5.toNat v110) fun M111 => zW (z32 (x5 + 1)) fun x112 => zW (z32 (x6 + 1)) fun x113 => La_value_6 N n a0 x1 x2 x3 x4 x112 x113 M111 else zI ((0 : Int) ≤ x5 ∧ x5 < 32) <| zW (pI M101 25 a0 x5.toNat v101) fun M114 => zW (z32 (x5 + 1)) fun x115 => zW (z32 (x6 + 1)) fun x116 => La_value_6 N n a0 x1 x2 x3 x4 x115 x116 M114 else some (0, M101) else if 0 < x5 then zI ((0 : Int) ≤ z32 (x5 - 1) ∧ z32 (x5 - 1) < 32) <| some (mI M 25 a0 (z32 (x5 - 1)).toNat, M) else some (0, M)
def La_value (N : Nat) (a0 : Nat) (x1 : Int) (x2 : Int) (x3 : Int) (x4 : Int) (M : ZM) : Option (Int × ZM) :=
  La_value_6 N N a0 x1 x2 x3 x4 0 0 M
def Pa_gives_21 (N : Nat) (a0 : Nat) (x1 : Int) (x2 : Int) (x5 : Int) (y0 : Int) (M : ZM) : Option (Int × ZM) :=
  zB (La_value N a0 x1 x2 x5 y0 M) fun v101 M101 => zW (zmax 0 (zmin v101 99)) fun x102 => if x5 = 0 then some (x102, M101) else if x5 = 1 then some (z32 ((z32 (x102 * 9)).tdiv 10), M101) else some (z32 ((z32 (x102 * 6)).tdiv 10), M101)
def Pa_gives (N : Nat) (a0 : Nat) (x1 : Int) (x2 : Int) (x3 : Int) (x4 : Int) (M : ZM) : Option (Int × ZM) :=
  zB (Pa_turnedBy N x3 M) fun v101 M101 => if x4.tmod 12 < 6 then Pa_gives_21 N a0 x1 x2 v101 0 M101 else Pa_gives_21 N a0 x1 x2 v101 1 M101
def Pa_left (N : Nat) (x0 : Int) (x1 : Int) (M : ZM) : Option (Int × ZM) :=
  some (z32 ((z32 (x0 * (z32 (10 - x1)))).tdiv 10), M)
def Fl_give_83 (N : Nat) (rec8 : Nat → Nat → Nat → Int → Int → ZM → Option ZM) (a0 : Nat) (a1 : Nat) (a2 : Nat) (x3 : Int) (x4 : Int) (b0 : Nat) (y1 : Int) (y2 : Int) (M : ZM) : Option ZM :=
  zI ((0 : Int) ≤ y1 ∧ y1 < 6) <| zW (pI M 22 b0 y1.toNat y2) fun M101 => zI ((0 : Int) ≤ x4 ∧ x4 < 6) <| zW (pI M101 0 a0 5 (z32 ((mI M101 0 a0 5) + (mI M101 22 a0 x4.toNat)))) fun M102 => zW (z32 (x4 + 1)) fun x103 => rec8 a0 a1 a2 x3 x103 M102
def Fl_give_8 (N : Nat) : Nat → Nat → Nat → Nat → Int → Int → ZM → Option ZM
  | 0, _, _, _, _, _, _ => none
  | n + 1, a0, a1, a2, x3, x4, M => if x4 < mI M 4 a1 0 then zI ((0 : Int) ≤ x4 ∧ x4 < 6) <| zB (Pa_left N x3 (mI M 20 a0 x4.toNat) M) fun v101 M101 => zI ((0 : Int) ≤ x4 ∧ x4 < 6) <| zW (pI M101 21 a0 x4.toNat v101) fun M102 => zB (St_runs N a2 x4 M102) fun v103 M103 => if v103 = 0 then Fl_give_83 N (Fl_give_8 N n) a0 a1 a2 x3 x4 a0 x4 0 M103 else zI ((0 : Int) ≤ x4 ∧ x4 < 6) <| zI ((0 : Int) ≤ x4 ∧ x4 < 6) <| zI ((0 : Int) ≤ x4 ∧ x4 < 6) <| zB (Pa_gives N a1 (mI M103 21 a0 x4.toNat) (mI M103 41 a2 x4.toNat) (mI M103 40 a2 x4.toNat) (mI M103 7 a2 4) M103) fun v104 M104 => Fl_give_83 N (Fl_give_8 N n) a0 a1 a2 x3 x4 a0 x4 v104 M104 else some M
def Fl_give (N : Nat) (a0 : Nat) (a1 : Nat) (a2 : Nat) (x3 : Int) (M : ZM) : Option ZM :=
  zW (pI M 0 a0 5 0) fun M101 => Fl_give_8 N N a0 a1 a2 x3 0 M101
def Ar_fill_5 (N : Nat) : Nat → Nat → Nat → Int → Int → Int → ZM → Option ZM
  | 0, _, _, _, _, _, _ => none
  | n + 1, t0, a0, x1, x2, x3, M => if x2 < x3 then zI ((0 : Int) ≤ x2 ∧ x2 < (mN M t0 a0 : Int)) <| zW (pI M t0 a0 x2.toNat x1) fun M101 => zW (z32 (x2 + 1)) fun x102 => Ar_fill_5 N n t0 a0 x1 x102 x3 M101 else some M
def Ar_fill (N : Nat) (t0 : Nat) (i0 : Nat) (x1 : Int) (M : ZM) : Option ZM :=
  zW ((mN M t0 i0 : Int)) fun x101 => Ar_fill_5 N N t0 i0 x1 0 x101 M
def Fl_bring_89 (N : Nat) (rec31 : Nat → Nat → Int → Int → ZM → Option ZM) (a0 : Nat) (a1 : Nat) (x2 : Int) (x3 : Int) (x4 : Int) (x5 : Int) (y0 : Int) (M : ZM) : Option ZM :=
  zI ((0 : Int) ≤ x4 ∧ x4 < 6) <| zW (pI M 23 a0 x4.toNat y0) fun M101 => if x5 = 6 then zW (pI M101 0 a0 6 (z32 ((mI M101 0 a0 6) + y0))) fun M102 => zW (z32 (x3 + (-1))) fun x103 => rec31 a0 a1 x2 x103 M102 else if x5 < 0 then zW (z32 (x3 + (-1))) fun x104 => rec31 a0 a1 x2 x104 M101 else if x5 < 6 then zI ((0 : Int) ≤ x5 ∧ x5 < 6) <| zI ((0 : Int) ≤ x5 ∧ x5 < 6) <| zW (pI M101 24 a0 x5.toNat (z32 ((mI M101 24 a0 x5.toNat) + y0))) fun M105 => zW (z32 (x3 + (-1))) fun x106 => rec31 a0 a1 x2 x106 M105 else zW (z32 (x3 + (-1))) fun x107 => rec31 a0 a1 x2 x107 M101
def Fl_bring_31 (N : Nat) : Nat → Nat → Nat → Int → Int → ZM → Option ZM
  | 0, _, _, _, _, _ => none
  | n + 1, a0, a1, x2, x3, M => if x3 < 0 then some M else zB (Nu_get N (7 * a1) x3 M) fun v101 M101 => zI ((0 : Int) ≤ v101 ∧ v101 < 6) <| zW (mI M101 31 a1 v101.toNat) fun x102 => if v101 = x2 then Fl_bring_89 N (Fl_bring_31 N n) a0 a1 x2 x3 v101 x102 0 M101 else zI ((0 : Int) ≤ v101 ∧ v101 < 6) <| zI ((0 : Int) ≤ v101 ∧ v101 < 6) <| zI ((0 : Int) ≤ v101 ∧ v101 < 6) <| Fl_bring_89 N (Fl_bring_31 N n) a0 a1 x2 x3 v101 x102 (zmin (z32 ((mI M101 22 a0 v101.toNat) + (mI M101 24 a0 v101.toNat))) (mI M101 32 a1 v101.toNat)) M101
def Fl_bring (N : Nat) (a0 : Nat) (a1 : Nat) (x2 : Int) (M : ZM) : Option ZM :=
  zBv (Ar_fill N 24 a0 0 M) fun M101 => zBv (Ar_fill N 23 a0 0 M101) fun M102 => zW (pI M102 0 a0 6 0) fun M103 => zW (z32 ((mI M103 3 (7 * a1) 1) - 1)) fun x104 => Fl_bring_31 N N a0 a1 x2 x104 M103
def Nu_round (N : Nat) (a0 : Nat) (x1 : Int) (M : ZM) : Option (Int × ZM) :=
  if 0 < mI M 3 a0 1 then if x1 < 0 then some (0, M) else if mI M 3 a0 1 = 0 then none else zI ((0 : Int) ≤ x1.tmod (mI M 3 a0 1) ∧ x1.tmod (mI M 3 a0 1) < (zlN a0 : Int)) <| some (mI M 26 a0 (x1.tmod (mI M 3 a0 1)).toNat, M) else some (0, M)
def Fl_measure (N : Nat) (a0 : Nat) (a1 : Nat) (a2 : Nat) (M : ZM) : Option ZM :=
  zB (Nu_round N (7 * a1 + 2) (mI M 7 a2 4) M) fun v101 M101 => zBv (Fl_take N a0 a1 a2 v101 M101) fun M102 => zB (Nu_round N (7 * a1 + 1) (mI M102 7 a2 4) M102) fun v103 M103 => zBv (Fl_give N a0 a1 a2 v103 M103) fun M104 => zBv (Fl_bring N a0 a1 (-1) M104) fun M105 => some M105
def Pa_priceAt (N : Nat) (a0 : Nat) (x1 : Int) (M : ZM) : Option (Int × ZM) :=
  zB (Nu_round N (7 * a0 + 3) x1 M) fun v101 M101 => some (z32 (v101 - 10), M101)
def Fl_sold (N : Nat) (a0 : Nat) (a1 : Nat) (a2 : Nat) (M : ZM) : Option (Int × ZM) :=
  zBv (Fl_measure N a0 a1 a2 M) fun M101 => zB (Pa_priceAt N a1 (mI M101 7 a2 4) M101) fun v102 M102 => some (z32 ((mI M101 0 a0 6) * v102), M102)
def St_wear_47 (N : Nat) (a0 : Nat) (a1 : Nat) (x2 : Int) (b0 : Nat) (y1 : Int) (y2 : Int) (y3 : Int) (M : ZM) : Option ZM :=
  zI ((0 : Int) ≤ y1 ∧ y1 < 6) <| zW (pI M 41 b0 y1.toNat (z32 (y2 + y3))) fun M101 => zI ((0 : Int) ≤ x2 ∧ x2 < 6) <| if mI M101 41 a0 x2.toNat < mI M101 4 a1 13 then some M101 else zW (pI M101 7 a0 3 (z_or (mI M101 7 a0 3) (z_shl 1 x2))) fun M102 => some M102
def St_wear_18 (N : Nat) (a0 : Nat) (a1 : Nat) (x2 : Int) (y0 : Int) (y1 : Int) (M : ZM) : Option ZM :=
  zW (z32 (y0 + y1)) fun x101 => zI ((0 : Int) ≤ x2 ∧ x2 < 6) <| zI ((0 : Int) ≤ x2 ∧ x2 < 6) <| if mI M 28 a1 x2.toNat = 2 then St_wear_47 N a0 a1 x2 a0 x2 (mI M 41 a0 x2.toNat) (z32 (2 * x101)) M else St_wear_47 N a0 a1 x2 a0 x2 (mI M 41 a0 x2.toNat) x101 M
def St_wear (N : Nat) (a0 : Nat) (a1 : Nat) (x2 : Int) (x3 : Int) (M : ZM) : Option ZM :=
  zI ((0 : Int) ≤ x2 ∧ x2 < 6) <| zB (Pa_turnedBy N (mI M 40 a0 x2.toNat) M) fun v101 M101 => if 0 < x3 then St_wear_18 N a0 a1 x2 v101 1 M101 else St_wear_18 N a0 a1 x2 v101 0 M101
def Fl_runStep_23 (N : Nat) : Nat → Nat → Nat → Nat → Int → Int → ZM → Option (Int × ZM)
  | 0, _, _, _, _, _, _ => none
  | n + 1, a0, a1, a2, x3, x4, M => if x4 < mI M 4 a1 0 then zB (St_runs N a2 x4 M) fun v101 M101 => if v101 = 0 then zW (z32 (x4 + 1)) fun x102 => Fl_runStep_23 N n a0 a1 a2 x3 x102 M101 else zI ((0 : Int) ≤ x4 ∧ x4 < 6) <| zBv (St_wear N a2 a1 x4 (mI M101 20 a0 x4.toNat) M101) fun M103 => zW (z32 (x4 + 1)) fun x104 => Fl_runStep_23 N n a0 a1 a2 x3 x104 M103 else zW (pI M 7 a2 5 (z32 ((mI M 7 a2 5) + x3))) fun M105 => zW (pI M105 7 a2 4 (z32 ((mI M105 7 a2 4) + 1))) fun M106 => some (x3, M106)
def Fl_runStep (N : Nat) (a0 : Nat) (a1 : Nat) (a2 : Nat) (M : ZM) : Option (Int × ZM) :=
  zBv (Fl_measure N a0 a1 a2 M) fun M101 => zB (Pa_priceAt N a1 (mI M101 7 a2 4) M101) fun v102 M102 => zW (z32 ((mI M101 0 a0 6) * v102)) fun x103 => Fl_runStep_23 N N a0 a1 a2 x103 0 M102
def Nu_copy (N : Nat) (a0 : Nat) (a1 : Nat) (M : ZM) : Option ZM :=
  zW (pI M 3 a0 1 (zmin (mI M 3 a1 1) (zlN a0 : Int))) fun M101 => zI ((0 : Int) ≤ 0 ∧ (0 : Int) ≤ 0 ∧ (0 : Int) ≤ mI M101 3 a0 1 ∧ (0 : Int) + (mI M101 3 a0 1) ≤ (zlN a1 : Int) ∧ (0 : Int) + (mI M101 3 a0 1) ≤ (zlN a0 : Int)) <| zW (pCp M101 26 a1 0 26 a0 0 (mI M101 3 a0 1).toNat) fun M102 => some M102
def St_copy (N : Nat) (a0 : Nat) (a1 : Nat) (M : ZM) : Option ZM :=
  zW (pCp M 40 a1 0 40 a0 0 6) fun M101 => zW (pCp M101 41 a1 0 41 a0 0 6) fun M102 => zW (pI M102 7 a0 2 (mI M102 7 a1 2)) fun M103 => zW (pI M103 7 a0 3 (mI M103 7 a1 3)) fun M104 => zW (pI M104 7 a0 4 (mI M104 7 a1 4)) fun M105 => zW (pI M105 7 a0 5 (mI M105 7 a1 5)) fun M106 => some M106
def Mk_lay (N : Nat) (a0 : Nat) (a1 : Nat) (a2 : Nat) (a3 : Nat) (M : ZM) : Option ZM :=
  zBv (St_copy N (18 + a0) a1 M) fun M101 => zBv (Nu_copy N (15 + 2 * a0) a2 M101) fun M102 => zBv (Nu_copy N (16 + 2 * a0) a3 M102) fun M103 => zW (pI M103 2 a0 3 1) fun M104 => some M104
def Pa_only (N : Nat) (a0 : Nat) (x1 : Int) (M : ZM) : Option ZM :=
  zW (pI M 3 a0 1 0) fun M101 => zB (Nu_add N a0 x1 M101) fun v102 M102 => some M102
def Pa_clear (N : Nat) (a0 : Nat) (M : ZM) : Option ZM :=
  zW (pI M 4 a0 0 0) fun M101 => zW (pI M101 3 (7 * a0) 1 0) fun M102 => zBv (Pa_only N (7 * a0 + 1) 10 M102) fun M103 => zBv (Pa_only N (7 * a0 + 2) 0 M103) fun M104 => zBv (Pa_only N (7 * a0 + 3) 10 M104) fun M105 => zBv (Pa_only N (7 * a0 + 4) 5 M105) fun M106 => zB (Nu_add N (7 * a0 + 4) 3 M106) fun v107 M107 => zB (Nu_add N (7 * a0 + 4) 1 M107) fun v108 M108 => zBv (Pa_only N (7 * a0 + 5) (-1) M108) fun M109 => zW (pI M109 4 a0 13 20) fun M110 => zW (pI M110 4 a0 14 6) fun M111 => some M111
def Pa_addTurbine (N : Nat) (a0 : Nat) (x1 : Int) (x2 : Int) (x3 : Int) (x4 : Int) (M : ZM) : Option ZM :=
  if mI M 4 a0 0 < 6 then zI ((0 : Int) ≤ mI M 4 a0 0 ∧ mI M 4 a0 0 < 6) <| zW (pL M 27 a0 (mI M 4 a0 0).toNat x1) fun M101 => zI ((0 : Int) ≤ mI M101 4 a0 0 ∧ mI M101 4 a0 0 < 6) <| zW (pI M101 28 a0 (mI M101 4 a0 0).toNat x2) fun M102 => zI ((0 : Int) ≤ mI M102 4 a0 0 ∧ mI M102 4 a0 0 < 6) <| zW (pI M102 29 a0 (mI M102 4 a0 0).toNat x3) fun M103 => zI ((0 : Int) ≤ mI M103 4 a0 0 ∧ mI M103 4 a0 0 < 6) <| zW (pI M103 30 a0 (mI M103 4 a0 0).toNat x4) fun M104 => zI ((0 : Int) ≤ mI M104 4 a0 0 ∧ mI M104 4 a0 0 < 6) <| zW (pI M104 31 a0 (mI M104 4 a0 0).toNat (-1)) fun M105 => zI ((0 : Int) ≤ mI M105 4 a0 0 ∧ mI M105 4 a0 0 < 6) <| zW (pI M105 32 a0 (mI M105 4 a0 0).toNat 0) fun M106 => zW (pI M106 4 a0 0 (z32 ((mI M106 4 a0 0) + 1))) fun M107 => some M107 else some M
def Pa_byName_2 (N : Nat) : Nat → Nat → Int → Int → ZM → Option (Int × ZM)
  | 0, _, _, _, _ => none
  | n + 1, a0, x1, x3, M => if x3 < mI M 4 a0 0 then zI ((0 : Int) ≤ x3 ∧ x3 < 6) <| if z_lcmp (mL M 27 a0 x3.toNat) x1 = 0 then some (x3, M) else zW (z32 (x3 + 1)) fun x101 => Pa_byName_2 N n a0 x1 x101 M else some ((-1), M)
def Pa_byName (N : Nat) (a0 : Nat) (x1 : Int) (M : ZM) : Option (Int × ZM) :=
  Pa_byName_2 N N a0 x1 0 M
def Pa_isTaken_2 (N : Nat) : Nat → Nat → Int → Int → ZM → Option (Int × ZM)
  | 0, _, _, _, _ => none
  | n + 1, a0, x1, x2, M => if x2 < mI M 4 a0 0 then zI ((0 : Int) ≤ x2 ∧ x2 < 6) <| if mI M 30 a0 x2.toNat = x1 then some (1, M) else zW (z32 (x2 + 1)) fun x101 => Pa_isTaken_2 N n a0 x1 x101 M else some (0, M)
def Pa_isTaken (N : Nat) (a0 : Nat) (x1 : Int) (M : ZM) : Option (Int × ZM) :=
  Pa_isTaken_2 N N a0 x1 0 M
def Pa_isSlack (N : Nat) (a0 : Nat) (x1 : Int) (M : ZM) : Option (Int × ZM) :=
  if 0 < mI M 4 a0 14 then if mI M 4 a0 14 = 0 then none else if x1.tmod (mI M 4 a0 14) = 0 then some (1, M) else some (0, M) else some (0, M)
def Re_passWord (N : Nat) (a0 : Nat) (o1 : Option Nat) (M : ZM) : Option (Int × ZM) :=
  if zrg (mR M) 3 = o1 then zBv (Ta_pass N 0 M) fun M101 => some (1, M101) else zB (Re_fail N a0 1 M) fun v102 M102 => some (z_b1 v102, M102)
def Re_isNumber_39 (N : Nat) (a0 : Nat) (M : ZM) : Option (Int × ZM) :=
  zB (Re_fail N a0 4 M) fun v101 M101 => if v101 = 0 then some (0, M101) else some (1, M101)
def Re_isNumber (N : Nat) (a0 : Nat) (x1 : Int) (x2 : Int) (M : ZM) : Option (Int × ZM) :=
  if mI M 8 0 2 = 2 then if mI M 8 0 4 < x1 then Re_isNumber_39 N a0 M else if x2 < mI M 8 0 4 then Re_isNumber_39 N a0 M else some (1, M) else zB (Re_fail N a0 1 M) fun v101 M101 => some (z_b1 v101, M101)
def Re_passNumber (N : Nat) (a0 : Nat) (x1 : Int) (x2 : Int) (M : ZM) : Option (Int × ZM) :=
  zB (Re_isNumber N a0 x1 x2 M) fun v101 M101 => if v101 = 0 then some (0, M101) else zW (pI M101 5 a0 4 (mI M101 8 0 4)) fun M102 => zBv (Ta_pass N 0 M102) fun M103 => some (1, M103)
def Re_isName (N : Nat) (a0 : Nat) (M : ZM) : Option (Int × ZM) :=
  zW (zrg (mR M) 3) fun o101 => if mI M 8 0 2 = 1 then zN (o101) (some (1, M)) (fun w102 => if mKI M 12 w102 0 = 0 then some (0, M) else some (1, M)) else some (0, M)
def Re_kindOf (N : Nat) (o0 : Option Nat) (M : ZM) : Option (Int × ZM) :=
  if o0 = some 19 then some (0, M) else if o0 = some 20 then some (1, M) else if o0 = some 21 then some (2, M) else if o0 = some 22 then some (3, M) else some ((-1), M)
def Re_readTurbine (N : Nat) (a0 : Nat) (M : ZM) : Option (Int × ZM) :=
  zO (zrg (mR M) 2) fun p101 => if mI M 4 p101 0 < 6 then zBv (Ta_pass N 0 M) fun M102 => zB (Re_isName N a0 M102) fun v103 M103 => if v103 = 0 then zB (Re_fail N a0 1 M103) fun v104 M104 => some (z_b1 v104, M104) else zO (zrg (mR M103) 2) fun p105 => zB (Pa_byName N p105 (mL M103 8 0 5) M103) fun v106 M106 => if v106 = (-1) then zW (mL M106 8 0 5) fun x107 => zBv (Ta_pass N 0 M106) fun M108 => zB (Re_kindOf N (zrg (mR M108) 3) M108) fun v109 M109 => if v109 = (-1) then zB (Re_fail N a0 1 M109) fun v110 M110 => some (z_b1 v110, M110) else zBv (Ta_pass N 0 M109) fun M111 => zB (Re_passWord N a0 (some 1) M111) fun v112 M112 => if v112 = 0 then some (0, M112) else zB (Re_passNumber N a0 1 2 M112) fun v113 M113 => if v113 = 0 then some (0, M113) else zW (mI M113 5 a0 4) fun x114 => zB (Re_passWord N a0 (some 2) M113) fun v115 M115 => if v115 = 0 then some (0, M115) else zB (Re_isNumber N a0 0 35 M115) fun v116 M116 => if v116 = 0 then some (0, M116) else zW (mI M116 8 0 4) fun x117 => zO (zrg (mR M116) 2) fun p118 => zB (Pa_isTaken N p118 x117 M116) fun v119 M119 => if v119 = 0 then zBv (Ta_pass N 0 M119) fun M120 => zO (zrg (mR M120) 2) fun p121 => zBv (Pa_addTurbine N p121 x107 v109 x114 x117 M120) fun M122 => zB (Re_passSign N a0 59 M122) fun v123 M123 => some (z_b1 v123, M123) else zB (Re_fail N a0 3 M119) fun v124 M124 => some (z_b1 v124, M124) else zB (Re_fail N a0 3 M106) fun v125 M125 => some (z_b1 v125, M125) else zB (Re_fail N a0 5 M) fun v126 M126 => some (z_b1 v126, M126)
def Re_isTurbine (N : Nat) (a0 : Nat) (M : ZM) : Option (Int × ZM) :=
  zB (Re_isName N a0 M) fun v101 M101 => if v101 = 0 then zB (Re_fail N a0 1 M101) fun v102 M102 => some (z_b1 v102, M102) else zO (zrg (mR M101) 2) fun p103 => zB (Pa_byName N p103 (mL M101 8 0 5) M101) fun v104 M104 => zW (pI M104 5 a0 5 v104) fun M105 => if mI M105 5 a0 5 = (-1) then zB (Re_fail N a0 2 M105) fun v106 M106 => if v106 = 0 then some (0, M106) else some (1, M106) else some (1, M105)
def Re_readGoal_28 (N : Nat) (a0 : Nat) (o1 : Option Nat) (M : ZM) : Option (Int × ZM) :=
  zBv (Ta_pass N 0 M) fun M101 => if o1 = some 5 then zW (pI M101 5 a0 5 6) fun M102 => some (1, M102) else zB (Re_isTurbine N a0 M101) fun v103 M103 => if v103 = 0 then some (0, M103) else zO (zrg (mR M103) 2) fun p104 => zI ((0 : Int) ≤ mI M103 5 a0 5 ∧ mI M103 5 a0 5 < 6) <| if mI M103 31 p104 (mI M103 5 a0 5).toNat = (-1) then zB (Re_fail N a0 2 M103) fun v105 M105 => some (z_b1 v105, M105) else zBv (Ta_pass N 0 M103) fun M106 => some (1, M106)
def Re_readGoal (N : Nat) (a0 : Nat) (M : ZM) : Option (Int × ZM) :=
  zW (zrg (mR M) 3) fun o101 => if o101 = some 5 then Re_readGoal_28 N a0 o101 M else if o101 = some 4 then Re_readGoal_28 N a0 o101 M else zB (Re_fail N a0 1 M) fun v102 M102 => some (z_b1 v102, M102)
def Re_readCable (N : Nat) (a0 : Nat) (M : ZM) : Option (Int × ZM) :=
  zBv (Ta_pass N 0 M) fun M101 => zB (Re_isTurbine N a0 M101) fun v102 M102 => if v102 = 0 then some (0, M102) else zW (mI M102 5 a0 5) fun x103 => zO (zrg (mR M102) 2) fun p104 => zI ((0 : Int) ≤ x103 ∧ x103 < 6) <| if mI M102 31 p104 x103.toNat = (-1) then zBv (Ta_pass N 0 M102) fun M105 => zB (Re_readGoal N a0 M105) fun v106 M106 => if v106 = 0 then some (0, M106) else zB (Re_passWord N a0 (some 6) M106) fun v107 M107 => if v107 = 0 then some (0, M107) else zW (mI M107 5 a0 5) fun x108 => zB (Re_passNumber N a0 1 200 M107) fun v109 M109 => if v109 = 0 then some (0, M109) else zO (zrg (mR M109) 2) fun p110 => zI ((0 : Int) ≤ x103 ∧ x103 < 6) <| zW (pI M109 31 p110 x103.toNat x108) fun M111 => zI ((0 : Int) ≤ x103 ∧ x103 < 6) <| zW (pI M111 32 p110 x103.toNat (mI M111 5 a0 4)) fun M112 => zB (Nu_add N (7 * p110) x103 M112) fun v113 M113 => zB (Re_passSign N a0 59 M113) fun v114 M114 => some (z_b1 v114, M114) else zB (Re_fail N a0 3 M102) fun v115 M115 => some (z_b1 v115, M115)
def Re_readList_29 (N : Nat) (rec7 : Nat → Nat → Int → Int → ZM → Option (Int × ZM)) (a0 : Nat) (a1 : Nat) (x2 : Int) (x3 : Int) (M : ZM) : Option (Int × ZM) :=
  zB (Re_isNumber N a0 0 x2 M) fun v101 M101 => if v101 = 0 then some (0, M101) else zB (Nu_add N a1 (mI M101 8 0 4) M101) fun v102 M102 => if v102 = 0 then zB (Re_fail N a0 5 M102) fun v103 M103 => some (z_b1 v103, M103) else zBv (Ta_pass N 0 M102) fun M104 => zW (z32 (x3 + 1)) fun x105 => rec7 a0 a1 x2 x105 M104
def Re_readList_7 (N : Nat) : Nat → Nat → Nat → Int → Int → ZM → Option (Int × ZM)
  | 0, _, _, _, _, _ => none
  | n + 1, a0, a1, x2, x3, M => if x3 < 1000 then if x3 = 0 then Re_readList_29 N (Re_readList_7 N n) a0 a1 x2 x3 M else if mI M 8 0 2 = 2 then Re_readList_29 N (Re_readList_7 N n) a0 a1 x2 x3 M else some (1, M) else some (1, M)
def Re_readList (N : Nat) (a0 : Nat) (a1 : Nat) (x2 : Int) (M : ZM) : Option (Int × ZM) :=
  zW (pI M 3 a1 1 0) fun M101 => Re_readList_7 N N a0 a1 x2 0 M101
def Re_readWakes_13 (N : Nat) : Nat → Nat → Int → ZM → Option (Int × ZM)
  | 0, _, _, _ => none
  | n + 1, a0, x1, M => if x1 < 3 then zB (Re_passNumber N a0 0 9 M) fun v101 M101 => if v101 = 0 then some (0, M101) else zO (zrg (mR M101) 2) fun p102 => zB (Nu_add N (7 * p102 + 4) (mI M101 5 a0 4) M101) fun v103 M103 => zW (z32 (x1 + 1)) fun x104 => Re_readWakes_13 N n a0 x104 M103 else some (1, M)
def Re_readWakes (N : Nat) (a0 : Nat) (M : ZM) : Option (Int × ZM) :=
  zO (zrg (mR M) 2) fun p101 => zW (pI M 3 (7 * p101 + 4) 1 0) fun M102 => Re_readWakes_13 N N a0 0 M102
def Re_readWears (N : Nat) (a0 : Nat) (M : ZM) : Option (Int × ZM) :=
  zB (Re_passNumber N a0 1 99 M) fun v101 M101 => if v101 = 0 then some (0, M101) else zO (zrg (mR M101) 2) fun p102 => zW (pI M101 4 p102 13 (mI M101 5 a0 4)) fun M103 => some (1, M103)
def Re_readSlack (N : Nat) (a0 : Nat) (M : ZM) : Option (Int × ZM) :=
  zB (Re_passNumber N a0 1 12 M) fun v101 M101 => if v101 = 0 then some (0, M101) else zO (zrg (mR M101) 2) fun p102 => zW (pI M101 4 p102 14 (mI M101 5 a0 4)) fun M103 => some (1, M103)
def Re_once_45 (N : Nat) (a0 : Nat) (M : ZM) : Option (Int × ZM) :=
  zBv (Ta_pass N 0 M) fun M101 => some (1, M101)
def Re_once (N : Nat) (a0 : Nat) (x1 : Int) (M : ZM) : Option (Int × ZM) :=
  if z_and (mI M 5 a0 6) x1 = 0 then zW (pI M 5 a0 6 (z_or (mI M 5 a0 6) x1)) fun M101 => if x1 = 64 then zO (zrg (mR M101) 2) fun p102 => zW (pI M101 3 (7 * p102 + 5) 1 0) fun M103 => Re_once_45 N a0 M103 else Re_once_45 N a0 M101 else zB (Re_fail N a0 3 M) fun v104 M104 => some (z_b1 v104, M104)
def Re_readParkLine (N : Nat) (a0 : Nat) (M : ZM) : Option (Int × ZM) :=
  zW (zrg (mR M) 3) fun o101 => zN (o101) (zB (Re_fail N a0 1 M) fun v103 M103 => some (z_b1 v103, M103)) (fun w102 => zI ((0 : Int) ≤ mKI M 12 w102 2 ∧ mKI M 12 w102 2 < 30) <| if mKI M 101 0 (mKI M 12 w102 2).toNat = 1 then zB (Re_readTurbine N a0 M) fun v104 M104 => some (z_b1 v104, M104) else if mKI M 101 0 (mKI M 12 w102 2).toNat = 2 then zB (Re_readCable N a0 M) fun v105 M105 => some (z_b1 v105, M105) else if mKI M 101 0 (mKI M 12 w102 2).toNat = 3 then zB (Re_once N a0 1 M) fun v106 M106 => if v106 = 0 then some (0, M106) else zO (zrg (mR M106) 2) fun p107 => zB (Re_readList N a0 (7 * p107 + 1) 30 M106) fun v108 M108 => if v108 = 0 then some (0, M108) else zB (Re_passSign N a0 59 M108) fun v109 M109 => if v109 = 0 then some (0, M109) else some (1, M109) else if mKI M 101 0 (mKI M 12 w102 2).toNat = 4 then zB (Re_once N a0 2 M) fun v110 M110 => if v110 = 0 then some (0, M110) else zO (zrg (mR M110) 2) fun p111 => zB (Re_readList N a0 (7 * p111 + 2) 3 M110) fun v112 M112 => if v112 = 0 then some (0, M112) else zB (Re_passSign N a0 59 M112) fun v113 M113 => if v113 = 0 then some (0, M113) else some (1, M113) else if mKI M 101 0 (mKI M 12 w102 2).toNat = 5 then zB (Re_once N a0 4 M) fun v114 M114 => if v114 = 0 then some (0, M114) else zO (zrg (mR M114) 2) fun p115 => zB (Re_readList N a0 (7 * p115 + 3) 20 M114) fun v116 M116 => if v116 = 0 then some (0, M116) else zB (Re_passSign N a0 59 M116) fun v117 M117 => if v117 = 0 then some (0, M117) else some (1, M117) else if mKI M 101 0 (mKI M 12 w102 2).toNat = 6 then zB (Re_once N a0 8 M) fun v118 M118 => if v118 = 0 then some (0, M118) else zB (Re_readWakes N a0 M118) fun v119 M119 => if v119 = 0 then some (0, M119) else zB (Re_passSign N a0 59 M119) fun v120 M120 => if v120 = 0 then some (0, M120) else some (1, M120) else if mKI M 101 0 (mKI M 12 w102 2).toNat = 7 then zB (Re_once N a0 16 M) fun v121 M121 => if v121 = 0 then some (0, M121) else zB (Re_readWears N a0 M121) fun v122 M122 => if v122 = 0 then some (0, M122) else zB (Re_passSign N a0 59 M122) fun v123 M123 => if v123 = 0 then some (0, M123) else some (1, M123) else if mKI M 101 0 (mKI M 12 w102 2).toNat = 8 then zB (Re_once N a0 32 M) fun v124 M124 => if v124 = 0 then some (0, M124) else zB (Re_readSlack N a0 M124) fun v125 M125 => if v125 = 0 then some (0, M125) else zB (Re_passSign N a0 59 M125) fun v126 M126 => if v126 = 0 then some (0, M126) else some (1, M126) else if mKI M 101 0 (mKI M 12 w102 2).toNat = 9 then zB (Re_once N a0 64 M) fun v127 M127 => if v127 = 0 then some (0, M127) else zB (Re_readE N a0 0 M127) fun v128 M128 => if v128 = 0 then some (0, M128) else zB (Re_passSign N a0 59 M128) fun v129 M129 => if v129 = 0 then some (0, M129) else some (1, M129) else zB (Re_fail N a0 1 M) fun v130 M130 => some (z_b1 v130, M130))
def Ta_clear (N : Nat) (a0 : Nat) (M : ZM) : Option ZM :=
  zW (pI M 8 a0 1 0) fun M101 => some M101
def Ta_start (N : Nat) (a0 : Nat) (M : ZM) : Option ZM :=
  zW (pI M 8 a0 7 0) fun M101 => zBv (Ta_pass N a0 M101) fun M102 => some M102
def Re_readPark_63 (N : Nat) (a0 : Nat) (M : ZM) : Option (Int × ZM) :=
  zBv (Ta_clear N 0 M) fun M101 => some (mI M101 5 a0 3, M101)
def Re_readPark_28 (N : Nat) : Nat → Nat → Int → ZM → Option (Int × ZM)
  | 0, _, _, _ => none
  | n + 1, a0, x2, M => if x2 < 1000 then if mI M 5 a0 3 = 0 then if mI M 8 0 2 = 0 then Re_readPark_63 N a0 M else zB (Re_readParkLine N a0 M) fun v101 M101 => zW (z32 (x2 + 1)) fun x102 => Re_readPark_28 N n a0 x102 M101 else Re_readPark_63 N a0 M else Re_readPark_63 N a0 M
def Re_readPark (N : Nat) (a0 : Nat) (a1 : Nat) (M : ZM) : Option (Int × ZM) :=
  zBv (Pa_clear N a1 M) fun M101 => zW (pR M101 (zsr (mR M101) 2 (some a1))) fun M102 => zW (pI M102 5 a0 3 0) fun M103 => zW (pI M103 5 a0 6 0) fun M104 => zBv (Ta_start N 0 M104) fun M105 => Re_readPark_28 N N a0 0 M105
def Re_deedOf (N : Nat) (o0 : Option Nat) (M : ZM) : Option (Int × ZM) :=
  if o0 = some 14 then some (0, M) else if o0 = some 15 then some (1, M) else if o0 = some 16 then some (2, M) else if o0 = some 17 then some (3, M) else if o0 = some 18 then some (4, M) else some ((-1), M)
def Re_readDayLine_93 (N : Nat) (a0 : Nat) (x1 : Int) (M : ZM) : Option (Int × ZM) :=
  zB (Nu_add N 6 (z32 ((z32 ((z32 (x1 * 100)) + (z32 ((mI M 5 a0 5) * 10)))) + (mI M 5 a0 4))) M) fun v101 M101 => zB (Re_passSign N a0 59 M101) fun v102 M102 => some (z_b1 v102, M102)
def Re_readDayLine_78 (N : Nat) (a0 : Nat) (x1 : Int) (M : ZM) : Option (Int × ZM) :=
  if x1 = 0 then zB (Re_passNumber N a0 0 4 M) fun v101 M101 => if v101 = 0 then some (0, M101) else Re_readDayLine_93 N a0 x1 M101 else Re_readDayLine_93 N a0 x1 M
def Re_readDayLine (N : Nat) (a0 : Nat) (M : ZM) : Option (Int × ZM) :=
  zB (Re_deedOf N (zrg (mR M) 3) M) fun v101 M101 => if v101 = (-1) then zB (Re_fail N a0 1 M101) fun v102 M102 => some (z_b1 v102, M102) else if mI M101 3 6 1 < 40 then zBv (Ta_pass N 0 M101) fun M103 => zW (pI M103 5 a0 5 0) fun M104 => zW (pI M104 5 a0 4 0) fun M105 => if v101 = 4 then Re_readDayLine_78 N a0 v101 M105 else zB (Re_isTurbine N a0 M105) fun v106 M106 => if v106 = 0 then some (0, M106) else zBv (Ta_pass N 0 M106) fun M107 => Re_readDayLine_78 N a0 v101 M107 else zB (Re_fail N a0 5 M101) fun v108 M108 => some (z_b1 v108, M108)
def Re_readDay_62 (N : Nat) (a0 : Nat) (a2 : Nat) (M : ZM) : Option (Int × ZM) :=
  zBv (Ta_clear N 0 M) fun M101 => if mI M101 5 a0 3 = 0 then zBv (Nu_copy N a2 6 M101) fun M102 => some (mI M102 5 a0 3, M102) else some (mI M101 5 a0 3, M101)
def Re_readDay_27 (N : Nat) : Nat → Nat → Nat → Int → ZM → Option (Int × ZM)
  | 0, _, _, _, _ => none
  | n + 1, a0, a2, x3, M => if x3 < 1000 then if mI M 5 a0 3 = 0 then if mI M 8 0 2 = 0 then Re_readDay_62 N a0 a2 M else zB (Re_readDayLine N a0 M) fun v101 M101 => zW (z32 (x3 + 1)) fun x102 => Re_readDay_27 N n a0 a2 x102 M101 else Re_readDay_62 N a0 a2 M else Re_readDay_62 N a0 a2 M
def Re_readDay (N : Nat) (a0 : Nat) (a1 : Nat) (a2 : Nat) (M : ZM) : Option (Int × ZM) :=
  zW (pR M (zsr (mR M) 2 (some a1))) fun M101 => zW (pI M101 5 a0 3 0) fun M102 => zW (pI M102 3 6 1 0) fun M103 => zBv (Ta_start N 0 M103) fun M104 => Re_readDay_27 N N a0 a2 0 M104
def Se_foresee_78 (N : Nat) (rec36 : Nat → Nat → Nat → Int → Int → Int → Int → Int → ZM → Option ZM) (rec53 : Nat → Nat → Nat → Int → Int → Int → Int → Int → Int → Int → ZM → Option ZM) (a0 : Nat) (a1 : Nat) (a2 : Nat) (x3 : Int) (x4 : Int) (x5 : Int) (x6 : Int) (x7 : Int) (x8 : Int) (x9 : Int) (y0 : Int) (M : ZM) : Option ZM :=
  if y0 = 0 then zI ((0 : Int) ≤ z32 ((z32 (x8 * 6)) + x9) ∧ z32 ((z32 (x8 * 6)) + x9) < 180) <| zW (pI M 34 a0 (z32 ((z32 (x8 * 6)) + x9)).toNat 0) fun M101 => zW (z32 (x9 + 1)) fun x102 => rec53 a0 a1 a2 x3 x4 x5 x6 x7 x8 x102 M101 else zB (Pa_tenths N a1 x3 x7 x9 x5 M) fun v103 M103 => zI ((0 : Int) ≤ z32 ((z32 (x8 * 6)) + x9) ∧ z32 ((z32 (x8 * 6)) + x9) < 180) <| zW (pI M103 34 a0 (z32 ((z32 (x8 * 6)) + x9)).toNat v103) fun M104 => zW (z32 (x9 + 1)) fun x105 => rec53 a0 a1 a2 x3 x4 x5 x6 x7 x8 x105 M104
def Se_foresee_122 (N : Nat) (rec36 : Nat → Nat → Nat → Int → Int → Int → Int → Int → ZM → Option ZM) : Nat → Nat → Nat → Nat → Int → Int → Int → Int → Int → Int → Int → ZM → Option ZM
  | 0, _, _, _, _, _, _, _, _, _, _, _ => none
  | n + 1, a0, a1, a2, x3, x4, x5, x6, x7, x8, x9, M => if x9 < 10 then zB (Pa_left N x4 x9 M) fun v101 M101 => if x6 = 0 then zI ((0 : Int) ≤ z32 ((z32 (x8 * 10)) + x9) ∧ z32 ((z32 (x8 * 10)) + x9) < 300) <| zW (pI M101 35 a0 (z32 ((z32 (x8 * 10)) + x9)).toNat 0) fun M102 => zW (z32 (x9 + 1)) fun x103 => Se_foresee_122 N rec36 n a0 a1 a2 x3 x4 x5 x6 x7 x8 x103 M102 else zI ((0 : Int) ≤ x3 ∧ x3 < 6) <| zB (Pa_gives N a1 v101 (mI M101 41 a2 x3.toNat) x7 (mI M101 7 a2 4) M101) fun v104 M104 => zI ((0 : Int) ≤ z32 ((z32 (x8 * 10)) + x9) ∧ z32 ((z32 (x8 * 10)) + x9) < 300) <| zW (pI M104 35 a0 (z32 ((z32 (x8 * 10)) + x9)).toNat v104) fun M105 => zW (z32 (x9 + 1)) fun x106 => Se_foresee_122 N rec36 n a0 a1 a2 x3 x4 x5 x6 x7 x8 x106 M105 else zW (z32 (x7 + 1)) fun x107 => rec36 a0 a1 a2 x3 x4 x5 x6 x107 M
def Se_foresee_53 (N : Nat) (rec36 : Nat → Nat → Nat → Int → Int → Int → Int → Int → ZM → Option ZM) : Nat → Nat → Nat → Nat → Int → Int → Int → Int → Int → Int → Int → ZM → Option ZM
  | 0, _, _, _, _, _, _, _, _, _, _, _ => none
  | n + 1, a0, a1, a2, x3, x4, x5, x6, x7, x8, x9, M => if x9 < mI M 4 a1 0 then if x6 = 0 then Se_foresee_78 N rec36 (Se_foresee_53 N rec36 n) a0 a1 a2 x3 x4 x5 x6 x7 x8 x9 0 M else if x9 = x3 then Se_foresee_78 N rec36 (Se_foresee_53 N rec36 n) a0 a1 a2 x3 x4 x5 x6 x7 x8 x9 0 M else Se_foresee_78 N rec36 (Se_foresee_53 N rec36 n) a0 a1 a2 x3 x4 x5 x6 x7 x8 x9 1 M else Se_foresee_122 N rec36 N a0 a1 a2 x3 x4 x5 x6 x7 x8 0 M
def Se_foresee_36 (N : Nat) : Nat → Nat → Nat → Nat → Int → Int → Int → Int → Int → ZM → Option ZM
  | 0, _, _, _, _, _, _, _, _, _ => none
  | n + 1, a0, a1, a2, x3, x4, x5, x6, x7, M => if x7 < 5 then zW (z32 ((z32 (x3 * 5)) + x7)) fun x101 => Se_foresee_53 N (Se_foresee_36 N n) N a0 a1 a2 x3 x4 x5 x6 x7 x101 0 M else some M
def Se_foresee (N : Nat) (a0 : Nat) (a1 : Nat) (a2 : Nat) (x3 : Int) (M : ZM) : Option ZM :=
  zB (Nu_round N (7 * a1 + 1) (mI M 7 a2 4) M) fun v101 M101 => zB (Nu_round N (7 * a1 + 2) (mI M101 7 a2 4) M101) fun v102 M102 => zB (St_runs N a2 x3 M102) fun v103 M103 => Se_foresee_36 N N a0 a1 a2 x3 v101 v102 v103 0 M103
def Se_isAlike_47 (N : Nat) : Nat → Nat → Int → Int → Int → ZM → Option (Int × ZM)
  | 0, _, _, _, _, _ => none
  | n + 1, a0, x1, x2, x4, M => if x4 < 10 then zI ((0 : Int) ≤ z32 ((z32 (x1 * 10)) + x4) ∧ z32 ((z32 (x1 * 10)) + x4) < 300) <| zI ((0 : Int) ≤ z32 ((z32 (x2 * 10)) + x4) ∧ z32 ((z32 (x2 * 10)) + x4) < 300) <| if mI M 35 a0 (z32 ((z32 (x1 * 10)) + x4)).toNat = mI M 35 a0 (z32 ((z32 (x2 * 10)) + x4)).toNat then zW (z32 (x4 + 1)) fun x101 => Se_isAlike_47 N n a0 x1 x2 x101 M else some (0, M) else some (1, M)
def Se_isAlike_3 (N : Nat) : Nat → Nat → Int → Int → Int → Int → ZM → Option (Int × ZM)
  | 0, _, _, _, _, _, _ => none
  | n + 1, a0, x1, x2, x3, x4, M => if x4 < x3 then zI ((0 : Int) ≤ z32 ((z32 (x1 * 6)) + x4) ∧ z32 ((z32 (x1 * 6)) + x4) < 180) <| zI ((0 : Int) ≤ z32 ((z32 (x2 * 6)) + x4) ∧ z32 ((z32 (x2 * 6)) + x4) < 180) <| if mI M 34 a0 (z32 ((z32 (x1 * 6)) + x4)).toNat = mI M 34 a0 (z32 ((z32 (x2 * 6)) + x4)).toNat then zW (z32 (x4 + 1)) fun x101 => Se_isAlike_3 N n a0 x1 x2 x3 x101 M else some (0, M) else Se_isAlike_47 N N a0 x1 x2 0 M
def Se_isAlike (N : Nat) (a0 : Nat) (x1 : Int) (x2 : Int) (x3 : Int) (M : ZM) : Option (Int × ZM) :=
  Se_isAlike_3 N N a0 x1 x2 x3 0 M
def Se_isNew_3 (N : Nat) : Nat → Nat → Int → Int → Int → Int → ZM → Option (Int × ZM)
  | 0, _, _, _, _, _, _ => none
  | n + 1, a0, x1, x2, x3, x4, M => if x4 < x2 then zB (Se_isAlike N a0 (z32 ((z32 (x1 * 5)) + x4)) (z32 ((z32 (x1 * 5)) + x2)) x3 M) fun v101 M101 => if v101 = 0 then zW (z32 (x4 + 1)) fun x102 => Se_isNew_3 N n a0 x1 x2 x3 x102 M101 else some (0, M101) else some (1, M)
def Se_isNew (N : Nat) (a0 : Nat) (x1 : Int) (x2 : Int) (x3 : Int) (M : ZM) : Option (Int × ZM) :=
  Se_isNew_3 N N a0 x1 x2 x3 0 M
def Se_listTries_46 (N : Nat) (rec15 : Nat → Int → Int → Int → Int → Int → ZM → Option ZM) (a0 : Nat) (x1 : Int) (x2 : Int) (x3 : Int) (x4 : Int) (x5 : Int) (M : ZM) : Option ZM :=
  zI ((0 : Int) ≤ x1 ∧ x1 < 6) <| zI ((0 : Int) ≤ z32 (x4 + (mI M 37 a0 x1.toNat)) ∧ z32 (x4 + (mI M 37 a0 x1.toNat)) < 30) <| zW (pI M 36 a0 (z32 (x4 + (mI M 37 a0 x1.toNat))).toNat x5) fun M101 => zI ((0 : Int) ≤ x1 ∧ x1 < 6) <| zI ((0 : Int) ≤ x1 ∧ x1 < 6) <| zW (pI M101 37 a0 x1.toNat (z32 ((mI M101 37 a0 x1.toNat) + 1))) fun M102 => zW (z32 (x5 + 1)) fun x103 => rec15 a0 x1 x2 x3 x4 x103 M102
def Se_listTries_15 (N : Nat) : Nat → Nat → Int → Int → Int → Int → Int → ZM → Option ZM
  | 0, _, _, _, _, _, _, _ => none
  | n + 1, a0, x1, x2, x3, x4, x5, M => if x5 < 5 then if x3 = (-1) then zB (Se_isNew N a0 x1 x5 x2 M) fun v101 M101 => if v101 = 0 then zW (z32 (x5 + 1)) fun x102 => Se_listTries_15 N n a0 x1 x2 x3 x4 x102 M101 else Se_listTries_46 N (Se_listTries_15 N n) a0 x1 x2 x3 x4 x5 M101 else if x5 = x3 then Se_listTries_46 N (Se_listTries_15 N n) a0 x1 x2 x3 x4 x5 M else zW (z32 (x5 + 1)) fun x103 => Se_listTries_15 N n a0 x1 x2 x3 x4 x103 M else some M
def Se_listTries (N : Nat) (a0 : Nat) (x1 : Int) (x2 : Int) (x3 : Int) (M : ZM) : Option ZM :=
  zW (z32 (x1 * 5)) fun x101 => zI ((0 : Int) ≤ x1 ∧ x1 < 6) <| zW (pI M 37 a0 x1.toNat 0) fun M102 => Se_listTries_15 N N a0 x1 x2 x3 x101 0 M102
def Se_angleOf (N : Nat) (a0 : Nat) (x1 : Int) (M : ZM) : Option (Int × ZM) :=
  zI ((0 : Int) ≤ x1 ∧ x1 < 6) <| zI ((0 : Int) ≤ z32 ((z32 (x1 * 5)) + (mI M 38 a0 x1.toNat)) ∧ z32 ((z32 (x1 * 5)) + (mI M 38 a0 x1.toNat)) < 30) <| some (mI M 36 a0 (z32 ((z32 (x1 * 5)) + (mI M 38 a0 x1.toNat))).toNat, M)
def Se_keepRow_2 (N : Nat) : Nat → Nat → Int → Int → ZM → Option ZM
  | 0, _, _, _, _ => none
  | n + 1, a0, x1, x2, M => if x2 < x1 then zB (Se_angleOf N a0 x2 M) fun v101 M101 => zI ((0 : Int) ≤ x2 ∧ x2 < 6) <| zW (pI M101 33 a0 x2.toNat v101) fun M102 => zW (z32 (x2 + 1)) fun x103 => Se_keepRow_2 N n a0 x1 x103 M102 else some M
def Se_keepRow (N : Nat) (a0 : Nat) (x1 : Int) (M : ZM) : Option ZM :=
  Se_keepRow_2 N N a0 x1 0 M
def Se_next_4 (N : Nat) : Nat → Nat → Int → ZM → Option (Int × ZM)
  | 0, _, _, _ => none
  | n + 1, a0, x2, M => if x2 < 0 then some ((-1), M) else zI ((0 : Int) ≤ x2 ∧ x2 < 6) <| zI ((0 : Int) ≤ x2 ∧ x2 < 6) <| if z32 ((mI M 38 a0 x2.toNat) + 1) < mI M 37 a0 x2.toNat then zI ((0 : Int) ≤ x2 ∧ x2 < 6) <| zI ((0 : Int) ≤ x2 ∧ x2 < 6) <| zW (pI M 38 a0 x2.toNat (z32 ((mI M 38 a0 x2.toNat) + 1))) fun M101 => some (x2, M101) else zI ((0 : Int) ≤ x2 ∧ x2 < 6) <| zW (pI M 38 a0 x2.toNat 0) fun M102 => zW (z32 (x2 + (-1))) fun x103 => Se_next_4 N n a0 x103 M102
def Se_next (N : Nat) (a0 : Nat) (x1 : Int) (M : ZM) : Option (Int × ZM) :=
  zW (z32 (x1 - 1)) fun x101 => Se_next_4 N N a0 x101 M
def Se_addFrom_24 (N : Nat) (rec2 : Nat → Int → Int → ZM → Option ZM) : Nat → Nat → Int → Int → Int → Int → ZM → Option ZM
  | 0, _, _, _, _, _, _ => none
  | n + 1, a0, x2, x3, x4, x5, M => if x5 < x2 then zI ((0 : Int) ≤ z32 ((z32 (x3 * 6)) + x5) ∧ z32 ((z32 (x3 * 6)) + x5) < 42) <| zI ((0 : Int) ≤ z32 (x4 + x5) ∧ z32 (x4 + x5) < 180) <| zI ((0 : Int) ≤ z32 ((z32 ((z32 (x3 + 1)) * 6)) + x5) ∧ z32 ((z32 ((z32 (x3 + 1)) * 6)) + x5) < 42) <| zW (pI M 39 a0 (z32 ((z32 ((z32 (x3 + 1)) * 6)) + x5)).toNat (z32 ((mI M 39 a0 (z32 ((z32 (x3 * 6)) + x5)).toNat) + (mI M 34 a0 (z32 (x4 + x5)).toNat)))) fun M101 => zW (z32 (x5 + 1)) fun x102 => Se_addFrom_24 N rec2 n a0 x2 x3 x4 x102 M101 else zW (z32 (x3 + 1)) fun x103 => rec2 a0 x2 x103 M
def Se_addFrom_2 (N : Nat) : Nat → Nat → Int → Int → ZM → Option ZM
  | 0, _, _, _, _ => none
  | n + 1, a0, x2, x3, M => if x3 < x2 then zB (Se_angleOf N a0 x3 M) fun v101 M101 => zW (z32 ((z32 ((z32 (x3 * 5)) + v101)) * 6)) fun x102 => Se_addFrom_24 N (Se_addFrom_2 N n) N a0 x2 x3 x102 0 M101 else some M
def Se_addFrom (N : Nat) (a0 : Nat) (x1 : Int) (x2 : Int) (M : ZM) : Option ZM :=
  Se_addFrom_2 N N a0 x2 x1 M
def Se_giftOf (N : Nat) (a0 : Nat) (a1 : Nat) (x2 : Int) (M : ZM) : Option (Int × ZM) :=
  zI ((0 : Int) ≤ z32 ((z32 ((mI M 4 a1 0) * 6)) + x2) ∧ z32 ((z32 ((mI M 4 a1 0) * 6)) + x2) < 42) <| zB (Pa_takenOf N a1 x2 (mI M 39 a0 (z32 ((z32 ((mI M 4 a1 0) * 6)) + x2)).toNat) M) fun v101 M101 => zB (Se_angleOf N a0 x2 M101) fun v102 M102 => zI ((0 : Int) ≤ z32 ((z32 ((z32 ((z32 (x2 * 5)) + v102)) * 10)) + v101) ∧ z32 ((z32 ((z32 ((z32 (x2 * 5)) + v102)) * 10)) + v101) < 300) <| some (mI M102 35 a0 (z32 ((z32 ((z32 ((z32 (x2 * 5)) + v102)) * 10)) + v101)).toNat, M102)
def Se_sale_3 (N : Nat) : Nat → Nat → Nat → Nat → Int → Int → ZM → Option (Int × ZM)
  | 0, _, _, _, _, _, _ => none
  | n + 1, a0, a1, a2, x3, x4, M => if x4 < mI M 4 a1 0 then zB (Se_giftOf N a0 a1 x4 M) fun v101 M101 => zI ((0 : Int) ≤ x4 ∧ x4 < 6) <| zW (pI M101 22 a2 x4.toNat v101) fun M102 => zW (z32 (x4 + 1)) fun x103 => Se_sale_3 N n a0 a1 a2 x3 x103 M102 else zBv (Fl_bring N a2 a1 (-1) M) fun M104 => some (z32 ((mI M104 0 a2 6) * x3), M104)
def Se_sale (N : Nat) (a0 : Nat) (a1 : Nat) (a2 : Nat) (x3 : Int) (M : ZM) : Option (Int × ZM) :=
  Se_sale_3 N N a0 a1 a2 x3 0 M
def Se_share_5 (N : Nat) : Nat → Nat → Nat → Int → Int → Int → ZM → Option (Int × ZM)
  | 0, _, _, _, _, _, _ => none
  | n + 1, a0, a1, x2, x3, x4, M => if x4 < mI M 4 a1 0 then zI ((0 : Int) ≤ x4 ∧ x4 < 6) <| if mI M 29 a1 x4.toNat = x2 then zB (Se_giftOf N a0 a1 x4 M) fun v101 M101 => zW (z32 (x3 + v101)) fun x102 => zW (z32 (x4 + 1)) fun x103 => Se_share_5 N n a0 a1 x2 x102 x103 M101 else zW (z32 (x4 + 1)) fun x104 => Se_share_5 N n a0 a1 x2 x3 x104 M else some (x3, M)
def Se_share (N : Nat) (a0 : Nat) (a1 : Nat) (x2 : Int) (M : ZM) : Option (Int × ZM) :=
  Se_share_5 N N a0 a1 x2 0 0 M
def Se_seek_67 (N : Nat) (rec3 : Nat → Nat → Nat → Nat → Int → Int → ZM → Option ZM) (a0 : Nat) (a1 : Nat) (a2 : Nat) (a3 : Nat) (x4 : Int) (x5 : Int) (b0 : Nat) (y1 : Int) (y2 : Int) (y3 : Int) (M : ZM) : Option ZM :=
  zBv (Se_listTries N b0 y1 y2 y3 M) fun M101 => zI ((0 : Int) ≤ x5 ∧ x5 < 6) <| zW (pI M101 38 a0 x5.toNat 0) fun M102 => zW (z32 (x5 + 1)) fun x103 => rec3 a0 a1 a2 a3 x4 x103 M102
def Se_seek_42 (N : Nat) (rec3 : Nat → Nat → Nat → Nat → Int → Int → ZM → Option ZM) (a0 : Nat) (a1 : Nat) (a2 : Nat) (a3 : Nat) (x4 : Int) (x5 : Int) (y0 : Int) (M : ZM) : Option ZM :=
  if y0 = 0 then zI ((0 : Int) ≤ x5 ∧ x5 < 6) <| Se_seek_67 N rec3 a0 a1 a2 a3 x4 x5 a0 x5 (mI M 4 a1 0) (mI M 40 a2 x5.toNat) M else Se_seek_67 N rec3 a0 a1 a2 a3 x4 x5 a0 x5 (mI M 4 a1 0) (-1) M
def Se_seek_167 (N : Nat) (rec106 : Nat → Nat → Nat → Int → Int → Int → ZM → Option ZM) (a0 : Nat) (a1 : Nat) (a3 : Nat) (x4 : Int) (x5 : Int) (x6 : Int) (M : ZM) : Option ZM :=
  zB (Se_next N a0 (mI M 4 a1 0) M) fun v101 M101 => if v101 < 0 then some M101 else zBv (Se_addFrom N a0 v101 (mI M101 4 a1 0) M101) fun M102 => zW (z32 (x6 + 1)) fun x103 => rec106 a0 a1 a3 x4 x5 x103 M102
def Se_seek_153 (N : Nat) (rec106 : Nat → Nat → Nat → Int → Int → Int → ZM → Option ZM) (a0 : Nat) (a1 : Nat) (a3 : Nat) (x4 : Int) (x5 : Int) (x6 : Int) (x7 : Int) (M : ZM) : Option ZM :=
  zW (pI M 6 a0 1 x7) fun M101 => zBv (Se_keepRow N a0 (mI M101 4 a1 0) M101) fun M102 => Se_seek_167 N rec106 a0 a1 a3 x4 x5 x6 M102
def Se_seek_137 (N : Nat) (rec106 : Nat → Nat → Nat → Int → Int → Int → ZM → Option ZM) (a0 : Nat) (a1 : Nat) (a3 : Nat) (x4 : Int) (x5 : Int) (x6 : Int) (y0 : Int) (M : ZM) : Option ZM :=
  if x6 = 0 then Se_seek_153 N rec106 a0 a1 a3 x4 x5 x6 y0 M else if mI M 6 a0 1 < y0 then Se_seek_153 N rec106 a0 a1 a3 x4 x5 x6 y0 M else Se_seek_167 N rec106 a0 a1 a3 x4 x5 x6 M
def Se_seek_106 (N : Nat) : Nat → Nat → Nat → Nat → Int → Int → Int → ZM → Option ZM
  | 0, _, _, _, _, _, _, _ => none
  | n + 1, a0, a1, a3, x4, x5, x6, M => if x6 < 15625 then if x4 = 0 then zB (Se_sale N a0 a1 a3 x5 M) fun v101 M101 => Se_seek_137 N (Se_seek_106 N n) a0 a1 a3 x4 x5 x6 v101 M101 else zB (Se_share N a0 a1 x4 M) fun v102 M102 => Se_seek_137 N (Se_seek_106 N n) a0 a1 a3 x4 x5 x6 v102 M102 else some M
def Se_seek_3 (N : Nat) : Nat → Nat → Nat → Nat → Nat → Int → Int → ZM → Option ZM
  | 0, _, _, _, _, _, _, _ => none
  | n + 1, a0, a1, a2, a3, x4, x5, M => if x5 < mI M 4 a1 0 then zBv (Se_foresee N a0 a1 a2 x5 M) fun M101 => if x4 = 0 then Se_seek_42 N (Se_seek_3 N n) a0 a1 a2 a3 x4 x5 1 M101 else zI ((0 : Int) ≤ x5 ∧ x5 < 6) <| if mI M101 29 a1 x5.toNat = x4 then Se_seek_42 N (Se_seek_3 N n) a0 a1 a2 a3 x4 x5 1 M101 else Se_seek_42 N (Se_seek_3 N n) a0 a1 a2 a3 x4 x5 0 M101 else zBv (Se_addFrom N a0 0 (mI M 4 a1 0) M) fun M102 => zB (Pa_priceAt N a1 (mI M102 7 a2 4) M102) fun v103 M103 => Se_seek_106 N N a0 a1 a3 x4 v103 0 M103
def Se_seek (N : Nat) (a0 : Nat) (a1 : Nat) (a2 : Nat) (a3 : Nat) (x4 : Int) (M : ZM) : Option ZM :=
  Se_seek_3 N N a0 a1 a2 a3 x4 0 M
def St_everyone (N : Nat) (a0 : Nat) (a1 : Nat) (M : ZM) : Option (Int × ZM) :=
  some (z32 ((z_shl 1 (mI M 4 a1 0)) - 1), M)
def St_begin (N : Nat) (a0 : Nat) (a1 : Nat) (M : ZM) : Option ZM :=
  zBv (Ar_fill N 40 a0 2 M) fun M101 => zBv (Ar_fill N 41 a0 0 M101) fun M102 => zB (St_everyone N a0 a1 M102) fun v103 M103 => zW (pI M103 7 a0 2 v103) fun M104 => zW (pI M104 7 a0 3 0) fun M105 => zW (pI M105 7 a0 4 0) fun M106 => zW (pI M106 7 a0 5 0) fun M107 => some M107
def St_can (N : Nat) (a0 : Nat) (a1 : Nat) (x2 : Int) (x3 : Int) (M : ZM) : Option (Int × ZM) :=
  if x3 < 0 then some (0, M) else if x3 < mI M 4 a1 0 then if x2 = 0 then some (1, M) else if x2 = 1 then zB (St_isOpen N a0 x3 M) fun v101 M101 => some (z_b1 v101, M101) else if x2 = 2 then zB (St_isOpen N a0 x3 M) fun v102 M102 => if v102 = 0 then some (1, M102) else some (0, M102) else if x2 = 3 then zB (St_isBroken N a0 x3 M) fun v103 M103 => if v103 = 0 then some (0, M103) else zB (Pa_isSlack N a1 (mI M103 7 a0 4) M103) fun v104 M104 => if v104 = 0 then some (0, M104) else some (1, M104) else some (0, M) else some (0, M)
def St_act (N : Nat) (a0 : Nat) (a1 : Nat) (x2 : Int) (x3 : Int) (x4 : Int) (M : ZM) : Option (Int × ZM) :=
  zB (St_can N a0 a1 x2 x3 M) fun v101 M101 => if v101 = 0 then some (0, M101) else zW (z_shl 1 x3) fun x102 => if x2 = 0 then zI ((0 : Int) ≤ x3 ∧ x3 < 6) <| zW (pI M101 40 a0 x3.toNat x4) fun M103 => some (1, M103) else if x2 = 1 then zW (pI M101 7 a0 2 (z_and (mI M101 7 a0 2) (z_xor x102 (-1)))) fun M104 => some (1, M104) else if x2 = 2 then zW (pI M101 7 a0 2 (z_or (mI M101 7 a0 2) x102)) fun M105 => some (1, M105) else zW (pI M101 7 a0 3 (z_and (mI M101 7 a0 3) (z_xor x102 (-1)))) fun M106 => zI ((0 : Int) ≤ x3 ∧ x3 < 6) <| zW (pI M106 41 a0 x3.toNat 0) fun M107 => some (1, M107)
def Ta_put_43 (N : Nat) (rec3 : Nat → Int → Int → ZM → Option ZM) (a0 : Nat) (x1 : Int) (x3 : Int) (x4 : Int) (y0 : Int) (M : ZM) : Option ZM :=
  if y0 = 0 then zW (z32 (x3 + (-8))) fun x101 => rec3 a0 x1 x101 M else if mI M 8 a0 1 < ((1000 : Nat) : Int) then zI ((0 : Int) ≤ mI M 8 a0 1 ∧ mI M 8 a0 1 < ((1000 : Nat) : Int)) <| zW (pI M 42 a0 (mI M 8 a0 1).toNat (z_i2b (z_i2b x4))) fun M102 => zW (pI M102 8 a0 1 (z32 ((mI M102 8 a0 1) + 1))) fun M103 => zW (z32 (x3 + (-8))) fun x104 => rec3 a0 x1 x104 M103 else zW (z32 (x3 + (-8))) fun x105 => rec3 a0 x1 x105 M
def Ta_put_3 (N : Nat) : Nat → Nat → Int → Int → ZM → Option ZM
  | 0, _, _, _, _ => none
  | n + 1, a0, x1, x3, M => if x3 < 0 then some M else zW (z_and (z32 (z_lushr x1 x3)) 255) fun x101 => if x101 = 10 then Ta_put_43 N (Ta_put_3 N n) a0 x1 x3 x101 1 M else if x101 < 32 then Ta_put_43 N (Ta_put_3 N n) a0 x1 x3 x101 0 M else if 126 < x101 then Ta_put_43 N (Ta_put_3 N n) a0 x1 x3 x101 0 M else Ta_put_43 N (Ta_put_3 N n) a0 x1 x3 x101 1 M
def Ta_put (N : Nat) (a0 : Nat) (x1 : Int) (M : ZM) : Option ZM :=
  Ta_put_3 N N a0 x1 56 M
def Wi_note_35 (N : Nat) (a0 : Nat) (x1 : Int) (x2 : Int) (b0 : Nat) (y1 : Int) (M : ZM) : Option ZM :=
  zW (pI M 9 b0 1 y1) fun M101 => zW (pI M101 9 a0 2 (zmax (mI M101 9 a0 2) x1)) fun M102 => zW (pI M102 9 a0 3 (z_or (mI M102 9 a0 3) (z_shl 1 x2))) fun M103 => some M103
def Wi_note (N : Nat) (a0 : Nat) (x1 : Int) (x2 : Int) (M : ZM) : Option ZM :=
  zW (pI M 9 a0 0 (z32 ((mI M 9 a0 0) + 1))) fun M101 => if mI M101 9 a0 1 = (-1) then Wi_note_35 N a0 x1 x2 a0 x1 M101 else if x1 < mI M101 9 a0 1 then Wi_note_35 N a0 x1 x2 a0 x1 M101 else Wi_note_35 N a0 x1 x2 a0 (mI M101 9 a0 1) M101
def Wi_isAsSeen_2 (N : Nat) : Nat → Nat → Nat → Int → ZM → Option (Int × ZM)
  | 0, _, _, _, _ => none
  | n + 1, a0, a1, x2, M => if x2 < mI M 3 a1 1 then zB (Nu_get N a1 x2 M) fun v101 M101 => zI ((0 : Int) ≤ z32 (v101.tdiv 100) ∧ z32 (v101.tdiv 100) < 6) <| if mI M101 22 a0 (z32 (v101.tdiv 100)).toNat = v101.tmod 100 then zW (z32 (x2 + 1)) fun x102 => Wi_isAsSeen_2 N n a0 a1 x102 M101 else some (0, M101) else some (1, M)
def Wi_isAsSeen (N : Nat) (a0 : Nat) (a1 : Nat) (M : ZM) : Option (Int × ZM) :=
  Wi_isAsSeen_2 N N a0 a1 0 M
def Wi_guess_40 (N : Nat) (rec23 : Nat → Nat → Nat → Nat → Nat → Int → ZM → Option ZM) : Nat → Nat → Nat → Nat → Nat → Nat → Int → Int → ZM → Option ZM
  | 0, _, _, _, _, _, _, _, _ => none
  | n + 1, a0, a1, a2, a3, a4, x5, x6, M => if x6 < 31 then zW (z32 ((z32 (x5 * 31)) + x6)) fun x101 => zBv (Fl_give N a3 a1 a2 x6 M) fun M102 => zI ((0 : Int) ≤ 0 ∧ (0 : Int) ≤ z32 (x101 * 6) ∧ (0 : Int) ≤ 6 ∧ (0 : Int) + 6 ≤ 6 ∧ ((z32 (x101 * 6)) : Int) + 6 ≤ 744) <| zW (pCp M102 22 a3 0 44 a0 (z32 (x101 * 6)).toNat 6) fun M103 => zB (Wi_isAsSeen N a3 a4 M103) fun v104 M104 => zI ((0 : Int) ≤ x101 ∧ x101 < 124) <| zW (pI M104 43 a0 x101.toNat (z_b1 v104)) fun M105 => zI ((0 : Int) ≤ x101 ∧ x101 < 124) <| if mI M105 43 a0 x101.toNat = 0 then zW (z32 (x6 + 1)) fun x106 => Wi_guess_40 N rec23 n a0 a1 a2 a3 a4 x5 x106 M105 else zBv (Wi_note N a0 x6 x5 M105) fun M107 => zW (z32 (x6 + 1)) fun x108 => Wi_guess_40 N rec23 n a0 a1 a2 a3 a4 x5 x108 M107 else zW (z32 (x5 + 1)) fun x109 => rec23 a0 a1 a2 a3 a4 x109 M
def Wi_guess_23 (N : Nat) : Nat → Nat → Nat → Nat → Nat → Nat → Int → ZM → Option ZM
  | 0, _, _, _, _, _, _, _ => none
  | n + 1, a0, a1, a2, a3, a4, x5, M => if x5 < 4 then zBv (Fl_take N a3 a1 a2 x5 M) fun M101 => Wi_guess_40 N (Wi_guess_23 N n) N a0 a1 a2 a3 a4 x5 0 M101 else some M
def Wi_guess (N : Nat) (a0 : Nat) (a1 : Nat) (a2 : Nat) (a3 : Nat) (a4 : Nat) (M : ZM) : Option ZM :=
  zW (pI M 9 a0 0 0) fun M101 => zW (pI M101 9 a0 1 (-1)) fun M102 => zW (pI M102 9 a0 2 (-1)) fun M103 => zW (pI M103 9 a0 3 0) fun M104 => Wi_guess_23 N N a0 a1 a2 a3 a4 0 M104
def Wi_mostAlike_12 (N : Nat) : Nat → Nat → Int → Int → Int → ZM → Option (Int × ZM)
  | 0, _, _, _, _, _ => none
  | n + 1, a0, x1, x2, x3, M => if x3 < 124 then zI ((0 : Int) ≤ x3 ∧ x3 < 124) <| if mI M 43 a0 x3.toNat = 0 then zW (z32 (x3 + 1)) fun x101 => Wi_mostAlike_12 N n a0 x1 x2 x101 M else zI ((0 : Int) ≤ z32 ((z32 (x3 * 6)) + x1) ∧ z32 ((z32 (x3 * 6)) + x1) < 744) <| zW (mI M 44 a0 (z32 ((z32 (x3 * 6)) + x1)).toNat) fun x102 => zI ((0 : Int) ≤ x102 ∧ x102 < 100) <| zI ((0 : Int) ≤ x102 ∧ x102 < 100) <| zW (pI M 45 a0 x102.toNat (z32 ((mI M 45 a0 x102.toNat) + 1))) fun M103 => zI ((0 : Int) ≤ x102 ∧ x102 < 100) <| zW (zmax x2 (mI M103 45 a0 x102.toNat)) fun x104 => zW (z32 (x3 + 1)) fun x105 => Wi_mostAlike_12 N n a0 x1 x104 x105 M103 else some (x2, M)
def Wi_mostAlike (N : Nat) (a0 : Nat) (x1 : Int) (M : ZM) : Option (Int × ZM) :=
  zBv (Ar_fill N 45 a0 0 M) fun M101 => Wi_mostAlike_12 N N a0 x1 0 0 M101
def Wp_feed (N : Nat) (a0 : Nat) (x1 : Int) (x2 : Int) (x3 : Int) (M : ZM) : Option (Int × ZM) :=
  zBv (Ta_put N 0 x1 M) fun M101 => zBv (Ta_put N 0 x2 M101) fun M102 => zBv (Ta_put N 0 x3 M102) fun M103 => some (mI M103 8 0 1, M103)
def Wp_forgetPast (N : Nat) (a0 : Nat) (M : ZM) : Option ZM :=
  zW (pI M 10 a0 7 0) fun M101 => zW (pI M101 10 a0 8 0) fun M102 => some M102
def Wp_forgetSearches_2 (N : Nat) : Nat → Nat → Int → ZM → Option ZM
  | 0, _, _, _ => none
  | n + 1, a0, x1, M => if x1 < 3 then zI ((0 : Int) ≤ x1 ∧ x1 < 3) <| zW (pI M 6 x1.toNat 2 0) fun M101 => zW (z32 (x1 + 1)) fun x102 => Wp_forgetSearches_2 N n a0 x102 M101 else some M
def Wp_forgetSearches (N : Nat) (a0 : Nat) (M : ZM) : Option ZM :=
  Wp_forgetSearches_2 N N a0 0 M
def Wp_park_65 (N : Nat) : Nat → Nat → Int → ZM → Option (Int × ZM)
  | 0, _, _, _ => none
  | n + 1, a0, x3, M => if x3 < 4 then zI ((0 : Int) ≤ x3 ∧ x3 < 4) <| zW (pI M 2 x3.toNat 3 0) fun M101 => zW (z32 (x3 + 1)) fun x102 => Wp_park_65 N n a0 x102 M101 else zBv (Wp_forgetPast N a0 M) fun M103 => zBv (Wp_forgetSearches N a0 M103) fun M104 => some (0, M104)
def Wp_park (N : Nat) (a0 : Nat) (M : ZM) : Option (Int × ZM) :=
  zO (zrg (mR M) 1) fun p101 => zB (Re_readPark N 0 p101 M) fun v102 M102 => if v102 = 0 then zW (zrg (mR M102) 0) fun o103 => zO (zrg (mR M102) 1) fun p104 => zW (pR M102 (zsr (mR M102) 0 (some p104))) fun M105 => zO (o103) fun p106 => zW (pR M105 (zsr (mR M105) 1 (some p106))) fun M107 => zBv (St_begin N 0 p104 M107) fun M108 => zW (pI M108 3 13 1 0) fun M109 => zW (pI M109 3 14 1 0) fun M110 => Wp_park_65 N N a0 0 M110 else some (v102, M102)
def Wp_day (N : Nat) (a0 : Nat) (M : ZM) : Option (Int × ZM) :=
  zO (zrg (mR M) 0) fun p101 => zB (Re_readDay N 0 p101 13 M) fun v102 M102 => some (v102, M102)
def Wp_stands (N : Nat) (a0 : Nat) (x1 : Int) (M : ZM) : Option (Int × ZM) :=
  if x1 < 0 then some (0, M) else zO (zrg (mR M) 0) fun p101 => if x1 < mI M 4 p101 0 then some (1, M) else some (0, M)
def Wp_turbine (N : Nat) (a0 : Nat) (x1 : Int) (x2 : Int) (M : ZM) : Option (Int × ZM) :=
  zB (Wp_stands N a0 x1 M) fun v101 M101 => if v101 = 0 then some ((-2), M101) else if x2 = 0 then zO (zrg (mR M101) 0) fun p102 => zI ((0 : Int) ≤ x1 ∧ x1 < 6) <| some (mI M101 28 p102 x1.toNat, M101) else if x2 = 1 then zO (zrg (mR M101) 0) fun p103 => zI ((0 : Int) ≤ x1 ∧ x1 < 6) <| some (mI M101 29 p103 x1.toNat, M101) else if x2 = 2 then zO (zrg (mR M101) 0) fun p104 => zI ((0 : Int) ≤ x1 ∧ x1 < 6) <| some (mI M101 30 p104 x1.toNat, M101) else if x2 = 3 then zI ((0 : Int) ≤ x1 ∧ x1 < 6) <| some (mI M101 40 0 x1.toNat, M101) else if x2 = 4 then zB (St_isOpen N 0 x1 M101) fun v105 M105 => if v105 = 0 then some (0, M105) else some (1, M105) else if x2 = 5 then zB (St_isBroken N 0 x1 M101) fun v106 M106 => if v106 = 0 then some (0, M106) else some (1, M106) else if x2 = 6 then zI ((0 : Int) ≤ x1 ∧ x1 < 6) <| some (mI M101 41 0 x1.toNat, M101) else if x2 = 7 then zO (zrg (mR M101) 0) fun p107 => zI ((0 : Int) ≤ x1 ∧ x1 < 6) <| some (mI M101 31 p107 x1.toNat, M101) else if x2 = 8 then zO (zrg (mR M101) 0) fun p108 => zI ((0 : Int) ≤ x1 ∧ x1 < 6) <| some (mI M101 32 p108 x1.toNat, M101) else some ((-2), M101)
def Wp_wind (N : Nat) (a0 : Nat) (x1 : Int) (M : ZM) : Option (Int × ZM) :=
  zB (Wp_stands N a0 x1 M) fun v101 M101 => if v101 = 0 then some ((-1), M101) else zO (zrg (mR M101) 0) fun p102 => zBv (Fl_measure N 0 p102 0 M101) fun M103 => zI ((0 : Int) ≤ x1 ∧ x1 < 6) <| some (mI M103 21 0 x1.toNat, M103)
def Wp_power (N : Nat) (a0 : Nat) (x1 : Int) (M : ZM) : Option (Int × ZM) :=
  zB (Wp_stands N a0 x1 M) fun v101 M101 => if v101 = 0 then some ((-1), M101) else zO (zrg (mR M101) 0) fun p102 => zBv (Fl_measure N 0 p102 0 M101) fun M103 => zI ((0 : Int) ≤ x1 ∧ x1 < 6) <| some (mI M103 22 0 x1.toNat, M103)
def Wp_carried (N : Nat) (a0 : Nat) (x1 : Int) (M : ZM) : Option (Int × ZM) :=
  zB (Wp_stands N a0 x1 M) fun v101 M101 => if v101 = 0 then some ((-1), M101) else zO (zrg (mR M101) 0) fun p102 => zBv (Fl_measure N 0 p102 0 M101) fun M103 => zI ((0 : Int) ≤ x1 ∧ x1 < 6) <| some (mI M103 23 0 x1.toNat, M103)
def Wp_home (N : Nat) (a0 : Nat) (M : ZM) : Option (Int × ZM) :=
  zO (zrg (mR M) 0) fun p101 => zBv (Fl_measure N 0 p101 0 M) fun M102 => some (mI M102 0 0 6, M102)
def Wp_remember (N : Nat) (a0 : Nat) (M : ZM) : Option ZM :=
  zI ((0 : Int) ≤ mI M 10 a0 7 ∧ mI M 10 a0 7 < 16) <| zBv (St_copy N (2 + (mI M 10 a0 7).toNat) 0 M) fun M101 => zW (pI M101 10 a0 7 ((z32 ((mI M101 10 a0 7) + 1)).tmod 16)) fun M102 => zW (pI M102 10 a0 8 (zmin (z32 ((mI M102 10 a0 8) + 1)) 16)) fun M103 => zBv (Wp_forgetSearches N a0 M103) fun M104 => some M104
def Wp_act (N : Nat) (a0 : Nat) (x1 : Int) (x2 : Int) (x3 : Int) (M : ZM) : Option (Int × ZM) :=
  zO (zrg (mR M) 0) fun p101 => zB (St_can N 0 p101 x1 x2 M) fun v102 M102 => if v102 = 0 then some (0, M102) else zBv (Wp_remember N a0 M102) fun M103 => zO (zrg (mR M103) 0) fun p104 => zB (St_act N 0 p104 x1 x2 x3 M103) fun v105 M105 => some (z_b1 v105, M105)
def Wp_turn (N : Nat) (a0 : Nat) (x1 : Int) (x2 : Int) (M : ZM) : Option (Int × ZM) :=
  zB (Wp_stands N a0 x1 M) fun v101 M101 => if v101 = 0 then some ((-1), M101) else if x2 < 0 then some ((-1), M101) else if x2 < 5 then zI ((0 : Int) ≤ x1 ∧ x1 < 6) <| zW (mI M101 40 0 x1.toNat) fun x102 => zB (Wp_act N a0 0 x1 x2 M101) fun v103 M103 => some (x102, M103) else some ((-1), M101)
def Wp_shut (N : Nat) (a0 : Nat) (x1 : Int) (M : ZM) : Option (Int × ZM) :=
  zB (Wp_act N a0 1 x1 0 M) fun v101 M101 => some (z_b1 v101, M101)
def Wp_open (N : Nat) (a0 : Nat) (x1 : Int) (M : ZM) : Option (Int × ZM) :=
  zB (Wp_act N a0 2 x1 0 M) fun v101 M101 => some (z_b1 v101, M101)
def Wp_mend (N : Nat) (a0 : Nat) (x1 : Int) (M : ZM) : Option (Int × ZM) :=
  zB (Wp_act N a0 3 x1 0 M) fun v101 M101 => some (z_b1 v101, M101)
def Wp_step (N : Nat) (a0 : Nat) (M : ZM) : Option (Int × ZM) :=
  zBv (Wp_remember N a0 M) fun M101 => zO (zrg (mR M101) 0) fun p102 => zB (Fl_runStep N 0 p102 0 M101) fun v103 M103 => some (v103, M103)
def Ma_floorMod (N : Nat) (x0 : Int) (x1 : Int) (M : ZM) : Option (Int × ZM) :=
  if x1 = 0 then none else zW (x0.tmod x1) fun x101 => if z_xor x0 x1 < 0 then if x101 = 0 then some (x101, M) else some (z32 (x101 + x1), M) else some (x101, M)
def Wp_undo (N : Nat) (a0 : Nat) (M : ZM) : Option (Int × ZM) :=
  if 0 < mI M 10 a0 8 then zW (pI M 10 a0 8 (z32 ((mI M 10 a0 8) - 1))) fun M101 => zB (Ma_floorMod N (z32 ((mI M101 10 a0 7) - 1)) 16 M101) fun v102 M102 => zW (pI M102 10 a0 7 v102) fun M103 => zI ((0 : Int) ≤ mI M103 10 a0 7 ∧ mI M103 10 a0 7 < 16) <| zBv (St_copy N 0 (2 + (mI M103 10 a0 7).toNat) M103) fun M104 => zBv (Wp_forgetSearches N a0 M104) fun M105 => some (1, M105) else some (0, M)
def Wp_judged_30 (N : Nat) : Nat → Nat → Int → Int → Int → Int → ZM → Option (Int × ZM)
  | 0, _, _, _, _, _, _ => none
  | n + 1, a0, x1, x2, x3, x4, M => if x4 < mI M 3 13 1 then zB (Nu_get N 13 x4 M) fun v101 M101 => zW (z32 (v101.tdiv 100)) fun x102 => zW (mI M101 7 1 3) fun x103 => if x102 = 4 then zO (zrg (mR M101) 0) fun p104 => zB (Fl_runStep N 0 p104 1 M101) fun v105 M105 => if x3 = (-1) then if mI M105 7 1 3 = x103 then zW (z32 (x4 + 1)) fun x106 => Wp_judged_30 N n a0 x1 x2 x3 x106 M105 else zW (z32 (x4 + 1)) fun x107 => Wp_judged_30 N n a0 x1 x2 x4 x107 M105 else zW (z32 (x4 + 1)) fun x108 => Wp_judged_30 N n a0 x1 x2 x3 x108 M105 else zO (zrg (mR M101) 0) fun p109 => zB (St_act N 1 p109 x102 ((z32 (v101.tdiv 10)).tmod 10) (v101.tmod 10) M101) fun v110 M110 => if v110 = 0 then if x2 = (-1) then zW (z32 (x4 + 1)) fun x111 => Wp_judged_30 N n a0 x1 x4 x3 x111 M110 else zW (z32 (x4 + 1)) fun x112 => Wp_judged_30 N n a0 x1 x2 x3 x112 M110 else zW (z32 (x4 + 1)) fun x113 => Wp_judged_30 N n a0 x1 x2 x3 x113 M110 else if x1 = 0 then some (x2, M) else if x1 = 1 then some (x3, M) else some (mI M 7 1 5, M)
def Wp_judged (N : Nat) (a0 : Nat) (x1 : Int) (M : ZM) : Option (Int × ZM) :=
  if x1 < 0 then some ((-1000000), M) else if 2 < x1 then some ((-1000000), M) else zO (zrg (mR M) 0) fun p101 => zBv (St_begin N 1 p101 M) fun M102 => Wp_judged_30 N N a0 x1 (-1) (-1) 0 M102
def Wp_takenNow (N : Nat) (a0 : Nat) (x1 : Int) (x2 : Int) (M : ZM) : Option (Int × ZM) :=
  zB (St_runs N 0 x1 M) fun v101 M101 => if v101 = 0 then some (0, M101) else zI ((0 : Int) ≤ x1 ∧ x1 < 6) <| zO (zrg (mR M101) 0) fun p102 => zB (Nu_round N (7 * p102 + 2) (mI M101 7 0 4) M101) fun v103 M103 => zB (Pa_tenths N p102 x1 (mI M101 40 0 x1.toNat) x2 v103 M103) fun v104 M104 => some (v104, M104)
def Wp_takes (N : Nat) (a0 : Nat) (x1 : Int) (x2 : Int) (M : ZM) : Option (Int × ZM) :=
  zB (Wp_stands N a0 x1 M) fun v101 M101 => if v101 = 0 then some ((-1), M101) else zB (Wp_stands N a0 x2 M101) fun v102 M102 => if v102 = 0 then some ((-1), M102) else if x1 = x2 then some ((-1), M102) else zB (Wp_takenNow N a0 x1 x2 M102) fun v103 M103 => some (v103, M103)
def Wp_later_25 (N : Nat) : Nat → Nat → Int → Int → ZM → Option (Int × ZM)
  | 0, _, _, _, _ => none
  | n + 1, a0, x1, x2, M => if x2 < x1 then zO (zrg (mR M) 0) fun p101 => zB (Fl_runStep N 0 p101 1 M) fun v102 M102 => zW (z32 (x2 + 1)) fun x103 => Wp_later_25 N n a0 x1 x103 M102 else zO (zrg (mR M) 0) fun p104 => zBv (Fl_measure N 0 p104 1 M) fun M105 => some (mI M105 0 0 6, M105)
def Wp_later (N : Nat) (a0 : Nat) (x1 : Int) (M : ZM) : Option (Int × ZM) :=
  if x1 < 0 then some ((-1), M) else if 60 < x1 then some ((-1), M) else zBv (St_copy N 1 0 M) fun M101 => Wp_later_25 N N a0 x1 0 M101
def Wp_total_29 (N : Nat) : Nat → Nat → Int → Int → Int → ZM → Option (Int × ZM)
  | 0, _, _, _, _, _ => none
  | n + 1, a0, x1, x2, x3, M => if x3 < x1 then zO (zrg (mR M) 0) fun p101 => zB (Fl_runStep N 0 p101 1 M) fun v102 M102 => zW (z32 (x2 + v102)) fun x103 => zW (z32 (x3 + 1)) fun x104 => Wp_total_29 N n a0 x1 x103 x104 M102 else some (x2, M)
def Wp_total (N : Nat) (a0 : Nat) (x1 : Int) (M : ZM) : Option (Int × ZM) :=
  if x1 < 1 then some ((-1000000), M) else if 60 < x1 then some ((-1000000), M) else zBv (St_copy N 1 0 M) fun M101 => Wp_total_29 N N a0 x1 0 0 M101
def Wp_breaks_34 (N : Nat) : Nat → Nat → Int → Int → ZM → Option (Int × ZM)
  | 0, _, _, _, _ => none
  | n + 1, a0, x1, x2, M => if 100 < x2 then some ((-1), M) else zO (zrg (mR M) 0) fun p101 => zB (Fl_runStep N 0 p101 1 M) fun v102 M102 => zB (St_isBroken N 1 x1 M102) fun v103 M103 => if v103 = 0 then zW (z32 (x2 + 1)) fun x104 => Wp_breaks_34 N n a0 x1 x104 M103 else some (x2, M103)
def Wp_breaks (N : Nat) (a0 : Nat) (x1 : Int) (M : ZM) : Option (Int × ZM) :=
  zB (Wp_stands N a0 x1 M) fun v101 M101 => if v101 = 0 then some ((-1), M101) else zB (St_isBroken N 0 x1 M101) fun v102 M102 => if v102 = 0 then zBv (St_copy N 1 0 M102) fun M103 => Wp_breaks_34 N N a0 x1 1 M103 else some ((-1), M102)
def Wp_lost (N : Nat) (a0 : Nat) (M : ZM) : Option (Int × ZM) :=
  zO (zrg (mR M) 0) fun p101 => zBv (Fl_measure N 0 p101 0 M) fun M102 => some (z32 ((mI M102 0 0 5) - (mI M102 0 0 6)), M102)
def Wp_searched_36 (N : Nat) (x2 : Int) (a3 : Nat) (M : ZM) : Option (Int × ZM) :=
  if x2 = (-1) then some (mI M 6 a3 1, M) else zI ((0 : Int) ≤ x2 ∧ x2 < 6) <| some (mI M 33 a3 x2.toNat, M)
def Wp_searched (N : Nat) (a0 : Nat) (x1 : Int) (x2 : Int) (M : ZM) : Option (Int × ZM) :=
  zI ((0 : Int) ≤ x1 ∧ x1 < 3) <| zW (x1.toNat) fun a101 => if mI M 6 a101 2 = 0 then zO (zrg (mR M) 0) fun p102 => zBv (Se_seek N a101 p102 0 0 x1 M) fun M103 => zW (pI M103 6 a101 2 1) fun M104 => Wp_searched_36 N x2 a101 M104 else Wp_searched_36 N x2 a101 M
def Wp_best_16 (N : Nat) (a0 : Nat) (x1 : Int) (M : ZM) : Option (Int × ZM) :=
  zB (Wp_searched N a0 0 x1 M) fun v101 M101 => some (v101, M101)
def Wp_best (N : Nat) (a0 : Nat) (x1 : Int) (M : ZM) : Option (Int × ZM) :=
  if x1 = (-1) then Wp_best_16 N a0 x1 M else zB (Wp_stands N a0 x1 M) fun v101 M101 => if v101 = 0 then some ((-1000000), M101) else Wp_best_16 N a0 x1 M101
def Wp_alone_26 (N : Nat) (a0 : Nat) (x1 : Int) (x2 : Int) (M : ZM) : Option (Int × ZM) :=
  zB (Wp_searched N a0 x1 x2 M) fun v101 M101 => some (v101, M101)
def Wp_alone (N : Nat) (a0 : Nat) (x1 : Int) (x2 : Int) (M : ZM) : Option (Int × ZM) :=
  if x1 < 1 then some ((-2), M) else if 2 < x1 then some ((-2), M) else if x2 = (-1) then Wp_alone_26 N a0 x1 x2 M else zB (Wp_stands N a0 x2 M) fun v101 M101 => if v101 = 0 then some ((-2), M101) else Wp_alone_26 N a0 x1 x2 M101
def Wp_idle_40 (N : Nat) : Nat → Nat → Int → Int → Int → Int → ZM → Option (Int × ZM)
  | 0, _, _, _, _, _, _ => none
  | n + 1, a0, x1, x2, x3, x4, M => if x1 < x4 then some (x3, M) else if z_and x4 (z_xor x1 (-1)) = 0 then zW (pI M 7 1 2 (z_or (z_and (mI M 7 0 2) (z_xor x1 (-1))) (z_and x1 (z_xor x4 (-1))))) fun M101 => zO (zrg (mR M101) 0) fun p102 => zB (Fl_sold N 0 p102 1 M101) fun v103 M103 => if x3 = (-1) then zW (z32 (x4 + 1)) fun x104 => Wp_idle_40 N n a0 x1 v103 x4 x104 M103 else if x2 < v103 then zW (z32 (x4 + 1)) fun x105 => Wp_idle_40 N n a0 x1 v103 x4 x105 M103 else zW (z32 (x4 + 1)) fun x106 => Wp_idle_40 N n a0 x1 x2 x3 x106 M103 else zW (z32 (x4 + 1)) fun x107 => Wp_idle_40 N n a0 x1 x2 x3 x107 M
def Wp_idle (N : Nat) (a0 : Nat) (M : ZM) : Option (Int × ZM) :=
  zO (zrg (mR M) 0) fun p101 => zB (St_everyone N 0 p101 M) fun v102 M102 => zW (z_and v102 (z_xor (mI M102 7 0 3) (-1))) fun x103 => zBv (St_copy N 1 0 M102) fun M104 => Wp_idle_40 N N a0 x103 0 (-1) 0 M104
def Wp_straight (N : Nat) (a0 : Nat) (M : ZM) : Option (Int × ZM) :=
  zBv (St_copy N 1 0 M) fun M101 => zBv (Ar_fill N 40 1 2 M101) fun M102 => zO (zrg (mR M102) 0) fun p103 => zB (Fl_sold N 0 p103 1 M102) fun v104 M104 => zO (zrg (mR M104) 0) fun p105 => zB (Fl_sold N 0 p105 0 M104) fun v106 M106 => some (z32 (v104 - v106), M106)
def Wp_full_19 (N : Nat) : Nat → Nat → Int → Int → ZM → Option (Int × ZM)
  | 0, _, _, _, _ => none
  | n + 1, a0, x1, x2, M => zO (zrg (mR M) 0) fun p101 => if x2 < mI M 4 p101 0 then zI ((0 : Int) ≤ x2 ∧ x2 < 6) <| if mI M 31 p101 x2.toNat = (-1) then zW (z32 (x2 + 1)) fun x102 => Wp_full_19 N n a0 x1 x102 M else zI ((0 : Int) ≤ x2 ∧ x2 < 6) <| zI ((0 : Int) ≤ x2 ∧ x2 < 6) <| if mI M 23 0 x2.toNat = mI M 32 p101 x2.toNat then zW (z_or x1 (z_shl 1 x2)) fun x103 => zW (z32 (x2 + 1)) fun x104 => Wp_full_19 N n a0 x103 x104 M else zW (z32 (x2 + 1)) fun x105 => Wp_full_19 N n a0 x1 x105 M else some (x1, M)
def Wp_full (N : Nat) (a0 : Nat) (M : ZM) : Option (Int × ZM) :=
  zO (zrg (mR M) 0) fun p101 => zBv (Fl_measure N 0 p101 0 M) fun M102 => Wp_full_19 N N a0 0 0 M102
def Wp_dear_21 (N : Nat) : Nat → Nat → Int → Int → Int → ZM → Option (Int × ZM)
  | 0, _, _, _, _, _ => none
  | n + 1, a0, x1, x2, x3, M => zO (zrg (mR M) 0) fun p101 => if x3 < mI M 4 p101 0 then zI ((0 : Int) ≤ x3 ∧ x3 < 6) <| if mI M 31 p101 x3.toNat = (-1) then zW (z32 (x3 + 1)) fun x102 => Wp_dear_21 N n a0 x1 x2 x102 M else zBv (Fl_bring N 0 p101 x3 M) fun M103 => if x1 = (-1) then zW (mI M103 0 0 6) fun x104 => zW (z32 (x3 + 1)) fun x105 => Wp_dear_21 N n a0 x3 x104 x105 M103 else if mI M103 0 0 6 < x2 then zW (mI M103 0 0 6) fun x106 => zW (z32 (x3 + 1)) fun x107 => Wp_dear_21 N n a0 x3 x106 x107 M103 else zW (z32 (x3 + 1)) fun x108 => Wp_dear_21 N n a0 x1 x2 x108 M103 else some (x1, M)
def Wp_dear (N : Nat) (a0 : Nat) (M : ZM) : Option (Int × ZM) :=
  zO (zrg (mR M) 0) fun p101 => zBv (Fl_measure N 0 p101 0 M) fun M102 => Wp_dear_21 N N a0 (-1) 0 0 M102
def Wp_fault (N : Nat) (a0 : Nat) (x1 : Int) (M : ZM) : Option (Int × ZM) :=
  zB (Wp_stands N a0 x1 M) fun v101 M101 => if v101 = 0 then some ((-1), M101) else zO (zrg (mR M101) 0) fun p102 => zI ((0 : Int) ≤ x1 ∧ x1 < 6) <| if mI M101 31 p102 x1.toNat = (-1) then some ((-1), M101) else zBv (Fl_measure N 0 p102 0 M101) fun M103 => zO (zrg (mR M103) 0) fun p104 => zBv (Fl_bring N 0 p104 x1 M103) fun M105 => some (mI M105 0 0 6, M105)
def Wp_ownWind_17 (N : Nat) : Nat → Nat → Nat → Int → Int → Int → ZM → Option (Int × ZM)
  | 0, _, _, _, _, _, _ => none
  | n + 1, a0, a1, x2, x3, x4, M => zO (zrg (mR M) 0) fun p101 => if x4 < mI M 4 p101 0 then zI ((0 : Int) ≤ x4 ∧ x4 < 6) <| if mI M 29 p101 x4.toNat = x2 then zB (St_runs N a1 x4 M) fun v102 M102 => if v102 = 0 then zW (z32 (x4 + 1)) fun x103 => Wp_ownWind_17 N n a0 a1 x2 x3 x103 M102 else zI ((0 : Int) ≤ x4 ∧ x4 < 6) <| zW (z32 (x3 + (mI M102 21 0 x4.toNat))) fun x104 => zW (z32 (x4 + 1)) fun x105 => Wp_ownWind_17 N n a0 a1 x2 x104 x105 M102 else zW (z32 (x4 + 1)) fun x106 => Wp_ownWind_17 N n a0 a1 x2 x3 x106 M else some (x3, M)
def Wp_ownWind (N : Nat) (a0 : Nat) (a1 : Nat) (x2 : Int) (M : ZM) : Option (Int × ZM) :=
  zO (zrg (mR M) 0) fun p101 => zBv (Fl_measure N 0 p101 a1 M) fun M102 => Wp_ownWind_17 N N a0 a1 x2 0 0 M102
def Wp_robbed_35 (N : Nat) : Nat → Nat → Int → Int → Int → ZM → Option (Int × ZM)
  | 0, _, _, _, _, _ => none
  | n + 1, a0, x1, x2, x3, M => zO (zrg (mR M) 0) fun p101 => if x3 < mI M 4 p101 0 then zI ((0 : Int) ≤ x3 ∧ x3 < 6) <| if mI M 29 p101 x3.toNat = x1 then zW (z32 (x3 + 1)) fun x102 => Wp_robbed_35 N n a0 x1 x2 x102 M else zW (pI M 7 1 2 (z_and (mI M 7 1 2) (z_xor (z_shl 1 x3) (-1)))) fun M103 => zW (z32 (x3 + 1)) fun x104 => Wp_robbed_35 N n a0 x1 x2 x104 M103 else zB (Wp_ownWind N a0 1 x1 M) fun v105 M105 => some (z32 (v105 - x2), M105)
def Wp_robbed (N : Nat) (a0 : Nat) (x1 : Int) (M : ZM) : Option (Int × ZM) :=
  if x1 < 1 then some ((-1), M) else if 2 < x1 then some ((-1), M) else zB (Wp_ownWind N a0 0 x1 M) fun v101 M101 => zBv (St_copy N 1 0 M101) fun M102 => Wp_robbed_35 N N a0 x1 v101 0 M102
def Wp_front_19 (N : Nat) : Nat → Nat → Int → Int → ZM → Option (Int × ZM)
  | 0, _, _, _, _ => none
  | n + 1, a0, x1, x2, M => zO (zrg (mR M) 0) fun p101 => if x2 < mI M 4 p101 0 then zI ((0 : Int) ≤ x2 ∧ x2 < 6) <| if mI M 20 0 x2.toNat = 0 then zW (z_or x1 (z_shl 1 x2)) fun x102 => zW (z32 (x2 + 1)) fun x103 => Wp_front_19 N n a0 x102 x103 M else zW (z32 (x2 + 1)) fun x104 => Wp_front_19 N n a0 x1 x104 M else some (x1, M)
def Wp_front (N : Nat) (a0 : Nat) (M : ZM) : Option (Int × ZM) :=
  zO (zrg (mR M) 0) fun p101 => zBv (Fl_measure N 0 p101 0 M) fun M102 => Wp_front_19 N N a0 0 0 M102
def Wp_shade_14 (N : Nat) : Nat → Nat → Int → Int → Int → ZM → Option (Int × ZM)
  | 0, _, _, _, _, _ => none
  | n + 1, a0, x1, x2, x3, M => zO (zrg (mR M) 0) fun p101 => if x3 < mI M 4 p101 0 then if x3 = x1 then zW (z32 (x3 + 1)) fun x102 => Wp_shade_14 N n a0 x1 x2 x102 M else zB (Wp_takenNow N a0 x1 x3 M) fun v103 M103 => if 0 < v103 then zW (z_or x2 (z_shl 1 x3)) fun x104 => zW (z32 (x3 + 1)) fun x105 => Wp_shade_14 N n a0 x1 x104 x105 M103 else zW (z32 (x3 + 1)) fun x106 => Wp_shade_14 N n a0 x1 x2 x106 M103 else some (x2, M)
def Wp_shade (N : Nat) (a0 : Nat) (x1 : Int) (M : ZM) : Option (Int × ZM) :=
  zB (Wp_stands N a0 x1 M) fun v101 M101 => if v101 = 0 then some ((-1), M101) else Wp_shade_14 N N a0 x1 0 0 M101
def Wp_hops_17 (N : Nat) : Nat → Nat → Int → Int → Int → ZM → Option (Int × ZM)
  | 0, _, _, _, _, _ => none
  | n + 1, a0, x2, x3, x4, M => if x4 < 6 then zB (Wp_stands N a0 x2 M) fun v101 M101 => if v101 = 0 then some (x3, M101) else zO (zrg (mR M101) 0) fun p102 => zI ((0 : Int) ≤ x2 ∧ x2 < 6) <| if mI M101 31 p102 x2.toNat = (-1) then some (x3, M101) else zW (z32 (x3 + 1)) fun x103 => zI ((0 : Int) ≤ x2 ∧ x2 < 6) <| zW (mI M101 31 p102 x2.toNat) fun x104 => zW (z32 (x4 + 1)) fun x105 => Wp_hops_17 N n a0 x104 x103 x105 M101 else some (x3, M)
def Wp_hops (N : Nat) (a0 : Nat) (x1 : Int) (M : ZM) : Option (Int × ZM) :=
  zB (Wp_stands N a0 x1 M) fun v101 M101 => if v101 = 0 then some ((-1), M101) else Wp_hops_17 N N a0 x1 0 0 M101
def Wp_see (N : Nat) (a0 : Nat) (x1 : Int) (x2 : Int) (M : ZM) : Option (Int × ZM) :=
  zB (Wp_stands N a0 x1 M) fun v101 M101 => if v101 = 0 then some (0, M101) else if x2 < 0 then some (0, M101) else if 99 < x2 then some (0, M101) else zB (Nu_add N 14 (z32 ((z32 (x1 * 100)) + x2)) M101) fun v102 M102 => some (z_b1 v102, M102)
def Wp_winds (N : Nat) (a0 : Nat) (x1 : Int) (M : ZM) : Option (Int × ZM) :=
  zO (zrg (mR M) 0) fun p101 => zBv (Wi_guess N 0 p101 0 0 14 M) fun M102 => if x1 = 0 then some (mI M102 9 0 0, M102) else if x1 = 1 then some (mI M102 9 0 1, M102) else if x1 = 2 then some (mI M102 9 0 2, M102) else if x1 = 3 then some (mI M102 9 0 3, M102) else some ((-1), M102)
def Wp_ask_35 (N : Nat) : Nat → Nat → Int → Int → Int → ZM → Option (Int × ZM)
  | 0, _, _, _, _, _ => none
  | n + 1, a0, x1, x2, x3, M => zO (zrg (mR M) 0) fun p101 => if x3 < mI M 4 p101 0 then zB (Wi_mostAlike N 0 x3 M) fun v102 M102 => if v102 < x2 then zW (z32 (x3 + 1)) fun x103 => Wp_ask_35 N n a0 x3 v102 x103 M102 else zW (z32 (x3 + 1)) fun x104 => Wp_ask_35 N n a0 x1 x2 x104 M102 else some (x1, M)
def Wp_ask (N : Nat) (a0 : Nat) (M : ZM) : Option (Int × ZM) :=
  zO (zrg (mR M) 0) fun p101 => zBv (Wi_guess N 0 p101 0 0 14 M) fun M102 => zW (mI M102 9 0 0) fun x103 => Wp_ask_35 N N a0 (-1) x103 0 M102
def Wp_chance_116 (N : Nat) (rec56 : Nat → Int → Int → Int → Int → Int → Int → ZM → Option (Int × ZM)) (a0 : Nat) (x1 : Int) (x2 : Int) (x3 : Int) (x4 : Int) (x6 : Int) (y0 : Int) (y1 : Int) (M : ZM) : Option (Int × ZM) :=
  zW (z32 (y0 + y1)) fun x101 => zO (zrg (mR M) 0) fun p102 => zBv (Fl_give N 0 p102 0 (z32 (x4.tdiv 2)) M) fun M103 => zI ((0 : Int) ≤ x1 ∧ x1 < 6) <| if mI M103 22 0 x1.toNat < x2 then zW (z32 (x101 + 0)) fun x104 => zW (z32 (x6 + 1)) fun x105 => rec56 a0 x1 x2 x3 x4 x104 x105 M103 else zW (z32 (x101 + (z32 (10 - x3)))) fun x106 => zW (z32 (x6 + 1)) fun x107 => rec56 a0 x1 x2 x3 x4 x106 x107 M103
def Wp_chance_56 (N : Nat) : Nat → Nat → Int → Int → Int → Int → Int → Int → ZM → Option (Int × ZM)
  | 0, _, _, _, _, _, _, _, _ => none
  | n + 1, a0, x1, x2, x3, x4, x5, x6, M => if x6 < 4 then zO (zrg (mR M) 0) fun p101 => zBv (Fl_take N 0 p101 0 x6 M) fun M102 => zO (zrg (mR M102) 0) fun p103 => zBv (Fl_give N 0 p103 0 x4 M102) fun M104 => zI ((0 : Int) ≤ x1 ∧ x1 < 6) <| if mI M104 22 0 x1.toNat < x2 then Wp_chance_116 N (Wp_chance_56 N n) a0 x1 x2 x3 x4 x6 x5 0 M104 else Wp_chance_116 N (Wp_chance_56 N n) a0 x1 x2 x3 x4 x6 x5 x3 M104 else some (z32 (x5 * 25000), M)
def Wp_chance (N : Nat) (a0 : Nat) (x1 : Int) (x2 : Int) (x3 : Int) (M : ZM) : Option (Int × ZM) :=
  zB (Wp_stands N a0 x1 M) fun v101 M101 => if v101 = 0 then some ((-1), M101) else if x2 < 1 then some ((-1), M101) else if 99 < x2 then some ((-1), M101) else if x3 < 0 then some ((-1), M101) else if 10 < x3 then some ((-1), M101) else zO (zrg (mR M101) 0) fun p102 => zB (Nu_round N (7 * p102 + 1) (mI M101 7 0 4) M101) fun v103 M103 => Wp_chance_56 N N a0 x1 x2 x3 v103 0 0 M103
def Wp_isDigit (N : Nat) (x0 : Int) (M : ZM) : Option (Int × ZM) :=
  if x0 < 0 then some (0, M) else if 9 < x0 then some (0, M) else some (1, M)
def Wp_gain (N : Nat) (x0 : Int) (x1 : Int) (x2 : Int) (x3 : Int) (x4 : Int) (M : ZM) : Option (Int × ZM) :=
  if x0 = 1 then if x1 = 1 then some (z32 (-x2), M) else some (x3, M) else if x1 = 1 then some (x4, M) else some (0, M)
def Wp_keeps (N : Nat) (x0 : Int) (x1 : Int) (x2 : Int) (x3 : Int) (x4 : Int) (M : ZM) : Option (Int × ZM) :=
  zB (Wp_gain N x0 x1 x2 x3 x4 M) fun v101 M101 => zB (Wp_gain N (z32 (1 - x0)) x1 x2 x3 x4 M101) fun v102 M102 => if v101 < v102 then some (0, M102) else some (1, M102)
def Wp_drawn (N : Nat) (x0 : Int) (M : ZM) : Option (Int × ZM) :=
  some ((z64 ((z64 (x0 * 1103515245)) + 12345)).tmod 2147483648, M)
def Wp_below (N : Nat) (x0 : Int) (x1 : Int) (M : ZM) : Option (Int × ZM) :=
  if 0 < x1 then if x1 = 0 then none else some (z32 ((z64 (x0.tdiv 65536)).tmod x1), M) else some (0, M)
def Wp_days_155 (N : Nat) (rec55 : Nat → Int → Int → Int → Int → Int → ZM → Option (Int × ZM)) (a0 : Nat) (x2 : Int) (x3 : Int) (x4 : Int) (x5 : Int) (x7 : Int) (M : ZM) : Option (Int × ZM) :=
  zO (zrg (mR M) 0) fun p101 => zB (Fl_runStep N 0 p101 1 M) fun v102 M102 => zW (z32 (x4 + v102)) fun x103 => zW (z32 (x7 + 1)) fun x104 => rec55 a0 x2 x3 x103 x5 x104 M102
def Wp_days_131 (N : Nat) (rec55 : Nat → Int → Int → Int → Int → Int → ZM → Option (Int × ZM)) (a0 : Nat) (x2 : Int) (x3 : Int) (x4 : Int) (x5 : Int) (x7 : Int) (x8 : Int) (x9 : Int) (x10 : Int) (M : ZM) : Option (Int × ZM) :=
  if 3 < x9 then Wp_days_155 N rec55 a0 x2 x3 x4 x5 x7 M else zO (zrg (mR M) 0) fun p101 => zB (St_act N 1 p101 x9 x8 x10 M) fun v102 M102 => Wp_days_155 N rec55 a0 x2 x3 x4 x5 x7 M102
def Wp_days_55 (N : Nat) : Nat → Nat → Int → Int → Int → Int → Int → ZM → Option (Int × ZM)
  | 0, _, _, _, _, _, _, _ => none
  | n + 1, a0, x2, x3, x4, x5, x7, M => if x7 < x2 then zO (zrg (mR M) 0) fun p101 => if 0 < mI M 4 p101 0 then zB (Wp_drawn N x5 M) fun v102 M102 => zO (zrg (mR M102) 0) fun p103 => zB (Wp_below N v102 (mI M102 4 p103 0) M102) fun v104 M104 => zB (Wp_drawn N v102 M104) fun v105 M105 => zB (Wp_below N v105 6 M105) fun v106 M106 => if v106 = 0 then zB (Wp_drawn N v105 M106) fun v107 M107 => zB (Wp_below N v107 5 M107) fun v108 M108 => Wp_days_131 N (Wp_days_55 N n) a0 x2 x3 x4 v107 x7 v104 v106 v108 M108 else Wp_days_131 N (Wp_days_55 N n) a0 x2 x3 x4 v105 x7 v104 v106 2 M106 else Wp_days_155 N (Wp_days_55 N n) a0 x2 x3 x4 x5 x7 M else zO (zrg (mR M) 0) fun p109 => zBv (Fl_measure N 0 p109 1 M) fun M110 => if x3 = 0 then some (x4, M110) else if x3 = 1 then some (mI M110 7 1 3, M110) else some (mI M110 0 0 6, M110)
def Wp_days (N : Nat) (a0 : Nat) (x1 : Int) (x2 : Int) (x3 : Int) (M : ZM) : Option (Int × ZM) :=
  if x1 < 0 then some ((-1000000), M) else if 9999 < x1 then some ((-1000000), M) else if x2 < 1 then some ((-1000000), M) else if 99 < x2 then some ((-1000000), M) else if x3 < 0 then some ((-1000000), M) else if 2 < x3 then some ((-1000000), M) else zBv (St_copy N 1 0 M) fun M101 => Wp_days_55 N N a0 x2 x3 0 x1 0 M101
def Wp_mark (N : Nat) (a0 : Nat) (x1 : Int) (x2 : Int) (M : ZM) : Option (Int × ZM) :=
  if x1 < 0 then some (0, M) else if x1 < 4 then zI ((0 : Int) ≤ x1 ∧ x1 < 4) <| zW (x1.toNat) fun a101 => if x2 = 0 then zBv (Mk_lay N a101 0 13 14 M) fun M102 => some (1, M102) else if mI M 2 a101 3 = 0 then some (0, M) else zBv (St_copy N 0 (18 + a101) M) fun M103 => zBv (Nu_copy N 13 (15 + 2 * a101) M103) fun M104 => zBv (Nu_copy N 14 (16 + 2 * a101) M104) fun M105 => zBv (Wp_forgetPast N a0 M105) fun M106 => zBv (Wp_forgetSearches N a0 M106) fun M107 => some (1, M107) else some (0, M)
def Wp_count (N : Nat) (a0 : Nat) (x1 : Int) (M : ZM) : Option (Int × ZM) :=
  if x1 = 0 then zO (zrg (mR M) 0) fun p101 => some (mI M 4 p101 0, M) else if x1 = 1 then some (mI M 7 0 4, M) else if x1 = 2 then zO (zrg (mR M) 0) fun p102 => zB (Nu_round N (7 * p102 + 1) (mI M 7 0 4) M) fun v103 M103 => some (v103, M103) else if x1 = 3 then zO (zrg (mR M) 0) fun p104 => zB (Nu_round N (7 * p104 + 2) (mI M 7 0 4) M) fun v105 M105 => some (v105, M105) else if x1 = 4 then zO (zrg (mR M) 0) fun p106 => zB (Pa_priceAt N p106 (mI M 7 0 4) M) fun v107 M107 => some (v107, M107) else if x1 = 5 then zO (zrg (mR M) 0) fun p108 => zBv (Fl_measure N 0 p108 0 M) fun M109 => some (mI M109 0 0 5, M109) else if x1 = 6 then some (mI M 7 0 5, M) else if x1 = 7 then some (mI M 7 0 2, M) else if x1 = 8 then some (mI M 7 0 3, M) else if x1 = 9 then some (mI M 3 13 1, M) else if x1 = 10 then some (mI M 3 14 1, M) else if x1 = 11 then some (mI M 10 a0 8, M) else if x1 = 12 then some (mI M 8 0 1, M) else some ((-1000000), M)
