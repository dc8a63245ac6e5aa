def Nu_get (N : Nat) (a0 : Nat) (x1 : Int) (M : ZM) : Option (Int × ZM) :=
  if x1 < 0 then some (0, M) else if x1 < mI M 3 a0 1 then zI ((0 : Int) ≤ x1 ∧ x1 < (zlN a0 : Int)) <| some (mI M 26 a0 x1.toNat, M) else some (0, M)
set_option maxRecDepth 20000 in
theorem L_Nu_get {N d sl : Nat} {sx : Nat → Int} {a0 : Nat} {x1 : Int} {M : ZM} {x : Int} {M' : ZM} (h : Nu_get N a0 x1 M = some (x, M')) (hK : mK M = zK0 sl sx) : zLI (d + 0) tb_X4_get 0 [some (vR 3 (some a0)), some (vI x1)] [] M x M' (zK0 sl sx) := by
  obtain ⟨I0, L0, ⟨ra0, rb0, rc0, rd0⟩, K0, c0⟩ := M
  obtain rfl : K0 = zK0 sl sx := hK
  rcases zit h with ⟨g1, h⟩ | ⟨g1, h⟩
  · obtain ⟨rfl, rfl⟩ := zrI h
    exact ⟨zR_ret 4 ((if_pos g1).trans rfl), rfl⟩
  · rcases zit h with ⟨g2, h⟩ | ⟨g2, h⟩
    · obtain ⟨g3, h⟩ := zIx h
      obtain ⟨rfl, rfl⟩ := zrI h
      exact ⟨zR_ret 12 ((if_neg g1).trans ((if_pos g2).trans ((if_pos g3).trans rfl))), rfl⟩
    · obtain ⟨rfl, rfl⟩ := zrI h
      exact ⟨zR_ret 8 ((if_neg g1).trans ((if_neg g2).trans rfl)), rfl⟩
def Ma_abs (N : Nat) (x0 : Int) (M : ZM) : Option (Int × ZM) :=
  if x0 < 0 then some (z32 (-x0), M) else some (x0, M)
set_option maxRecDepth 20000 in
theorem L_Ma_abs {N d sl : Nat} {sx : Nat → Int} {x0 : Int} {M : ZM} {x : Int} {M' : ZM} (h : Ma_abs N x0 M = some (x, M')) (hK : mK M = zK0 sl sx) : zLI (d + 0) tb_J9_abs_0f7a4 0 [some (vI x0)] [] M x M' (zK0 sl sx) := by
  obtain ⟨I0, L0, ⟨ra0, rb0, rc0, rd0⟩, K0, c0⟩ := M
  obtain rfl : K0 = zK0 sl sx := hK
  rcases zit h with ⟨g1, h⟩ | ⟨g1, h⟩
  · obtain ⟨rfl, rfl⟩ := zrI h
    exact ⟨zR_ret 6 ((if_pos g1).trans rfl), rfl⟩
  · obtain ⟨rfl, rfl⟩ := zrI h
    exact ⟨zR_ret 4 ((if_neg g1).trans rfl), rfl⟩
def Pa_turnedBy (N : Nat) (x0 : Int) (M : ZM) : Option (Int × ZM) :=
  zB (Ma_abs N (z32 (x0 - 2)) M) fun v101 M101 => some (v101, M101)
set_option maxRecDepth 20000 in
theorem L_Pa_turnedBy {N d sl : Nat} {sx : Nat → Int} {x0 : Int} {M : ZM} {x : Int} {M' : ZM} (h : Pa_turnedBy N x0 M = some (x, M')) (hK : mK M = zK0 sl sx) : zLI (d + 1) tb_X5_turnedBy 0 [some (vI x0)] [] M x M' (zK0 sl sx) := by
  obtain ⟨I0, L0, ⟨ra0, rb0, rc0, rd0⟩, K0, c0⟩ := M
  obtain rfl : K0 = zK0 sl sx := hK
  obtain ⟨v101, M101, f101, h⟩ := zBx h
  have q101 := L_Ma_abs (d := d) f101 rfl
  obtain ⟨I101, L101, ⟨ra101, rb101, rc101, rd101⟩, K101, c101⟩ := M101
  obtain rfl : K101 = zK0 sl sx := q101.2
  suffices w101 : zLI (d + 1) tb_X5_turnedBy 6 [some (vI x0)] [vI v101] (I101, L101, (ra101, rb101, rc101, rd101), zK0 sl sx, c101) x M' (zK0 sl sx) from ⟨zR_call (rest := []) 4 q101.1 (fun n => rfl) w101.1, w101.2⟩
  obtain ⟨rfl, rfl⟩ := zrI h
  exact ⟨zR_ret 1 (rfl), rfl⟩
def Pa_drift (N : Nat) (x0 : Int) (x1 : Int) (M : ZM) : Option (Int × ZM) :=
  zB (Pa_turnedBy N x0 M) fun v101 M101 => if v101 = 0 then some (0, M101) else if v101 = 1 then if x1 = 1 then some (0, M101) else if x0 < 2 then some ((-1), M101) else some (1, M101) else if x0 < 2 then some ((-1), M101) else some (1, M101)
set_option maxRecDepth 20000 in
theorem L_Pa_drift {N d sl : Nat} {sx : Nat → Int} {x0 : Int} {x1 : Int} {M : ZM} {x : Int} {M' : ZM} (h : Pa_drift N x0 x1 M = some (x, M')) (hK : mK M = zK0 sl sx) : zLI (d + 2) tb_X5_drift 0 [some (vI x0), some (vI x1), none] [] M x M' (zK0 sl sx) := by
  obtain ⟨I0, L0, ⟨ra0, rb0, rc0, rd0⟩, K0, c0⟩ := M
  obtain rfl : K0 = zK0 sl sx := hK
  obtain ⟨v101, M101, f101, h⟩ := zBx h
  have q101 := L_Pa_turnedBy (d := d) f101 rfl
  obtain ⟨I101, L101, ⟨ra101, rb101, rc101, rd101⟩, K101, c101⟩ := M101
  obtain rfl : K101 = zK0 sl sx := q101.2
  suffices w101 : zLI (d + 2) tb_X5_drift 4 [some (vI x0), some (vI x1), none] [vI v101] (I101, L101, (ra101, rb101, rc101, rd101), zK0 sl sx, c101) x M' (zK0 sl sx) from ⟨zR_call (rest := []) 2 q101.1 (fun n => rfl) w101.1, w101.2⟩
  rcases zit h with ⟨g1, h⟩ | ⟨g1, h⟩
  · obtain ⟨rfl, rfl⟩ := zrI h
    exact ⟨zR_ret 5 ((if_pos g1).trans rfl), rfl⟩
  · rcases zit h with ⟨g2, h⟩ | ⟨g2, h⟩
    · rcases zit h with ⟨g3, h⟩ | ⟨g3, h⟩
      · obtain ⟨rfl, rfl⟩ := zrI h
        exact ⟨zR_ret 11 ((if_neg g1).trans ((if_pos g2).trans ((if_pos g3).trans rfl))), rfl⟩
      · rcases zit h with ⟨g4, h⟩ | ⟨g4, h⟩
        · obtain ⟨rfl, rfl⟩ := zrI h
          exact ⟨zR_ret 15 ((if_neg g1).trans ((if_pos g2).trans ((if_neg g3).trans ((if_pos g4).trans rfl)))), rfl⟩
        · obtain ⟨rfl, rfl⟩ := zrI h
          exact ⟨zR_ret 14 ((if_neg g1).trans ((if_pos g2).trans ((if_neg g3).trans ((if_neg g4).trans rfl)))), rfl⟩
    · rcases zit h with ⟨g5, h⟩ | ⟨g5, h⟩
      · obtain ⟨rfl, rfl⟩ := zrI h
        exact ⟨zR_ret 12 ((if_neg g1).trans ((if_neg g2).trans ((if_pos g5).trans rfl))), rfl⟩
      · obtain ⟨rfl, rfl⟩ := zrI h
        exact ⟨zR_ret 11 ((if_neg g1).trans ((if_neg g2).trans ((if_neg g5).trans rfl))), rfl⟩
def Ma_max (N : Nat) (x0 : Int) (x1 : Int) (M : ZM) : Option (Int × ZM) :=
  if x0 < x1 then some (x1, M) else some (x0, M)
set_option maxRecDepth 20000 in
theorem L_Ma_max {N d sl : Nat} {sx : Nat → Int} {x0 : Int} {x1 : Int} {M : ZM} {x : Int} {M' : ZM} (h : Ma_max N x0 x1 M = some (x, M')) (hK : mK M = zK0 sl sx) : zLI (d + 0) tb_J9_max_7cf53 0 [some (vI x0), some (vI x1)] [] M x M' (zK0 sl sx) := by
  obtain ⟨I0, L0, ⟨ra0, rb0, rc0, rd0⟩, K0, c0⟩ := M
  obtain rfl : K0 = zK0 sl sx := hK
  rcases zit h with ⟨g1, h⟩ | ⟨g1, h⟩
  · obtain ⟨rfl, rfl⟩ := zrI h
    exact ⟨zR_ret 5 ((if_pos g1).trans rfl), rfl⟩
  · obtain ⟨rfl, rfl⟩ := zrI h
    exact ⟨zR_ret 6 ((if_neg g1).trans rfl), rfl⟩
def Pa_tenths_156 (N : Nat) (y0 : Int) (y1 : Int) (M : ZM) : Option (Int × ZM) :=
  zB (Ma_max N (z32 (y0 - y1)) 0 M) fun v101 M101 => some (v101, M101)
def Pa_tenths_105 (N : Nat) (a0 : Nat) (x1 : Int) (x2 : Int) (x8 : Int) (x9 : Int) (M : ZM) : Option (Int × ZM) :=
  if x8 < 1 then some (0, M) else if 3 < x8 then some (0, M) else zB (Pa_drift N x2 x8 M) fun v101 M101 => if x9 = v101 then zB (Nu_get N (7 * a0 + 4) (z32 (x8 - 1)) M101) fun v102 M102 => zI ((0 : Int) ≤ x1 ∧ x1 < 6) <| if mI M102 28 a0 x1.toNat = 3 then Pa_tenths_156 N v102 1 M102 else Pa_tenths_156 N v102 0 M102 else some (0, M101)
def Pa_tenths_86 (N : Nat) (a0 : Nat) (x1 : Int) (x2 : Int) (x4 : Int) (x8 : Int) (y0 : Int) (M : ZM) : Option (Int × ZM) :=
  if x4 = 2 then zW (z32 (-x8)) fun x101 => Pa_tenths_105 N a0 x1 x2 x101 y0 M else if x4 = 1 then zW (z32 (-x8)) fun x102 => Pa_tenths_105 N a0 x1 x2 x102 y0 M else Pa_tenths_105 N a0 x1 x2 x8 y0 M
def Pa_tenths_58 (N : Nat) (a0 : Nat) (x1 : Int) (x2 : Int) (x4 : Int) (x5 : Int) (x6 : Int) (y0 : Int) (M : ZM) : Option (Int × ZM) :=
  if y0 = 0 then if y0 = 0 then Pa_tenths_86 N a0 x1 x2 x4 x6 x5 M else Pa_tenths_86 N a0 x1 x2 x4 x6 x6 M else if y0 = 0 then Pa_tenths_86 N a0 x1 x2 x4 x5 x5 M else Pa_tenths_86 N a0 x1 x2 x4 x5 x6 M
def Pa_tenths (N : Nat) (a0 : Nat) (x1 : Int) (x2 : Int) (x3 : Int) (x4 : Int) (M : ZM) : Option (Int × ZM) :=
  zI ((0 : Int) ≤ x3 ∧ x3 < 6) <| zI ((0 : Int) ≤ x1 ∧ x1 < 6) <| zW (z32 ((z32 ((mI M 30 a0 x3.toNat).tdiv 6)) - (z32 ((mI M 30 a0 x1.toNat).tdiv 6)))) fun x101 => zI ((0 : Int) ≤ x3 ∧ x3 < 6) <| zI ((0 : Int) ≤ x1 ∧ x1 < 6) <| zW (z32 (((mI M 30 a0 x3.toNat).tmod 6) - ((mI M 30 a0 x1.toNat).tmod 6))) fun x102 => if x4 = 0 then Pa_tenths_58 N a0 x1 x2 x4 x101 x102 1 M else if x4 = 2 then Pa_tenths_58 N a0 x1 x2 x4 x101 x102 1 M else Pa_tenths_58 N a0 x1 x2 x4 x101 x102 0 M
set_option maxRecDepth 20000 in
theorem L_Pa_tenths_156 {N d sl : Nat} {sx : Nat → Int} {y0 : Int} {y1 : Int} {M : ZM} {x : Int} {M' : ZM} (h : Pa_tenths_156 N y0 y1 M = some (x, M')) (hK : mK M = zK0 sl sx) : zLI (d + 3) tb_X5_tenths 156 [none, none, none, none, none, none, none, none, none, none] [vI y1, vI y0] M x M' (zK0 sl sx) := by
  obtain ⟨I0, L0, ⟨ra0, rb0, rc0, rd0⟩, K0, c0⟩ := M
  obtain rfl : K0 = zK0 sl sx := hK
  obtain ⟨v101, M101, f101, h⟩ := zBx h
  have q101 := L_Ma_max (d := (d + 2)) f101 rfl
  obtain ⟨I101, L101, ⟨ra101, rb101, rc101, rd101⟩, K101, c101⟩ := M101
  obtain rfl : K101 = zK0 sl sx := q101.2
  suffices w101 : zLI (d + 3) tb_X5_tenths 161 [none, none, none, none, none, none, none, none, none, none] [vI v101] (I101, L101, (ra101, rb101, rc101, rd101), zK0 sl sx, c101) x M' (zK0 sl sx) from ⟨zR_call (rest := []) 3 q101.1 (fun n => rfl) w101.1, w101.2⟩
  obtain ⟨rfl, rfl⟩ := zrI h
  exact ⟨zR_ret 1 (rfl), rfl⟩
set_option maxRecDepth 20000 in
theorem L_Pa_tenths_105 {N d sl : Nat} {sx : Nat → Int} {a0 : Nat} {x1 : Int} {x2 : Int} {x8 : Int} {x9 : Int} {M : ZM} {x : Int} {M' : ZM} (h : Pa_tenths_105 N a0 x1 x2 x8 x9 M = some (x, M')) (hK : mK M = zK0 sl sx) : zLI (d + 3) tb_X5_tenths 105 [some (vR 4 (some a0)), some (vI x1), some (vI x2), none, none, none, none, none, some (vI x8), some (vI x9)] [] M x M' (zK0 sl sx) := by
  obtain ⟨I0, L0, ⟨ra0, rb0, rc0, rd0⟩, K0, c0⟩ := M
  obtain rfl : K0 = zK0 sl sx := hK
  rcases zit h with ⟨g1, h⟩ | ⟨g1, h⟩
  · obtain ⟨rfl, rfl⟩ := zrI h
    exact ⟨zR_ret 5 ((if_pos g1).trans rfl), rfl⟩
  · rcases zit h with ⟨g2, h⟩ | ⟨g2, h⟩
    · obtain ⟨rfl, rfl⟩ := zrI h
      exact ⟨zR_ret 8 ((if_neg g1).trans ((if_pos g2).trans rfl)), rfl⟩
    · obtain ⟨v101, M101, f101, h⟩ := zBx h
      have q101 := L_Pa_drift (d := d) f101 rfl
      obtain ⟨I101, L101, ⟨ra101, rb101, rc101, rd101⟩, K101, c101⟩ := M101
      obtain rfl : K101 = zK0 sl sx := q101.2
      suffices w101 : zLI (d + 3) tb_X5_tenths 125 [some (vR 4 (some a0)), some (vI x1), some (vI x2), none, none, none, none, none, some (vI x8), some (vI x9)] [vI v101, vI x9] (I101, L101, (ra101, rb101, rc101, rd101), zK0 sl sx, c101) x M' (zK0 sl sx) from ⟨zR_call (rest := [vI x9]) 10 q101.1 (fun n => (if_neg g1).trans ((if_neg g2).trans rfl)) w101.1, w101.2⟩
      rcases zit h with ⟨g3, h⟩ | ⟨g3, h⟩
      · obtain ⟨v102, M102, f102, h⟩ := zBx h
        have q102 := L_Nu_get (d := (d + 2)) f102 rfl
        obtain ⟨I102, L102, ⟨ra102, rb102, rc102, rd102⟩, K102, c102⟩ := M102
        obtain rfl : K102 = zK0 sl sx := q102.2
        suffices w102 : zLI (d + 3) tb_X5_tenths 141 [some (vR 4 (some a0)), some (vI x1), some (vI x2), none, none, none, none, none, some (vI x8), some (vI x9)] [vI v102] (I102, L102, (ra102, rb102, rc102, rd102), zK0 sl sx, c102) x M' (zK0 sl sx) from ⟨zR_call (rest := []) 7 q102.1 (fun n => (if_pos g3).trans rfl) w102.1, w102.2⟩
        obtain ⟨g4, h⟩ := zIx h
        rcases zit h with ⟨g5, h⟩ | ⟨g5, h⟩
        · have q := L_Pa_tenths_156 (d := d) h rfl
          exact ⟨zR_go 8 (zR_up (ls' := [some (vR 4 (some a0)), some (vI x1), some (vI x2), none, none, none, none, none, some (vI x8), some (vI x9)]) q.1 ⟨.inl rfl, .inl rfl, .inl rfl, .inr rfl, .inr rfl, .inr rfl, .inr rfl, .inr rfl, .inl rfl, .inl rfl, trivial⟩) (fun n => (if_pos g4).trans ((if_pos g5).trans rfl)), q.2⟩
        · have q := L_Pa_tenths_156 (d := d) h rfl
          exact ⟨zR_go 7 (zR_up (ls' := [some (vR 4 (some a0)), some (vI x1), some (vI x2), none, none, none, none, none, some (vI x8), some (vI x9)]) q.1 ⟨.inl rfl, .inl rfl, .inl rfl, .inr rfl, .inr rfl, .inr rfl, .inr rfl, .inr rfl, .inl rfl, .inl rfl, trivial⟩) (fun n => (if_pos g4).trans ((if_neg g5).trans rfl)), q.2⟩
      · obtain ⟨rfl, rfl⟩ := zrI h
        exact ⟨zR_ret 3 ((if_neg g3).trans rfl), rfl⟩
set_option maxRecDepth 20000 in
theorem L_Pa_tenths_86 {N d sl : Nat} {sx : Nat → Int} {a0 : Nat} {x1 : Int} {x2 : Int} {x4 : Int} {x8 : Int} {y0 : Int} {M : ZM} {x : Int} {M' : ZM} (h : Pa_tenths_86 N a0 x1 x2 x4 x8 y0 M = some (x, M')) (hK : mK M = zK0 sl sx) : zLI (d + 3) tb_X5_tenths 86 [some (vR 4 (some a0)), some (vI x1), some (vI x2), none, some (vI x4), none, none, none, some (vI x8), none] [vI y0] M x M' (zK0 sl sx) := by
  obtain ⟨I0, L0, ⟨ra0, rb0, rc0, rd0⟩, K0, c0⟩ := M
  obtain rfl : K0 = zK0 sl sx := hK
  rcases zit h with ⟨g1, h⟩ | ⟨g1, h⟩
  · have q := L_Pa_tenths_105 (d := d) h rfl
    exact ⟨zR_go 7 (zR_up (ls' := [some (vR 4 (some a0)), some (vI x1), some (vI x2), none, some (vI x4), none, none, none, some (vI (z32 (-x8))), some (vI y0)]) q.1 ⟨.inr rfl, .inr rfl, .inr rfl, .inr rfl, .inl rfl, .inr rfl, .inr rfl, .inr rfl, .inr rfl, .inr rfl, trivial⟩) (fun n => (if_pos g1).trans rfl), q.2⟩
  · rcases zit h with ⟨g2, h⟩ | ⟨g2, h⟩
    · have q := L_Pa_tenths_105 (d := d) h rfl
      exact ⟨zR_go 10 (zR_up (ls' := [some (vR 4 (some a0)), some (vI x1), some (vI x2), none, some (vI x4), none, none, none, some (vI (z32 (-x8))), some (vI y0)]) q.1 ⟨.inr rfl, .inr rfl, .inr rfl, .inr rfl, .inl rfl, .inr rfl, .inr rfl, .inr rfl, .inr rfl, .inr rfl, trivial⟩) (fun n => (if_neg g1).trans ((if_pos g2).trans rfl)), q.2⟩
    · have q := L_Pa_tenths_105 (d := d) h rfl
      exact ⟨zR_go 7 (zR_up (ls' := [some (vR 4 (some a0)), some (vI x1), some (vI x2), none, some (vI x4), none, none, none, some (vI x8), some (vI y0)]) q.1 ⟨.inr rfl, .inr rfl, .inr rfl, .inr rfl, .inl rfl, .inr rfl, .inr rfl, .inr rfl, .inr rfl, .inr rfl, trivial⟩) (fun n => (if_neg g1).trans ((if_neg g2).trans rfl)), q.2⟩
set_option maxRecDepth 20000 in
theorem L_Pa_tenths_58 {N d sl : Nat} {sx : Nat → Int} {a0 : Nat} {x1 : Int} {x2 : Int} {x4 : Int} {x5 : Int} {x6 : Int} {y0 : Int} {M : ZM} {x : Int} {M' : ZM} (h : Pa_tenths_58 N a0 x1 x2 x4 x5 x6 y0 M = some (x, M')) (hK : mK M = zK0 sl sx) : zLI (d + 3) tb_X5_tenths 58 [some (vR 4 (some a0)), some (vI x1), some (vI x2), none, some (vI x4), some (vI x5), some (vI x6), none, none, none] [vI y0] M x M' (zK0 sl sx) := by
  obtain ⟨I0, L0, ⟨ra0, rb0, rc0, rd0⟩, K0, c0⟩ := M
  obtain rfl : K0 = zK0 sl sx := hK
  rcases zit h with ⟨g1, h⟩ | ⟨g1, h⟩
  · rcases zit h with ⟨g2, h⟩ | ⟨g2, h⟩
    · have q := L_Pa_tenths_86 (d := d) h rfl
      exact ⟨zR_go 8 (zR_up (ls' := [some (vR 4 (some a0)), some (vI x1), some (vI x2), none, some (vI x4), some (vI x5), some (vI x6), some (vI y0), some (vI x6), none]) q.1 ⟨.inr rfl, .inr rfl, .inr rfl, .inr rfl, .inr rfl, .inl rfl, .inl rfl, .inl rfl, .inr rfl, .inr rfl, trivial⟩) (fun n => (if_pos g1).trans ((if_pos g2).trans rfl)), q.2⟩
    · have q := L_Pa_tenths_86 (d := d) h rfl
      exact ⟨zR_go 9 (zR_up (ls' := [some (vR 4 (some a0)), some (vI x1), some (vI x2), none, some (vI x4), some (vI x5), some (vI x6), some (vI y0), some (vI x6), none]) q.1 ⟨.inr rfl, .inr rfl, .inr rfl, .inr rfl, .inr rfl, .inl rfl, .inl rfl, .inl rfl, .inr rfl, .inr rfl, trivial⟩) (fun n => (if_pos g1).trans ((if_neg g2).trans rfl)), q.2⟩
  · rcases zit h with ⟨g3, h⟩ | ⟨g3, h⟩
    · have q := L_Pa_tenths_86 (d := d) h rfl
      exact ⟨zR_go 9 (zR_up (ls' := [some (vR 4 (some a0)), some (vI x1), some (vI x2), none, some (vI x4), some (vI x5), some (vI x6), some (vI y0), some (vI x5), none]) q.1 ⟨.inr rfl, .inr rfl, .inr rfl, .inr rfl, .inr rfl, .inl rfl, .inl rfl, .inl rfl, .inr rfl, .inr rfl, trivial⟩) (fun n => (if_neg g1).trans ((if_pos g3).trans rfl)), q.2⟩
    · have q := L_Pa_tenths_86 (d := d) h rfl
      exact ⟨zR_go 10 (zR_up (ls' := [some (vR 4 (some a0)), some (vI x1), some (vI x2), none, some (vI x4), some (vI x5), some (vI x6), some (vI y0), some (vI x5), none]) q.1 ⟨.inr rfl, .inr rfl, .inr rfl, .inr rfl, .inr rfl, .inl rfl, .inl rfl, .inl rfl, .inr rfl, .inr rfl, trivial⟩) (fun n => (if_neg g1).trans ((if_neg g3).trans rfl)), q.2⟩
set_option maxRecDepth 20000 in
theorem L_Pa_tenths {N d sl : Nat} {sx : Nat → Int} {a0 : Nat} {x1 : Int} {x2 : Int} {x3 : Int} {x4 : Int} {M : ZM} {x : Int} {M' : ZM} (h : Pa_tenths N a0 x1 x2 x3 x4 M = some (x, M')) (hK : mK M = zK0 sl sx) : zLI (d + 3) tb_X5_tenths 0 [some (vR 4 (some a0)), some (vI x1), some (vI x2), some (vI x3), some (vI x4), none, none, none, none, none] [] M x M' (zK0 sl sx) := by
  obtain ⟨I0, L0, ⟨ra0, rb0, rc0, rd0⟩, K0, c0⟩ := M
  obtain rfl : K0 = zK0 sl sx := hK
  obtain ⟨g1, h⟩ := zIx h
  obtain ⟨g2, h⟩ := zIx h
  obtain ⟨g3, h⟩ := zIx h
  obtain ⟨g4, h⟩ := zIx h
  rcases zit h with ⟨g5, h⟩ | ⟨g5, h⟩
  · have q := L_Pa_tenths_58 (d := d) h rfl
    exact ⟨zR_go 32 (zR_up (ls' := [some (vR 4 (some a0)), some (vI x1), some (vI x2), some (vI x3), some (vI x4), some (vI (z32 ((z32 ((mI (I0, L0, (ra0, rb0, rc0, rd0), zK0 sl sx, c0) 30 a0 x3.toNat).tdiv 6)) - (z32 ((mI (I0, L0, (ra0, rb0, rc0, rd0), zK0 sl sx, c0) 30 a0 x1.toNat).tdiv 6))))), some (vI (z32 (((mI (I0, L0, (ra0, rb0, rc0, rd0), zK0 sl sx, c0) 30 a0 x3.toNat).tmod 6) - ((mI (I0, L0, (ra0, rb0, rc0, rd0), zK0 sl sx, c0) 30 a0 x1.toNat).tmod 6)))), none, none, none]) q.1 ⟨.inr rfl, .inr rfl, .inr rfl, .inl rfl, .inr rfl, .inr rfl, .inr rfl, .inr rfl, .inr rfl, .inr rfl, trivial⟩) (fun n => (if_pos g1).trans ((if_pos g2).trans ((if_pos g3).trans ((if_pos g4).trans ((if_pos g5).trans rfl))))), q.2⟩
  · rcases zit h with ⟨g6, h⟩ | ⟨g6, h⟩
    · have q := L_Pa_tenths_58 (d := d) h rfl
      exact ⟨zR_go 35 (zR_up (ls' := [some (vR 4 (some a0)), some (vI x1), some (vI x2), some (vI x3), some (vI x4), some (vI (z32 ((z32 ((mI (I0, L0, (ra0, rb0, rc0, rd0), zK0 sl sx, c0) 30 a0 x3.toNat).tdiv 6)) - (z32 ((mI (I0, L0, (ra0, rb0, rc0, rd0), zK0 sl sx, c0) 30 a0 x1.toNat).tdiv 6))))), some (vI (z32 (((mI (I0, L0, (ra0, rb0, rc0, rd0), zK0 sl sx, c0) 30 a0 x3.toNat).tmod 6) - ((mI (I0, L0, (ra0, rb0, rc0, rd0), zK0 sl sx, c0) 30 a0 x1.toNat).tmod 6)))), none, none, none]) q.1 ⟨.inr rfl, .inr rfl, .inr rfl, .inl rfl, .inr rfl, .inr rfl, .inr rfl, .inr rfl, .inr rfl, .inr rfl, trivial⟩) (fun n => (if_pos g1).trans ((if_pos g2).trans ((if_pos g3).trans ((if_pos g4).trans ((if_neg g5).trans ((if_pos g6).trans rfl)))))), q.2⟩
    · have q := L_Pa_tenths_58 (d := d) h rfl
      exact ⟨zR_go 34 (zR_up (ls' := [some (vR 4 (some a0)), some (vI x1), some (vI x2), some (vI x3), some (vI x4), some (vI (z32 ((z32 ((mI (I0, L0, (ra0, rb0, rc0, rd0), zK0 sl sx, c0) 30 a0 x3.toNat).tdiv 6)) - (z32 ((mI (I0, L0, (ra0, rb0, rc0, rd0), zK0 sl sx, c0) 30 a0 x1.toNat).tdiv 6))))), some (vI (z32 (((mI (I0, L0, (ra0, rb0, rc0, rd0), zK0 sl sx, c0) 30 a0 x3.toNat).tmod 6) - ((mI (I0, L0, (ra0, rb0, rc0, rd0), zK0 sl sx, c0) 30 a0 x1.toNat).tmod 6)))), none, none, none]) q.1 ⟨.inr rfl, .inr rfl, .inr rfl, .inl rfl, .inr rfl, .inr rfl, .inr rfl, .inr rfl, .inr rfl, .inr rfl, trivial⟩) (fun n => (if_pos g1).trans ((if_pos g2).trans ((if_pos g3).trans ((if_pos g4).trans ((if_neg g5).trans ((if_neg g6).trans rfl)))))), q.2⟩
def Ma_min (N : Nat) (x0 : Int) (x1 : Int) (M : ZM) : Option (Int × ZM) :=
  if x1 < x0 then some (x1, M) else some (x0, M)
set_option maxRecDepth 20000 in
theorem L_Ma_min {N d sl : Nat} {sx : Nat → Int} {x0 : Int} {x1 : Int} {M : ZM} {x : Int} {M' : ZM} (h : Ma_min N x0 x1 M = some (x, M')) (hK : mK M = zK0 sl sx) : zLI (d + 0) tb_J9_min_7cf53 0 [some (vI x0), some (vI x1)] [] M x M' (zK0 sl sx) := by
  obtain ⟨I0, L0, ⟨ra0, rb0, rc0, rd0⟩, K0, c0⟩ := M
  obtain rfl : K0 = zK0 sl sx := hK
  rcases zit h with ⟨g1, h⟩ | ⟨g1, h⟩
  · obtain ⟨rfl, rfl⟩ := zrI h
    exact ⟨zR_ret 5 ((if_pos g1).trans rfl), rfl⟩
  · obtain ⟨rfl, rfl⟩ := zrI h
    exact ⟨zR_ret 6 ((if_neg g1).trans rfl), rfl⟩
def Pa_takenOf (N : Nat) (a0 : Nat) (x1 : Int) (x2 : Int) (M : ZM) : Option (Int × ZM) :=
  zB (Ma_min N x2 9 M) fun v101 M101 => zI ((0 : Int) ≤ x1 ∧ x1 < 6) <| if mI M101 28 a0 x1.toNat = 1 then zB (Ma_max N (z32 (v101 - 1)) 0 M101) fun v102 M102 => some (v102, M102) else some (v101, M101)
set_option maxRecDepth 20000 in
theorem L_Pa_takenOf {N d sl : Nat} {sx : Nat → Int} {a0 : Nat} {x1 : Int} {x2 : Int} {M : ZM} {x : Int} {M' : ZM} (h : Pa_takenOf N a0 x1 x2 M = some (x, M')) (hK : mK M = zK0 sl sx) : zLI (d + 1) tb_X5_takenOf 0 [some (vR 4 (some a0)), some (vI x1), some (vI x2), none] [] M x M' (zK0 sl sx) := by
  obtain ⟨I0, L0, ⟨ra0, rb0, rc0, rd0⟩, K0, c0⟩ := M
  obtain rfl : K0 = zK0 sl sx := hK
  obtain ⟨v101, M101, f101, h⟩ := zBx h
  have q101 := L_Ma_min (d := d) f101 rfl
  obtain ⟨I101, L101, ⟨ra101, rb101, rc101, rd101⟩, K101, c101⟩ := M101
  obtain rfl : K101 = zK0 sl sx := q101.2
  suffices w101 : zLI (d + 1) tb_X5_takenOf 6 [some (vR 4 (some a0)), some (vI x1), some (vI x2), none] [vI v101] (I101, L101, (ra101, rb101, rc101, rd101), zK0 sl sx, c101) x M' (zK0 sl sx) from ⟨zR_call (rest := []) 3 q101.1 (fun n => rfl) w101.1, w101.2⟩
  obtain ⟨g1, h⟩ := zIx h
  rcases zit h with ⟨g2, h⟩ | ⟨g2, h⟩
  · obtain ⟨v102, M102, f102, h⟩ := zBx h
    have q102 := L_Ma_max (d := d) f102 rfl
    obtain ⟨I102, L102, ⟨ra102, rb102, rc102, rd102⟩, K102, c102⟩ := M102
    obtain rfl : K102 = zK0 sl sx := q102.2
    suffices w102 : zLI (d + 1) tb_X5_takenOf 24 [some (vR 4 (some a0)), some (vI x1), some (vI x2), some (vI v101)] [vI v102] (I102, L102, (ra102, rb102, rc102, rd102), zK0 sl sx, c102) x M' (zK0 sl sx) from ⟨zR_call (rest := []) 12 q102.1 (fun n => (if_pos g1).trans ((if_pos g2).trans rfl)) w102.1, w102.2⟩
    obtain ⟨rfl, rfl⟩ := zrI h
    exact ⟨zR_ret 2 (rfl), rfl⟩
  · obtain ⟨rfl, rfl⟩ := zrI h
    exact ⟨zR_ret 9 ((if_pos g1).trans ((if_neg g2).trans rfl)), rfl⟩
def St_isOpen (N : Nat) (a0 : Nat) (x1 : Int) (M : ZM) : Option (Int × ZM) :=
  if z_and (z_shr (mI M 7 a0 2) x1) 1 = 0 then some (0, M) else some (1, M)
set_option maxRecDepth 20000 in
theorem L_St_isOpen {N d sl : Nat} {sx : Nat → Int} {a0 : Nat} {x1 : Int} {M : ZM} {x : Int} {M' : ZM} (h : St_isOpen N a0 x1 M = some (x, M')) (hK : mK M = zK0 sl sx) : zLI (d + 0) tb_X8_isOpen 0 [some (vR 7 (some a0)), some (vI x1)] [] M x M' (zK0 sl sx) := by
  obtain ⟨I0, L0, ⟨ra0, rb0, rc0, rd0⟩, K0, c0⟩ := M
  obtain rfl : K0 = zK0 sl sx := hK
  rcases zit h with ⟨g1, h⟩ | ⟨g1, h⟩
  · obtain ⟨rfl, rfl⟩ := zrI h
    exact ⟨zR_ret 9 ((if_pos g1).trans rfl), rfl⟩
  · obtain ⟨rfl, rfl⟩ := zrI h
    exact ⟨zR_ret 10 ((if_neg g1).trans rfl), rfl⟩
def St_isBroken (N : Nat) (a0 : Nat) (x1 : Int) (M : ZM) : Option (Int × ZM) :=
  if z_and (z_shr (mI M 7 a0 3) x1) 1 = 0 then some (0, M) else some (1, M)
set_option maxRecDepth 20000 in
theorem L_St_isBroken {N d sl : Nat} {sx : Nat → Int} {a0 : Nat} {x1 : Int} {M : ZM} {x : Int} {M' : ZM} (h : St_isBroken N a0 x1 M = some (x, M')) (hK : mK M = zK0 sl sx) : zLI (d + 0) tb_X8_isBroken 0 [some (vR 7 (some a0)), some (vI x1)] [] M x M' (zK0 sl sx) := by
  obtain ⟨I0, L0, ⟨ra0, rb0, rc0, rd0⟩, K0, c0⟩ := M
  obtain rfl : K0 = zK0 sl sx := hK
  rcases zit h with ⟨g1, h⟩ | ⟨g1, h⟩
  · obtain ⟨rfl, rfl⟩ := zrI h
    exact ⟨zR_ret 9 ((if_pos g1).trans rfl), rfl⟩
  · obtain ⟨rfl, rfl⟩ := zrI h
    exact ⟨zR_ret 10 ((if_neg g1).trans rfl), rfl⟩
def St_runs (N : Nat) (a0 : Nat) (x1 : Int) (M : ZM) : Option (Int × ZM) :=
  zB (St_isOpen N a0 x1 M) fun v101 M101 => if v101 = 0 then some (0, M101) else zB (St_isBroken N a0 x1 M101) fun v102 M102 => if v102 = 0 then some (1, M102) else some (0, M102)
set_option maxRecDepth 20000 in
theorem L_St_runs {N d sl : Nat} {sx : Nat → Int} {a0 : Nat} {x1 : Int} {M : ZM} {x : Int} {M' : ZM} (h : St_runs N a0 x1 M = some (x, M')) (hK : mK M = zK0 sl sx) : zLI (d + 1) tb_X8_runs 0 [some (vR 7 (some a0)), some (vI x1)] [] M x M' (zK0 sl sx) := by
  obtain ⟨I0, L0, ⟨ra0, rb0, rc0, rd0⟩, K0, c0⟩ := M
  obtain rfl : K0 = zK0 sl sx := hK
  obtain ⟨v101, M101, f101, h⟩ := zBx h
  have q101 := L_St_isOpen (d := d) f101 rfl
  obtain ⟨I101, L101, ⟨ra101, rb101, rc101, rd101⟩, K101, c101⟩ := M101
  obtain rfl : K101 = zK0 sl sx := q101.2
  suffices w101 : zLI (d + 1) tb_X8_runs 5 [some (vR 7 (some a0)), some (vI x1)] [vI v101] (I101, L101, (ra101, rb101, rc101, rd101), zK0 sl sx, c101) x M' (zK0 sl sx) from ⟨zR_call (rest := []) 3 q101.1 (fun n => rfl) w101.1, w101.2⟩
  rcases zit h with ⟨g1, h⟩ | ⟨g1, h⟩
  · obtain ⟨rfl, rfl⟩ := zrI h
    exact ⟨zR_ret 3 ((if_pos g1).trans rfl), rfl⟩
  · obtain ⟨v102, M102, f102, h⟩ := zBx h
    have q102 := L_St_isBroken (d := d) f102 rfl
    obtain ⟨I102, L102, ⟨ra102, rb102, rc102, rd102⟩, K102, c102⟩ := M102
    obtain rfl : K102 = zK0 sl sx := q102.2
    suffices w102 : zLI (d + 1) tb_X8_runs 13 [some (vR 7 (some a0)), some (vI x1)] [vI v102] (I102, L102, (ra102, rb102, rc102, rd102), zK0 sl sx, c102) x M' (zK0 sl sx) from ⟨zR_call (rest := []) 4 q102.1 (fun n => (if_neg g1).trans rfl) w102.1, w102.2⟩
    rcases zit h with ⟨g2, h⟩ | ⟨g2, h⟩
    · obtain ⟨rfl, rfl⟩ := zrI h
      exact ⟨zR_ret 4 ((if_pos g2).trans rfl), rfl⟩
    · obtain ⟨rfl, rfl⟩ := zrI h
      exact ⟨zR_ret 3 ((if_neg g2).trans rfl), rfl⟩
def Fl_take_18 (N : Nat) (rec3 : Nat → Nat → Nat → Int → Int → ZM → Option ZM) : Nat → Nat → Nat → Nat → Int → Int → Int → Int → ZM → Option ZM
  | 0, _, _, _, _, _, _, _, _ => none
  | n + 1, a0, a1, a2, x3, x4, x5, x6, M => if x6 < mI M 4 a1 0 then if x6 = x4 then zW (z32 (x6 + 1)) fun x101 => Fl_take_18 N rec3 n a0 a1 a2 x3 x4 x5 x101 M else zB (St_runs N a2 x6 M) fun v102 M102 => if v102 = 0 then zW (z32 (x6 + 1)) fun x103 => Fl_take_18 N rec3 n a0 a1 a2 x3 x4 x5 x103 M102 else zI ((0 : Int) ≤ x6 ∧ x6 < 6) <| zB (Pa_tenths N a1 x6 (mI M102 40 a2 x6.toNat) x4 x3 M102) fun v104 M104 => zW (z32 (x5 + v104)) fun x105 => zW (z32 (x6 + 1)) fun x106 => Fl_take_18 N rec3 n a0 a1 a2 x3 x4 x105 x106 M104 else zB (Pa_takenOf N a1 x4 x5 M) fun v107 M107 => zI ((0 : Int) ≤ x4 ∧ x4 < 6) <| zW (pI M107 20 a0 x4.toNat v107) fun M108 => zW (z32 (x4 + 1)) fun x109 => rec3 a0 a1 a2 x3 x109 M108
def Fl_take_3 (N : Nat) : Nat → Nat → Nat → Nat → Int → Int → ZM → Option ZM
  | 0, _, _, _, _, _, _ => none
  | n + 1, a0, a1, a2, x3, x4, M => if x4 < mI M 4 a1 0 then Fl_take_18 N (Fl_take_3 N n) N a0 a1 a2 x3 x4 0 0 M else some M
def Fl_take (N : Nat) (a0 : Nat) (a1 : Nat) (a2 : Nat) (x3 : Int) (M : ZM) : Option ZM :=
  Fl_take_3 N N a0 a1 a2 x3 0 M
set_option maxRecDepth 20000 in
theorem L_Fl_take_18 {N d sl : Nat} {sx : Nat → Int} {rec3 : Nat → Nat → Nat → Int → Int → ZM → Option ZM} (hrec3 : ∀ {a0 : Nat} {a1 : Nat} {a2 : Nat} {x3 : Int} {x4 : Int} {M : ZM} {M' : ZM}, rec3 a0 a1 a2 x3 x4 M = some M' → mK M = zK0 sl sx → zLV (d + 4) tb_X1_take 3 [some (vR 0 (some a0)), some (vR 4 (some a1)), some (vR 7 (some a2)), some (vI x3), some (vI x4), none, none] [] M M' (zK0 sl sx)) : ∀ {n : Nat} {a0 : Nat} {a1 : Nat} {a2 : Nat} {x3 : Int} {x4 : Int} {x5 : Int} {x6 : Int} {M : ZM} {M' : ZM}, Fl_take_18 N rec3 n a0 a1 a2 x3 x4 x5 x6 M = some M' → mK M = zK0 sl sx → zLV (d + 4) tb_X1_take 18 [some (vR 0 (some a0)), some (vR 4 (some a1)), some (vR 7 (some a2)), some (vI x3), some (vI x4), some (vI x5), some (vI x6)] [] M M' (zK0 sl sx) := by
  intro n
  induction n with
  | zero => intros; rename_i h _; cases h
  | succ n ih =>
    intro a0 a1 a2 x3 x4 x5 x6 M M' h hK
    obtain ⟨I0, L0, ⟨ra0, rb0, rc0, rd0⟩, K0, c0⟩ := M
    obtain rfl : K0 = zK0 sl sx := hK
    rcases zit h with ⟨g1, h⟩ | ⟨g1, h⟩
    · rcases zit h with ⟨g2, h⟩ | ⟨g2, h⟩
      · have q := ih h rfl
        exact ⟨zR_go 9 q.1 (fun n => (if_pos g1).trans ((if_pos g2).trans rfl)), q.2⟩
      · obtain ⟨v102, M102, f102, h⟩ := zBx h
        have q102 := L_St_runs (d := (d + 2)) f102 rfl
        obtain ⟨I102, L102, ⟨ra102, rb102, rc102, rd102⟩, K102, c102⟩ := M102
        obtain rfl : K102 = zK0 sl sx := q102.2
        suffices w102 : zLV (d + 4) tb_X1_take 40 [some (vR 0 (some a0)), some (vR 4 (some a1)), some (vR 7 (some a2)), some (vI x3), some (vI x4), some (vI x5), some (vI x6)] [vI v102] (I102, L102, (ra102, rb102, rc102, rd102), zK0 sl sx, c102) M' (zK0 sl sx) from ⟨zR_call (rest := []) 10 q102.1 (fun n => (if_pos g1).trans ((if_neg g2).trans rfl)) w102.1, w102.2⟩
        rcases zit h with ⟨g3, h⟩ | ⟨g3, h⟩
        · have q := ih h rfl
          exact ⟨zR_go 3 q.1 (fun n => (if_pos g3).trans rfl), q.2⟩
        · obtain ⟨g4, h⟩ := zIx h
          obtain ⟨v104, M104, f104, h⟩ := zBx h
          have q104 := L_Pa_tenths (d := d) f104 rfl
          obtain ⟨I104, L104, ⟨ra104, rb104, rc104, rd104⟩, K104, c104⟩ := M104
          obtain rfl : K104 = zK0 sl sx := q104.2
          suffices w104 : zLV (d + 4) tb_X1_take 61 [some (vR 0 (some a0)), some (vR 4 (some a1)), some (vR 7 (some a2)), some (vI x3), some (vI x4), some (vI x5), some (vI x6)] [vI v104, vI x5] (I104, L104, (ra104, rb104, rc104, rd104), zK0 sl sx, c104) M' (zK0 sl sx) from ⟨zR_call (rest := [vI x5]) 11 q104.1 (fun n => (if_neg g3).trans ((if_pos g4).trans rfl)) w104.1, w104.2⟩
          have q := ih h rfl
          exact ⟨zR_go 4 q.1 (fun n => rfl), q.2⟩
    · obtain ⟨v107, M107, f107, h⟩ := zBx h
      have q107 := L_Pa_takenOf (d := (d + 2)) f107 rfl
      obtain ⟨I107, L107, ⟨ra107, rb107, rc107, rd107⟩, K107, c107⟩ := M107
      obtain rfl : K107 = zK0 sl sx := q107.2
      suffices w107 : zLV (d + 4) tb_X1_take 84 [some (vR 0 (some a0)), some (vR 4 (some a1)), some (vR 7 (some a2)), some (vI x3), some (vI x4), some (vI x5), some (vI x6)] [vI v107, vI x4, vR 20 (some a0)] (I107, L107, (ra107, rb107, rc107, rd107), zK0 sl sx, c107) M' (zK0 sl sx) from ⟨zR_call (rest := [vI x4, vR 20 (some a0)]) 11 q107.1 (fun n => (if_neg g1).trans rfl) w107.1, w107.2⟩
      obtain ⟨g5, h⟩ := zIx h
      have q := hrec3 h rfl
      exact ⟨zR_go 3 (zR_up (ls' := [some (vR 0 (some a0)), some (vR 4 (some a1)), some (vR 7 (some a2)), some (vI x3), some (vI (z32 (x4 + 1))), some (vI x5), some (vI x6)]) q.1 ⟨.inr rfl, .inr rfl, .inr rfl, .inr rfl, .inr rfl, .inl rfl, .inl rfl, trivial⟩) (fun n => (if_pos g5).trans rfl), q.2⟩
set_option maxRecDepth 20000 in
theorem L_Fl_take_3 {N d sl : Nat} {sx : Nat → Int} : ∀ {n : Nat} {a0 : Nat} {a1 : Nat} {a2 : Nat} {x3 : Int} {x4 : Int} {M : ZM} {M' : ZM}, Fl_take_3 N n a0 a1 a2 x3 x4 M = some M' → mK M = zK0 sl sx → zLV (d + 4) tb_X1_take 3 [some (vR 0 (some a0)), some (vR 4 (some a1)), some (vR 7 (some a2)), some (vI x3), some (vI x4), none, none] [] M M' (zK0 sl sx) := by
  intro n
  induction n with
  | zero => intros; rename_i h _; cases h
  | succ n ih =>
    intro a0 a1 a2 x3 x4 M M' h hK
    obtain ⟨I0, L0, ⟨ra0, rb0, rc0, rd0⟩, K0, c0⟩ := M
    obtain rfl : K0 = zK0 sl sx := hK
    rcases zit h with ⟨g1, h⟩ | ⟨g1, h⟩
    · have q := L_Fl_take_18 ih h rfl
      exact ⟨zR_go 8 q.1 (fun n => (if_pos g1).trans rfl), q.2⟩
    · obtain rfl := zrV h
      exact ⟨zR_ret 5 ((if_neg g1).trans rfl), rfl⟩
set_option maxRecDepth 20000 in
theorem L_Fl_take {N d sl : Nat} {sx : Nat → Int} {a0 : Nat} {a1 : Nat} {a2 : Nat} {x3 : Int} {M : ZM} {M' : ZM} (h : Fl_take N a0 a1 a2 x3 M = some M') (hK : mK M = zK0 sl sx) : zLV (d + 4) tb_X1_take 0 [some (vR 0 (some a0)), some (vR 4 (some a1)), some (vR 7 (some a2)), some (vI x3), none, none, none] [] M M' (zK0 sl sx) := by
  obtain ⟨I0, L0, ⟨ra0, rb0, rc0, rd0⟩, K0, c0⟩ := M
  obtain rfl : K0 = zK0 sl sx := hK
  have q := L_Fl_take_3 (d := d) h rfl
  exact ⟨zR_go 2 q.1 (fun n => rfl), q.2⟩
def Ar_fill_5 (N : Nat) : Nat → Nat → Nat → Int → Int → Int → ZM → Option ZM
  | 0, _, _, _, _, _, _ => none
  | n + 1, t0, a0, x1, x2, x3, M => if x2 < x3 then zI ((0 : Int) ≤ x2 ∧ x2 < (mN M t0 a0 : Int)) <| zW (pI M t0 a0 x2.toNat x1) fun M101 => zW (z32 (x2 + 1)) fun x102 => Ar_fill_5 N n t0 a0 x1 x102 x3 M101 else some M
def Ar_fill (N : Nat) (t0 : Nat) (i0 : Nat) (x1 : Int) (M : ZM) : Option ZM :=
  zW ((mN M t0 i0 : Int)) fun x101 => Ar_fill_5 N N t0 i0 x1 0 x101 M
set_option maxRecDepth 20000 in
theorem L_Ar_fill_40_p5 {N d sl : Nat} {sx : Nat → Int} : ∀ {n : Nat} {a0 : Nat} {x1 : Int} {x2 : Int} {x3 : Int} {M : ZM} {M' : ZM}, Ar_fill_5 N n 40 a0 x1 x2 x3 M = some M' → mK M = zK0 sl sx → zLV (d + 0) tb_J7_fill_53178 5 [some (vR 40 (some a0)), some (vI x1), some (vI x2), some (vI x3)] [] M M' (zK0 sl sx) := by
  intro n
  induction n with
  | zero => intros; rename_i h _; cases h
  | succ n ih =>
    intro a0 x1 x2 x3 M M' h hK
    obtain ⟨I0, L0, ⟨ra0, rb0, rc0, rd0⟩, K0, c0⟩ := M
    obtain rfl : K0 = zK0 sl sx := hK
    rcases zit h with ⟨g1, h⟩ | ⟨g1, h⟩
    · obtain ⟨g2, h⟩ := zIx h
      have q := ih h rfl
      exact ⟨zR_go 9 q.1 (fun n => (if_pos g1).trans ((if_pos g2).trans rfl)), q.2⟩
    · obtain rfl := zrV h
      exact ⟨zR_ret 4 ((if_neg g1).trans rfl), rfl⟩
set_option maxRecDepth 20000 in
theorem L_Ar_fill_40 {N d sl : Nat} {sx : Nat → Int} {i0 : Nat} {x1 : Int} {M : ZM} {M' : ZM} (h : Ar_fill N 40 i0 x1 M = some M') (hK : mK M = zK0 sl sx) : zLV (d + 0) tb_J7_fill_53178 0 [some (vR 40 (some i0)), some (vI x1), none, none] [] M M' (zK0 sl sx) := by
  obtain ⟨I0, L0, ⟨ra0, rb0, rc0, rd0⟩, K0, c0⟩ := M
  obtain rfl : K0 = zK0 sl sx := hK
  have q := L_Ar_fill_40_p5 (d := d) h rfl
  exact ⟨zR_go 5 q.1 (fun n => rfl), q.2⟩
def Nu_round (N : Nat) (a0 : Nat) (x1 : Int) (M : ZM) : Option (Int × ZM) :=
  if 0 < mI M 3 a0 1 then if x1 < 0 then some (0, M) else if mI M 3 a0 1 = 0 then none else zI ((0 : Int) ≤ x1.tmod (mI M 3 a0 1) ∧ x1.tmod (mI M 3 a0 1) < (zlN a0 : Int)) <| some (mI M 26 a0 (x1.tmod (mI M 3 a0 1)).toNat, M) else some (0, M)
set_option maxRecDepth 20000 in
theorem L_Nu_round {N d sl : Nat} {sx : Nat → Int} {a0 : Nat} {x1 : Int} {M : ZM} {x : Int} {M' : ZM} (h : Nu_round N a0 x1 M = some (x, M')) (hK : mK M = zK0 sl sx) : zLI (d + 0) tb_X4_round 0 [some (vR 3 (some a0)), some (vI x1)] [] M x M' (zK0 sl sx) := by
  obtain ⟨I0, L0, ⟨ra0, rb0, rc0, rd0⟩, K0, c0⟩ := M
  obtain rfl : K0 = zK0 sl sx := hK
  rcases zit h with ⟨g1, h⟩ | ⟨g1, h⟩
  · rcases zit h with ⟨g2, h⟩ | ⟨g2, h⟩
    · obtain ⟨rfl, rfl⟩ := zrI h
      exact ⟨zR_ret 7 ((if_pos g1).trans ((if_pos g2).trans rfl)), rfl⟩
    · obtain ⟨g3, h⟩ := zgn h
      obtain ⟨g4, h⟩ := zIx h
      obtain ⟨rfl, rfl⟩ := zrI h
      exact ⟨zR_ret 14 ((if_pos g1).trans ((if_neg g2).trans ((if_neg g3).trans ((if_pos g4).trans rfl)))), rfl⟩
  · obtain ⟨rfl, rfl⟩ := zrI h
    exact ⟨zR_ret 5 ((if_neg g1).trans rfl), rfl⟩
def Nu_copy (N : Nat) (a0 : Nat) (a1 : Nat) (M : ZM) : Option ZM :=
  zB (Ma_min N (mI M 3 a1 1) (zlN a0 : Int) M) fun v101 M101 => zW (pI M101 3 a0 1 v101) fun M102 => zI ((0 : Int) ≤ 0 ∧ (0 : Int) ≤ 0 ∧ (0 : Int) ≤ mI M102 3 a0 1 ∧ (0 : Int) + (mI M102 3 a0 1) ≤ (zlN a1 : Int) ∧ (0 : Int) + (mI M102 3 a0 1) ≤ (zlN a0 : Int)) <| zW (pCp M102 26 a1 0 26 a0 0 (mI M102 3 a0 1).toNat) fun M103 => some M103
set_option maxRecDepth 20000 in
theorem L_Nu_copy {N d sl : Nat} {sx : Nat → Int} {a0 : Nat} {a1 : Nat} {M : ZM} {M' : ZM} (h : Nu_copy N a0 a1 M = some M') (hK : mK M = zK0 sl sx) : zLV (d + 1) tb_X4_copy 0 [some (vR 3 (some a0)), some (vR 3 (some a1))] [] M M' (zK0 sl sx) := by
  obtain ⟨I0, L0, ⟨ra0, rb0, rc0, rd0⟩, K0, c0⟩ := M
  obtain rfl : K0 = zK0 sl sx := hK
  obtain ⟨v101, M101, f101, h⟩ := zBx h
  have q101 := L_Ma_min (d := d) f101 rfl
  obtain ⟨I101, L101, ⟨ra101, rb101, rc101, rd101⟩, K101, c101⟩ := M101
  obtain rfl : K101 = zK0 sl sx := q101.2
  suffices w101 : zLV (d + 1) tb_X4_copy 13 [some (vR 3 (some a0)), some (vR 3 (some a1))] [vI v101, vR 3 (some a0)] (I101, L101, (ra101, rb101, rc101, rd101), zK0 sl sx, c101) M' (zK0 sl sx) from ⟨zR_call (rest := [vR 3 (some a0)]) 7 q101.1 (fun n => rfl) w101.1, w101.2⟩
  obtain ⟨g1, h⟩ := zIx h
  obtain rfl := zrV h
  exact ⟨zR_ret 11 ((if_pos g1).trans rfl), rfl⟩
def Nu_add (N : Nat) (a0 : Nat) (x1 : Int) (M : ZM) : Option (Int × ZM) :=
  if mI M 3 a0 1 < (zlN a0 : Int) then zI ((0 : Int) ≤ mI M 3 a0 1 ∧ mI M 3 a0 1 < (zlN a0 : Int)) <| zW (pI M 26 a0 (mI M 3 a0 1).toNat x1) fun M101 => zW (pI M101 3 a0 1 (z32 ((mI M101 3 a0 1) + 1))) fun M102 => some (1, M102) else some (0, M)
set_option maxRecDepth 20000 in
theorem L_Nu_add {N d sl : Nat} {sx : Nat → Int} {a0 : Nat} {x1 : Int} {M : ZM} {x : Int} {M' : ZM} (h : Nu_add N a0 x1 M = some (x, M')) (hK : mK M = zK0 sl sx) : zLI (d + 0) tb_X4_add 0 [some (vR 3 (some a0)), some (vI x1)] [] M x M' (zK0 sl sx) := by
  obtain ⟨I0, L0, ⟨ra0, rb0, rc0, rd0⟩, K0, c0⟩ := M
  obtain rfl : K0 = zK0 sl sx := hK
  rcases zit h with ⟨g1, h⟩ | ⟨g1, h⟩
  · obtain ⟨g2, h⟩ := zIx h
    obtain ⟨rfl, rfl⟩ := zrI h
    exact ⟨zR_ret 20 ((if_pos g1).trans ((if_pos g2).trans rfl)), rfl⟩
  · obtain ⟨rfl, rfl⟩ := zrI h
    exact ⟨zR_ret 8 ((if_neg g1).trans rfl), rfl⟩
