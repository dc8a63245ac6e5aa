set_option maxRecDepth 20000 in
theorem L_Mo_later_32 {N d sl : Nat} {sx : Nat → Int} : ∀ {n : Nat} {a0 : Nat} {x1 : Int} {x2 : Int} {M : ZM} {x : Int} {M' : ZM}, Mo_later_32 N n a0 x1 x2 M = some (x, M') → mK M = zK0 sl sx → zLI (d + 10) tb_X13_later 32 [some (vR 11 (some a0)), some (vI x1), some (vI x2)] [] M x M' (zK0 sl sx) := by
  intro n
  induction n with
  | zero => intros; rename_i h _; cases h
  | succ n ih =>
    intro a0 x1 x2 M x M' h hK
    obtain ⟨I0, L0, ⟨ra0, rb0, rc0, rd0⟩, K0, c0⟩ := M
    obtain rfl : K0 = zK0 sl sx := hK
    rcases zit h with ⟨g1, h⟩ | ⟨g1, h⟩
    · obtain ⟨v101, M101, f101, h⟩ := zBx h
      have q101 := L_Mo_passes (d := d) f101 rfl
      obtain ⟨I101, L101, ⟨ra101, rb101, rc101, rd101⟩, K101, c101⟩ := M101
      obtain rfl : K101 = zK0 sl sx := q101.2
      suffices w101 : zLI (d + 10) tb_X13_later 41 [some (vR 11 (some a0)), some (vI x1), some (vI x2)] [vI v101] (I101, L101, (ra101, rb101, rc101, rd101), zK0 sl sx, c101) x M' (zK0 sl sx) from ⟨zR_call (rest := []) 5 q101.1 (fun n => (if_pos g1).trans rfl) w101.1, w101.2⟩
      replace h := zWx h
      have q := ih h rfl
      exact ⟨zR_go 3 q.1 (fun n => rfl), q.2⟩
    · obtain ⟨v103, M103, f103, h⟩ := zBx h
      have q103 := L_Mo_homeNow (d := (d + 2)) f103 rfl
      obtain ⟨I103, L103, ⟨ra103, rb103, rc103, rd103⟩, K103, c103⟩ := M103
      obtain rfl : K103 = zK0 sl sx := q103.2
      suffices w103 : zLI (d + 10) tb_X13_later 52 [some (vR 11 (some a0)), some (vI x1), some (vI x2)] [vI v103] (I103, L103, (ra103, rb103, rc103, rd103), zK0 sl sx, c103) x M' (zK0 sl sx) from ⟨zR_call (rest := []) 5 q103.1 (fun n => (if_neg g1).trans rfl) w103.1, w103.2⟩
      obtain ⟨M104, f104, h⟩ := zBvx h
      have q104 := L_Mo_copies_83_81 (d := (d + 9)) f104 rfl
      obtain ⟨I104, L104, ⟨ra104, rb104, rc104, rd104⟩, K104, c104⟩ := M104
      obtain rfl : K104 = zK0 sl sx := q104.2
      suffices w104 : zLI (d + 10) tb_X13_later 66 [some (vR 11 (some a0)), some (vI x1), some (vI v103)] [] (I104, L104, (ra104, rb104, rc104, rd104), zK0 sl sx, c104) x M' (zK0 sl sx) from ⟨zR_call (rest := []) 8 q104.1 (fun n => rfl) w104.1, w104.2⟩
      obtain ⟨rfl, rfl⟩ := zrI h
      exact ⟨zR_ret 2 (rfl), rfl⟩
set_option maxRecDepth 20000 in
theorem L_Mo_later {N d sl : Nat} {sx : Nat → Int} {a0 : Nat} {x1 : Int} {M : ZM} {x : Int} {M' : ZM} (h : Mo_later N a0 x1 M = some (x, M')) (hK : mK M = zK0 sl sx) : zLI (d + 10) tb_X13_later 0 [some (vR 11 (some a0)), some (vI x1), none] [] M x M' (zK0 sl sx) := by
  obtain ⟨I0, L0, ⟨ra0, rb0, rc0, rd0⟩, K0, c0⟩ := M
  obtain rfl : K0 = zK0 sl sx := hK
  replace h := zWx h
  obtain ⟨v102, M102, f102, h⟩ := zBx h
  have q102 := L_Mo_within (d := (d + 9)) f102 rfl
  obtain ⟨I102, L102, ⟨ra102, rb102, rc102, rd102⟩, K102, c102⟩ := M102
  obtain rfl : K102 = zK0 sl sx := q102.2
  suffices w102 : zLI (d + 10) tb_X13_later 12 [some (vR 11 (some a0)), some (vI x1), none] [vI v102] (I102, L102, (ra102, rb102, rc102, rd102), zK0 sl sx, c102) x M' (zK0 sl sx) from ⟨zR_call (rest := []) 7 q102.1 (fun n => rfl) w102.1, w102.2⟩
  rcases zit h with ⟨g1, h⟩ | ⟨g1, h⟩
  · obtain ⟨rfl, rfl⟩ := zrI h
    exact ⟨zR_ret 3 ((if_pos g1).trans rfl), rfl⟩
  · obtain ⟨M103, f103, h⟩ := zBvx h
    have q103 := L_Mo_copies_81_83 (d := (d + 9)) f103 rfl
    obtain ⟨I103, L103, ⟨ra103, rb103, rc103, rd103⟩, K103, c103⟩ := M103
    obtain rfl : K103 = zK0 sl sx := q103.2
    suffices w103 : zLI (d + 10) tb_X13_later 30 [some (vR 11 (some a0)), some (vI x1), none] [] (I103, L103, (ra103, rb103, rc103, rd103), zK0 sl sx, c103) x M' (zK0 sl sx) from ⟨zR_call (rest := []) 8 q103.1 (fun n => (if_neg g1).trans rfl) w103.1, w103.2⟩
    have q := L_Mo_later_32 (d := d) h rfl
    exact ⟨zR_go 2 q.1 (fun n => rfl), q.2⟩
set_option maxRecDepth 20000 in
theorem L_Mo_total_36 {N d sl : Nat} {sx : Nat → Int} : ∀ {n : Nat} {a0 : Nat} {x1 : Int} {x2 : Int} {x3 : Int} {M : ZM} {x : Int} {M' : ZM}, Mo_total_36 N n a0 x1 x2 x3 M = some (x, M') → mK M = zK0 sl sx → zLI (d + 10) tb_X13_total 36 [some (vR 11 (some a0)), some (vI x1), some (vI x2), some (vI x3)] [] M x M' (zK0 sl sx) := by
  intro n
  induction n with
  | zero => intros; rename_i h _; cases h
  | succ n ih =>
    intro a0 x1 x2 x3 M x M' h hK
    obtain ⟨I0, L0, ⟨ra0, rb0, rc0, rd0⟩, K0, c0⟩ := M
    obtain rfl : K0 = zK0 sl sx := hK
    rcases zit h with ⟨g1, h⟩ | ⟨g1, h⟩
    · obtain ⟨v101, M101, f101, h⟩ := zBx h
      have q101 := L_Mo_passes (d := d) f101 rfl
      obtain ⟨I101, L101, ⟨ra101, rb101, rc101, rd101⟩, K101, c101⟩ := M101
      obtain rfl : K101 = zK0 sl sx := q101.2
      suffices w101 : zLI (d + 10) tb_X13_total 46 [some (vR 11 (some a0)), some (vI x1), some (vI x2), some (vI x3)] [vI v101, vI x2] (I101, L101, (ra101, rb101, rc101, rd101), zK0 sl sx, c101) x M' (zK0 sl sx) from ⟨zR_call (rest := [vI x2]) 6 q101.1 (fun n => (if_pos g1).trans rfl) w101.1, w101.2⟩
      replace h := zWx h
      replace h := zWx h
      have q := ih h rfl
      exact ⟨zR_go 4 q.1 (fun n => rfl), q.2⟩
    · obtain ⟨M104, f104, h⟩ := zBvx h
      have q104 := L_Mo_copies_83_81 (d := (d + 9)) f104 rfl
      obtain ⟨I104, L104, ⟨ra104, rb104, rc104, rd104⟩, K104, c104⟩ := M104
      obtain rfl : K104 = zK0 sl sx := q104.2
      suffices w104 : zLI (d + 10) tb_X13_total 67 [some (vR 11 (some a0)), some (vI x1), some (vI x2), some (vI x3)] [] (I104, L104, (ra104, rb104, rc104, rd104), zK0 sl sx, c104) x M' (zK0 sl sx) from ⟨zR_call (rest := []) 10 q104.1 (fun n => (if_neg g1).trans rfl) w104.1, w104.2⟩
      obtain ⟨rfl, rfl⟩ := zrI h
      exact ⟨zR_ret 2 (rfl), rfl⟩
set_option maxRecDepth 20000 in
theorem L_Mo_total {N d sl : Nat} {sx : Nat → Int} {a0 : Nat} {x1 : Int} {M : ZM} {x : Int} {M' : ZM} (h : Mo_total N a0 x1 M = some (x, M')) (hK : mK M = zK0 sl sx) : zLI (d + 10) tb_X13_total 0 [some (vR 11 (some a0)), some (vI x1), none, none] [] M x M' (zK0 sl sx) := by
  obtain ⟨I0, L0, ⟨ra0, rb0, rc0, rd0⟩, K0, c0⟩ := M
  obtain rfl : K0 = zK0 sl sx := hK
  replace h := zWx h
  obtain ⟨v102, M102, f102, h⟩ := zBx h
  have q102 := L_Mo_within (d := (d + 9)) f102 rfl
  obtain ⟨I102, L102, ⟨ra102, rb102, rc102, rd102⟩, K102, c102⟩ := M102
  obtain rfl : K102 = zK0 sl sx := q102.2
  suffices w102 : zLI (d + 10) tb_X13_total 12 [some (vR 11 (some a0)), some (vI x1), none, none] [vI v102] (I102, L102, (ra102, rb102, rc102, rd102), zK0 sl sx, c102) x M' (zK0 sl sx) from ⟨zR_call (rest := []) 7 q102.1 (fun n => rfl) w102.1, w102.2⟩
  rcases zit h with ⟨g1, h⟩ | ⟨g1, h⟩
  · obtain ⟨rfl, rfl⟩ := zrI h
    exact ⟨zR_ret 3 ((if_pos g1).trans rfl), rfl⟩
  · obtain ⟨M103, f103, h⟩ := zBvx h
    have q103 := L_Mo_copies_81_83 (d := (d + 9)) f103 rfl
    obtain ⟨I103, L103, ⟨ra103, rb103, rc103, rd103⟩, K103, c103⟩ := M103
    obtain rfl : K103 = zK0 sl sx := q103.2
    suffices w103 : zLI (d + 10) tb_X13_total 32 [some (vR 11 (some a0)), some (vI x1), none, none] [] (I103, L103, (ra103, rb103, rc103, rd103), zK0 sl sx, c103) x M' (zK0 sl sx) from ⟨zR_call (rest := []) 8 q103.1 (fun n => (if_neg g1).trans rfl) w103.1, w103.2⟩
    have q := L_Mo_total_36 (d := d) h rfl
    exact ⟨zR_go 4 q.1 (fun n => rfl), q.2⟩
set_option maxRecDepth 20000 in
theorem L_Mo_breaks_63 {N d sl : Nat} {sx : Nat → Int} {a0 : Nat} {x2 : Int} {M : ZM} {x : Int} {M' : ZM} (h : Mo_breaks_63 N a0 x2 M = some (x, M')) (hK : mK M = zK0 sl sx) : zLI (d + 10) tb_X13_breaks 63 [some (vR 11 (some a0)), none, some (vI x2)] [] M x M' (zK0 sl sx) := by
  obtain ⟨I0, L0, ⟨ra0, rb0, rc0, rd0⟩, K0, c0⟩ := M
  obtain rfl : K0 = zK0 sl sx := hK
  obtain ⟨M101, f101, h⟩ := zBvx h
  have q101 := L_Mo_copies_83_81 (d := (d + 9)) f101 rfl
  obtain ⟨I101, L101, ⟨ra101, rb101, rc101, rd101⟩, K101, c101⟩ := M101
  obtain rfl : K101 = zK0 sl sx := q101.2
  suffices w101 : zLI (d + 10) tb_X13_breaks 76 [some (vR 11 (some a0)), none, some (vI x2)] [] (I101, L101, (ra101, rb101, rc101, rd101), zK0 sl sx, c101) x M' (zK0 sl sx) from ⟨zR_call (rest := []) 7 q101.1 (fun n => rfl) w101.1, w101.2⟩
  rcases zit h with ⟨g1, h⟩ | ⟨g1, h⟩
  · obtain ⟨rfl, rfl⟩ := zrI h
    exact ⟨zR_ret 6 ((if_pos g1).trans rfl), rfl⟩
  · obtain ⟨rfl, rfl⟩ := zrI h
    exact ⟨zR_ret 5 ((if_neg g1).trans rfl), rfl⟩
set_option maxRecDepth 20000 in
theorem L_Mo_breaks_38 {N d sl : Nat} {sx : Nat → Int} : ∀ {n : Nat} {a0 : Nat} {x1 : Int} {x2 : Int} {M : ZM} {x : Int} {M' : ZM}, Mo_breaks_38 N n a0 x1 x2 M = some (x, M') → mK M = zK0 sl sx → zLI (d + 10) tb_X13_breaks 38 [some (vR 11 (some a0)), some (vI x1), some (vI x2)] [] M x M' (zK0 sl sx) := by
  intro n
  induction n with
  | zero => intros; rename_i h _; cases h
  | succ n ih =>
    intro a0 x1 x2 M x M' h hK
    obtain ⟨I0, L0, ⟨ra0, rb0, rc0, rd0⟩, K0, c0⟩ := M
    obtain rfl : K0 = zK0 sl sx := hK
    rcases zit h with ⟨g1, h⟩ | ⟨g1, h⟩
    · have q := L_Mo_breaks_63 (d := d) h rfl
      exact ⟨zR_go 3 (zR_up (ls' := [some (vR 11 (some a0)), some (vI x1), some (vI x2)]) q.1 ⟨.inr rfl, .inl rfl, .inr rfl, trivial⟩) (fun n => (if_pos g1).trans rfl), q.2⟩
    · obtain ⟨v101, M101, f101, h⟩ := zBx h
      have q101 := L_Mo_isBroken (d := (d + 9)) f101 rfl
      obtain ⟨I101, L101, ⟨ra101, rb101, rc101, rd101⟩, K101, c101⟩ := M101
      obtain rfl : K101 = zK0 sl sx := q101.2
      suffices w101 : zLI (d + 10) tb_X13_breaks 49 [some (vR 11 (some a0)), some (vI x1), some (vI x2)] [vI v101] (I101, L101, (ra101, rb101, rc101, rd101), zK0 sl sx, c101) x M' (zK0 sl sx) from ⟨zR_call (rest := []) 6 q101.1 (fun n => (if_neg g1).trans rfl) w101.1, w101.2⟩
      rcases zit h with ⟨g2, h⟩ | ⟨g2, h⟩
      · obtain ⟨v102, M102, f102, h⟩ := zBx h
        have q102 := L_Mo_passes (d := d) f102 rfl
        obtain ⟨I102, L102, ⟨ra102, rb102, rc102, rd102⟩, K102, c102⟩ := M102
        obtain rfl : K102 = zK0 sl sx := q102.2
        suffices w102 : zLI (d + 10) tb_X13_breaks 56 [some (vR 11 (some a0)), some (vI x1), some (vI x2)] [vI v102] (I102, L102, (ra102, rb102, rc102, rd102), zK0 sl sx, c102) x M' (zK0 sl sx) from ⟨zR_call (rest := []) 3 q102.1 (fun n => (if_pos g2).trans rfl) w102.1, w102.2⟩
        replace h := zWx h
        have q := ih h rfl
        exact ⟨zR_go 3 q.1 (fun n => rfl), q.2⟩
      · have q := L_Mo_breaks_63 (d := d) h rfl
        exact ⟨zR_go 1 (zR_up (ls' := [some (vR 11 (some a0)), some (vI x1), some (vI x2)]) q.1 ⟨.inr rfl, .inl rfl, .inr rfl, trivial⟩) (fun n => (if_neg g2).trans rfl), q.2⟩
set_option maxRecDepth 20000 in
theorem L_Mo_breaks {N d sl : Nat} {sx : Nat → Int} {a0 : Nat} {x1 : Int} {M : ZM} {x : Int} {M' : ZM} (h : Mo_breaks N a0 x1 M = some (x, M')) (hK : mK M = zK0 sl sx) : zLI (d + 10) tb_X13_breaks 0 [some (vR 11 (some a0)), some (vI x1), none] [] M x M' (zK0 sl sx) := by
  obtain ⟨I0, L0, ⟨ra0, rb0, rc0, rd0⟩, K0, c0⟩ := M
  obtain rfl : K0 = zK0 sl sx := hK
  replace h := zWx h
  obtain ⟨v102, M102, f102, h⟩ := zBx h
  have q102 := L_Mo_isTurbine (d := (d + 9)) f102 rfl
  obtain ⟨I102, L102, ⟨ra102, rb102, rc102, rd102⟩, K102, c102⟩ := M102
  obtain rfl : K102 = zK0 sl sx := q102.2
  suffices w102 : zLI (d + 10) tb_X13_breaks 10 [some (vR 11 (some a0)), some (vI x1), none] [vI v102] (I102, L102, (ra102, rb102, rc102, rd102), zK0 sl sx, c102) x M' (zK0 sl sx) from ⟨zR_call (rest := []) 6 q102.1 (fun n => rfl) w102.1, w102.2⟩
  rcases zit h with ⟨g1, h⟩ | ⟨g1, h⟩
  · obtain ⟨rfl, rfl⟩ := zrI h
    exact ⟨zR_ret 3 ((if_pos g1).trans rfl), rfl⟩
  · obtain ⟨v103, M103, f103, h⟩ := zBx h
    have q103 := L_Mo_isBroken (d := (d + 9)) f103 rfl
    obtain ⟨I103, L103, ⟨ra103, rb103, rc103, rd103⟩, K103, c103⟩ := M103
    obtain rfl : K103 = zK0 sl sx := q103.2
    suffices w103 : zLI (d + 10) tb_X13_breaks 18 [some (vR 11 (some a0)), some (vI x1), none] [vI v103] (I103, L103, (ra103, rb103, rc103, rd103), zK0 sl sx, c103) x M' (zK0 sl sx) from ⟨zR_call (rest := []) 4 q103.1 (fun n => (if_neg g1).trans rfl) w103.1, w103.2⟩
    rcases zit h with ⟨g2, h⟩ | ⟨g2, h⟩
    · obtain ⟨M104, f104, h⟩ := zBvx h
      have q104 := L_Mo_copies_81_83 (d := (d + 9)) f104 rfl
      obtain ⟨I104, L104, ⟨ra104, rb104, rc104, rd104⟩, K104, c104⟩ := M104
      obtain rfl : K104 = zK0 sl sx := q104.2
      suffices w104 : zLI (d + 10) tb_X13_breaks 36 [some (vR 11 (some a0)), some (vI x1), none] [] (I104, L104, (ra104, rb104, rc104, rd104), zK0 sl sx, c104) x M' (zK0 sl sx) from ⟨zR_call (rest := []) 8 q104.1 (fun n => (if_pos g2).trans rfl) w104.1, w104.2⟩
      have q := L_Mo_breaks_38 (d := d) h rfl
      exact ⟨zR_go 2 q.1 (fun n => rfl), q.2⟩
    · obtain ⟨rfl, rfl⟩ := zrI h
      exact ⟨zR_ret 3 ((if_neg g2).trans rfl), rfl⟩
set_option maxRecDepth 20000 in
theorem L_Mo_lost {N d sl : Nat} {sx : Nat → Int} {a0 : Nat} {M : ZM} {x : Int} {M' : ZM} (h : Mo_lost N a0 M = some (x, M')) (hK : mK M = zK0 sl sx) : zLI (d + 8) tb_X13_lost 0 [some (vR 11 (some a0)), none] [] M x M' (zK0 sl sx) := by
  obtain ⟨I0, L0, ⟨ra0, rb0, rc0, rd0⟩, K0, c0⟩ := M
  obtain rfl : K0 = zK0 sl sx := hK
  replace h := zWx h
  obtain ⟨v102, M102, f102, h⟩ := zBx h
  have q102 := L_Mo_powersNow (d := d) f102 rfl
  obtain ⟨I102, L102, ⟨ra102, rb102, rc102, rd102⟩, K102, c102⟩ := M102
  obtain rfl : K102 = zK0 sl sx := q102.2
  suffices w102 : zLI (d + 8) tb_X13_lost 9 [some (vR 11 (some a0)), none] [vI v102] (I102, L102, (ra102, rb102, rc102, rd102), zK0 sl sx, c102) x M' (zK0 sl sx) from ⟨zR_call (rest := []) 5 q102.1 (fun n => rfl) w102.1, w102.2⟩
  obtain ⟨v103, M103, f103, h⟩ := zBx h
  have q103 := L_Mo_homeBy (d := (d + 6)) f103 rfl
  obtain ⟨I103, L103, ⟨ra103, rb103, rc103, rd103⟩, K103, c103⟩ := M103
  obtain rfl : K103 = zK0 sl sx := q103.2
  suffices w103 : zLI (d + 8) tb_X13_lost 16 [some (vR 11 (some a0)), some (vI v102)] [vI v103, vI v102] (I103, L103, (ra103, rb103, rc103, rd103), zK0 sl sx, c103) x M' (zK0 sl sx) from ⟨zR_call (rest := [vI v102]) 5 q103.1 (fun n => rfl) w103.1, w103.2⟩
  obtain ⟨rfl, rfl⟩ := zrI h
  exact ⟨zR_ret 2 (rfl), rfl⟩
set_option maxRecDepth 20000 in
theorem L_Mo_powerBy_8 {N d sl : Nat} {sx : Nat → Int} : ∀ {n : Nat} {a0 : Nat} {x1 : Int} {x2 : Int} {x3 : Int} {M : ZM} {x : Int} {M' : ZM}, Mo_powerBy_8 N n a0 x1 x2 x3 M = some (x, M') → mK M = zK0 sl sx → zLI (d + 6) tb_X13_powerBy 8 [some (vR 11 (some a0)), some (vI x1), some (vI x2), some (vI x3)] [] M x M' (zK0 sl sx) := by
  intro n
  induction n with
  | zero => intros; rename_i h _; cases h
  | succ n ih =>
    intro a0 x1 x2 x3 M x M' h hK
    obtain ⟨I0, L0, ⟨ra0, rb0, rc0, rd0⟩, K0, c0⟩ := M
    obtain rfl : K0 = zK0 sl sx := hK
    rcases zit h with ⟨g1, h⟩ | ⟨g1, h⟩
    · obtain ⟨g2, h⟩ := zIx h
      rcases zit h with ⟨g3, h⟩ | ⟨g3, h⟩
      · obtain ⟨v101, M101, f101, h⟩ := zBx h
        have q101 := L_Mo_powerOf (d := d) f101 rfl
        obtain ⟨I101, L101, ⟨ra101, rb101, rc101, rd101⟩, K101, c101⟩ := M101
        obtain rfl : K101 = zK0 sl sx := q101.2
        suffices w101 : zLI (d + 6) tb_X13_powerBy 34 [some (vR 11 (some a0)), some (vI x1), some (vI x2), some (vI x3)] [vI v101, vI x2] (I101, L101, (ra101, rb101, rc101, rd101), zK0 sl sx, c101) x M' (zK0 sl sx) from ⟨zR_call (rest := [vI x2]) 16 q101.1 (fun n => (if_pos g1).trans ((if_pos g2).trans ((if_pos g3).trans rfl))) w101.1, w101.2⟩
        replace h := zWx h
        replace h := zWx h
        have q := ih h rfl
        exact ⟨zR_go 5 q.1 (fun n => rfl), q.2⟩
      · replace h := zWx h
        replace h := zWx h
        have q := ih h rfl
        exact ⟨zR_go 18 q.1 (fun n => (if_pos g1).trans ((if_pos g2).trans ((if_neg g3).trans rfl))), q.2⟩
    · obtain ⟨rfl, rfl⟩ := zrI h
      exact ⟨zR_ret 8 ((if_neg g1).trans rfl), rfl⟩
set_option maxRecDepth 20000 in
theorem L_Mo_powerBy {N d sl : Nat} {sx : Nat → Int} {a0 : Nat} {x1 : Int} {M : ZM} {x : Int} {M' : ZM} (h : Mo_powerBy N a0 x1 M = some (x, M')) (hK : mK M = zK0 sl sx) : zLI (d + 6) tb_X13_powerBy 0 [some (vR 11 (some a0)), some (vI x1), none, none] [] M x M' (zK0 sl sx) := by
  obtain ⟨I0, L0, ⟨ra0, rb0, rc0, rd0⟩, K0, c0⟩ := M
  obtain rfl : K0 = zK0 sl sx := hK
  obtain ⟨M101, f101, h⟩ := zBvx h
  have q101 := L_Mo_looks (d := (d + 4)) f101 rfl
  obtain ⟨I101, L101, ⟨ra101, rb101, rc101, rd101⟩, K101, c101⟩ := M101
  obtain rfl : K101 = zK0 sl sx := q101.2
  suffices w101 : zLI (d + 6) tb_X13_powerBy 4 [some (vR 11 (some a0)), some (vI x1), none, none] [] (I101, L101, (ra101, rb101, rc101, rd101), zK0 sl sx, c101) x M' (zK0 sl sx) from ⟨zR_call (rest := []) 2 q101.1 (fun n => rfl) w101.1, w101.2⟩
  have q := L_Mo_powerBy_8 (d := d) h rfl
  exact ⟨zR_go 4 q.1 (fun n => rfl), q.2⟩
set_option maxRecDepth 20000 in
theorem L_Mo_turnsAll_146 {N d sl : Nat} {sx : Nat → Int} {rec68 : Nat → Int → Int → Int → Int → ZM → Option ZM} (hrec68 : ∀ {a0 : Nat} {x1 : Int} {x2 : Int} {x3 : Int} {x4 : Int} {M : ZM} {M' : ZM}, rec68 a0 x1 x2 x3 x4 M = some M' → mK M = zK0 sl sx → zLV (d + 9) tb_X13_turnsAll 68 [some (vR 11 (some a0)), some (vI x1), some (vI x2), some (vI x3), some (vI x4), none, none] [] M M' (zK0 sl sx)) {a0 : Nat} {x1 : Int} {x2 : Int} {x3 : Int} {x4 : Int} {y0 : Int} {M : ZM} {M' : ZM} (h : Mo_turnsAll_146 N rec68 a0 x1 x2 x3 x4 y0 M = some M') (hK : mK M = zK0 sl sx) : zLV (d + 9) tb_X13_turnsAll 146 [some (vR 11 (some a0)), some (vI x1), some (vI x2), some (vI x3), some (vI x4), none, none] [vI y0] M M' (zK0 sl sx) := by
  obtain ⟨I0, L0, ⟨ra0, rb0, rc0, rd0⟩, K0, c0⟩ := M
  obtain rfl : K0 = zK0 sl sx := hK
  rcases zit h with ⟨g1, h⟩ | ⟨g1, h⟩
  · replace h := zWx h
    replace h := zWx h
    replace h := zWx h
    have q := hrec68 h rfl
    exact ⟨zR_go 13 (zR_up (ls' := [some (vR 11 (some a0)), some (vI x1), some (vI x2), some (vI x3), some (vI (z32 (x4 + 1))), none, some (vI y0)]) q.1 ⟨.inr rfl, .inr rfl, .inr rfl, .inr rfl, .inr rfl, .inr rfl, .inl rfl, trivial⟩) (fun n => (if_pos g1).trans rfl), q.2⟩
  · replace h := zWx h
    have q := hrec68 h rfl
    exact ⟨zR_go 8 (zR_up (ls' := [some (vR 11 (some a0)), some (vI x1), some (vI x2), some (vI x3), some (vI (z32 (x4 + 1))), none, some (vI y0)]) q.1 ⟨.inr rfl, .inr rfl, .inr rfl, .inr rfl, .inr rfl, .inr rfl, .inl rfl, trivial⟩) (fun n => (if_neg g1).trans rfl), q.2⟩
set_option maxRecDepth 20000 in
theorem L_Mo_turnsAll_88 {N d sl : Nat} {sx : Nat → Int} {rec68 : Nat → Int → Int → Int → Int → ZM → Option ZM} (hrec68 : ∀ {a0 : Nat} {x1 : Int} {x2 : Int} {x3 : Int} {x4 : Int} {M : ZM} {M' : ZM}, rec68 a0 x1 x2 x3 x4 M = some M' → mK M = zK0 sl sx → zLV (d + 9) tb_X13_turnsAll 68 [some (vR 11 (some a0)), some (vI x1), some (vI x2), some (vI x3), some (vI x4), none, none] [] M M' (zK0 sl sx)) : ∀ {n : Nat} {a0 : Nat} {x1 : Int} {x2 : Int} {x3 : Int} {x4 : Int} {x5 : Int} {x6 : Int} {M : ZM} {M' : ZM}, Mo_turnsAll_88 N rec68 n a0 x1 x2 x3 x4 x5 x6 M = some M' → mK M = zK0 sl sx → zLV (d + 9) tb_X13_turnsAll 88 [some (vR 11 (some a0)), some (vI x1), some (vI x2), some (vI x3), some (vI x4), some (vI x5), some (vI x6)] [] M M' (zK0 sl sx) := by
  intro n
  induction n with
  | zero => intros; rename_i h _; cases h
  | succ n ih =>
    intro a0 x1 x2 x3 x4 x5 x6 M M' h hK
    obtain ⟨I0, L0, ⟨ra0, rb0, rc0, rd0⟩, K0, c0⟩ := M
    obtain rfl : K0 = zK0 sl sx := hK
    rcases zit h with ⟨g1, h⟩ | ⟨g1, h⟩
    · rcases zit h with ⟨g2, h⟩ | ⟨g2, h⟩
      · obtain ⟨v101, M101, f101, h⟩ := zBx h
        have q101 := L_Mo_soldNow (d := d) f101 rfl
        obtain ⟨I101, L101, ⟨ra101, rb101, rc101, rd101⟩, K101, c101⟩ := M101
        obtain rfl : K101 = zK0 sl sx := q101.2
        suffices w101 : zLV (d + 9) tb_X13_turnsAll 138 [some (vR 11 (some a0)), some (vI x1), some (vI x2), some (vI x3), some (vI x4), some (vI x5), some (vI x6)] [vI v101] (I101, L101, (ra101, rb101, rc101, rd101), zK0 sl sx, c101) M' (zK0 sl sx) from ⟨zR_call (rest := []) 6 q101.1 (fun n => (if_pos g1).trans ((if_pos g2).trans rfl)) w101.1, w101.2⟩
        have q := L_Mo_turnsAll_146 (d := d) hrec68 h rfl
        exact ⟨zR_go 1 (zR_up (ls' := [some (vR 11 (some a0)), some (vI x1), some (vI x2), some (vI x3), some (vI x4), some (vI x5), some (vI x6)]) q.1 ⟨.inr rfl, .inr rfl, .inr rfl, .inr rfl, .inr rfl, .inl rfl, .inl rfl, trivial⟩) (fun n => rfl), q.2⟩
      · obtain ⟨v102, M102, f102, h⟩ := zBx h
        have q102 := L_Mo_powerBy (d := (d + 2)) f102 rfl
        obtain ⟨I102, L102, ⟨ra102, rb102, rc102, rd102⟩, K102, c102⟩ := M102
        obtain rfl : K102 = zK0 sl sx := q102.2
        suffices w102 : zLV (d + 9) tb_X13_turnsAll 146 [some (vR 11 (some a0)), some (vI x1), some (vI x2), some (vI x3), some (vI x4), some (vI x5), some (vI x6)] [vI v102] (I102, L102, (ra102, rb102, rc102, rd102), zK0 sl sx, c102) M' (zK0 sl sx) from ⟨zR_call (rest := []) 7 q102.1 (fun n => (if_pos g1).trans ((if_neg g2).trans rfl)) w102.1, w102.2⟩
        have q := L_Mo_turnsAll_146 (d := d) hrec68 h rfl
        exact ⟨(zR_up (ls' := [some (vR 11 (some a0)), some (vI x1), some (vI x2), some (vI x3), some (vI x4), some (vI x5), some (vI x6)]) q.1 ⟨.inr rfl, .inr rfl, .inr rfl, .inr rfl, .inr rfl, .inl rfl, .inl rfl, trivial⟩), q.2⟩
    · rcases zit h with ⟨g3, h⟩ | ⟨g3, h⟩
      · replace h := zWx h
        have q := ih h rfl
        exact ⟨zR_go 11 q.1 (fun n => (if_neg g1).trans ((if_pos g3).trans rfl)), q.2⟩
      · obtain ⟨g4, h⟩ := zIx h
        replace h := zWx h
        replace h := zWx h
        replace h := zWx h
        have q := ih h rfl
        exact ⟨zR_go 23 q.1 (fun n => (if_neg g1).trans ((if_neg g3).trans ((if_pos g4).trans rfl))), q.2⟩
set_option maxRecDepth 20000 in
theorem L_Mo_turnsAll_68 {N d sl : Nat} {sx : Nat → Int} : ∀ {n : Nat} {a0 : Nat} {x1 : Int} {x2 : Int} {x3 : Int} {x4 : Int} {M : ZM} {M' : ZM}, Mo_turnsAll_68 N n a0 x1 x2 x3 x4 M = some M' → mK M = zK0 sl sx → zLV (d + 9) tb_X13_turnsAll 68 [some (vR 11 (some a0)), some (vI x1), some (vI x2), some (vI x3), some (vI x4), none, none] [] M M' (zK0 sl sx) := by
  intro n
  induction n with
  | zero => intros; rename_i h _; cases h
  | succ n ih =>
    intro a0 x1 x2 x3 x4 M M' h hK
    obtain ⟨I0, L0, ⟨ra0, rb0, rc0, rd0⟩, K0, c0⟩ := M
    obtain rfl : K0 = zK0 sl sx := hK
    rcases zit h with ⟨g1, h⟩ | ⟨g1, h⟩
    · replace h := zWx h
      have q := L_Mo_turnsAll_88 (d := d) ih h rfl
      exact ⟨zR_go 12 q.1 (fun n => (if_pos g1).trans rfl), q.2⟩
    · obtain ⟨M102, f102, h⟩ := zBvx h
      have q102 := L_Mo_copies_83_81 (d := (d + 8)) f102 rfl
      obtain ⟨I102, L102, ⟨ra102, rb102, rc102, rd102⟩, K102, c102⟩ := M102
      obtain rfl : K102 = zK0 sl sx := q102.2
      suffices w102 : zLV (d + 9) tb_X13_turnsAll 191 [some (vR 11 (some a0)), some (vI x1), some (vI x2), some (vI x3), some (vI x4), none, none] [] (I102, L102, (ra102, rb102, rc102, rd102), zK0 sl sx, c102) M' (zK0 sl sx) from ⟨zR_call (rest := []) 10 q102.1 (fun n => (if_neg g1).trans rfl) w102.1, w102.2⟩
      obtain rfl := zrV h
      exact ⟨zR_ret 1 (rfl), rfl⟩
set_option maxRecDepth 20000 in
theorem L_Mo_turnsAll_18 {N d sl : Nat} {sx : Nat → Int} : ∀ {n : Nat} {a0 : Nat} {x1 : Int} {x2 : Int} {x3 : Int} {x4 : Int} {M : ZM} {M' : ZM}, Mo_turnsAll_18 N n a0 x1 x2 x3 x4 M = some M' → mK M = zK0 sl sx → zLV (d + 9) tb_X13_turnsAll 18 [some (vR 11 (some a0)), some (vI x1), some (vI x2), some (vI x3), some (vI x4), none, none] [] M M' (zK0 sl sx) := by
  intro n
  induction n with
  | zero => intros; rename_i h _; cases h
  | succ n ih =>
    intro a0 x1 x2 x3 x4 M M' h hK
    obtain ⟨I0, L0, ⟨ra0, rb0, rc0, rd0⟩, K0, c0⟩ := M
    obtain rfl : K0 = zK0 sl sx := hK
    rcases zit h with ⟨g1, h⟩ | ⟨g1, h⟩
    · rcases zit h with ⟨g2, h⟩ | ⟨g2, h⟩
      · replace h := zWx h
        replace h := zWx h
        have q := ih h rfl
        exact ⟨zR_go 20 q.1 (fun n => (if_pos g1).trans ((if_pos g2).trans rfl)), q.2⟩
      · replace h := zWx h
        replace h := zWx h
        have q := ih h rfl
        exact ⟨zR_go 19 q.1 (fun n => (if_pos g1).trans ((if_neg g2).trans rfl)), q.2⟩
    · replace h := zWx h
      replace h := zWx h
      have q := L_Mo_turnsAll_68 (d := d) h rfl
      exact ⟨zR_go 14 q.1 (fun n => (if_neg g1).trans rfl), q.2⟩
set_option maxRecDepth 20000 in
theorem L_Mo_turnsAll {N d sl : Nat} {sx : Nat → Int} {a0 : Nat} {x1 : Int} {x2 : Int} {M : ZM} {M' : ZM} (h : Mo_turnsAll N a0 x1 x2 M = some M') (hK : mK M = zK0 sl sx) : zLV (d + 9) tb_X13_turnsAll 0 [some (vR 11 (some a0)), some (vI x1), some (vI x2), none, none, none, none] [] M M' (zK0 sl sx) := by
  obtain ⟨I0, L0, ⟨ra0, rb0, rc0, rd0⟩, K0, c0⟩ := M
  obtain rfl : K0 = zK0 sl sx := hK
  obtain ⟨M101, f101, h⟩ := zBvx h
  have q101 := L_Mo_copies_81_83 (d := (d + 8)) f101 rfl
  obtain ⟨I101, L101, ⟨ra101, rb101, rc101, rd101⟩, K101, c101⟩ := M101
  obtain rfl : K101 = zK0 sl sx := q101.2
  suffices w101 : zLV (d + 9) tb_X13_turnsAll 13 [some (vR 11 (some a0)), some (vI x1), some (vI x2), none, none, none, none] [] (I101, L101, (ra101, rb101, rc101, rd101), zK0 sl sx, c101) M' (zK0 sl sx) from ⟨zR_call (rest := []) 7 q101.1 (fun n => rfl) w101.1, w101.2⟩
  have q := L_Mo_turnsAll_18 (d := d) h rfl
  exact ⟨zR_go 4 q.1 (fun n => rfl), q.2⟩
set_option maxRecDepth 20000 in
theorem L_Mo_ownedBy_4 {N d sl : Nat} {sx : Nat → Int} : ∀ {n : Nat} {a0 : Nat} {x1 : Int} {x2 : Int} {x3 : Int} {M : ZM} {x : Int} {M' : ZM}, Mo_ownedBy_4 N n a0 x1 x2 x3 M = some (x, M') → mK M = zK0 sl sx → zLI (d + 0) tb_X13_ownedBy 4 [some (vR 11 (some a0)), some (vI x1), some (vI x2), some (vI x3)] [] M x M' (zK0 sl sx) := by
  intro n
  induction n with
  | zero => intros; rename_i h _; cases h
  | succ n ih =>
    intro a0 x1 x2 x3 M x M' h hK
    obtain ⟨I0, L0, ⟨ra0, rb0, rc0, rd0⟩, K0, c0⟩ := M
    obtain rfl : K0 = zK0 sl sx := hK
    rcases zit h with ⟨g1, h⟩ | ⟨g1, h⟩
    · rcases zit h with ⟨g2, h⟩ | ⟨g2, h⟩
      · replace h := zWx h
        replace h := zWx h
        have q := ih h rfl
        exact ⟨zR_go 17 q.1 (fun n => (if_pos g1).trans ((if_pos g2).trans rfl)), q.2⟩
      · obtain ⟨g3, h⟩ := zIx h
        rcases zit h with ⟨g4, h⟩ | ⟨g4, h⟩
        · replace h := zWx h
          replace h := zWx h
          have q := ih h rfl
          exact ⟨zR_go 23 q.1 (fun n => (if_pos g1).trans ((if_neg g2).trans ((if_pos g3).trans ((if_pos g4).trans rfl)))), q.2⟩
        · replace h := zWx h
          replace h := zWx h
          have q := ih h rfl
          exact ⟨zR_go 20 q.1 (fun n => (if_pos g1).trans ((if_neg g2).trans ((if_pos g3).trans ((if_neg g4).trans rfl)))), q.2⟩
    · obtain ⟨rfl, rfl⟩ := zrI h
      exact ⟨zR_ret 8 ((if_neg g1).trans rfl), rfl⟩
set_option maxRecDepth 20000 in
theorem L_Mo_ownedBy {N d sl : Nat} {sx : Nat → Int} {a0 : Nat} {x1 : Int} {M : ZM} {x : Int} {M' : ZM} (h : Mo_ownedBy N a0 x1 M = some (x, M')) (hK : mK M = zK0 sl sx) : zLI (d + 0) tb_X13_ownedBy 0 [some (vR 11 (some a0)), some (vI x1), none, none] [] M x M' (zK0 sl sx) := by
  obtain ⟨I0, L0, ⟨ra0, rb0, rc0, rd0⟩, K0, c0⟩ := M
  obtain rfl : K0 = zK0 sl sx := hK
  have q := L_Mo_ownedBy_4 (d := d) h rfl
  exact ⟨zR_go 4 q.1 (fun n => rfl), q.2⟩
set_option maxRecDepth 20000 in
theorem L_Mo_foundOf_15 {N d sl : Nat} {sx : Nat → Int} : ∀ {n : Nat} {a0 : Nat} {x1 : Int} {x2 : Int} {x3 : Int} {x4 : Int} {M : ZM} {x : Int} {M' : ZM}, Mo_foundOf_15 N n a0 x1 x2 x3 x4 M = some (x, M') → mK M = zK0 sl sx → zLI (d + 0) tb_X13_foundOf 15 [some (vR 11 (some a0)), some (vI x1), some (vI x2), some (vI x3), some (vI x4)] [] M x M' (zK0 sl sx) := by
  intro n
  induction n with
  | zero => intros; rename_i h _; cases h
  | succ n ih =>
    intro a0 x1 x2 x3 x4 M x M' h hK
    obtain ⟨I0, L0, ⟨ra0, rb0, rc0, rd0⟩, K0, c0⟩ := M
    obtain rfl : K0 = zK0 sl sx := hK
    rcases zit h with ⟨g1, h⟩ | ⟨g1, h⟩
    · rcases zit h with ⟨g2, h⟩ | ⟨g2, h⟩
      · replace h := zWx h
        replace h := zWx h
        have q := ih h rfl
        exact ⟨zR_go 17 q.1 (fun n => (if_pos g1).trans ((if_pos g2).trans rfl)), q.2⟩
      · replace h := zWx h
        replace h := zWx h
        have q := ih h rfl
        exact ⟨zR_go 16 q.1 (fun n => (if_pos g1).trans ((if_neg g2).trans rfl)), q.2⟩
    · rcases zit h with ⟨g3, h⟩ | ⟨g3, h⟩
      · obtain ⟨rfl, rfl⟩ := zrI h
        exact ⟨zR_ret 15 ((if_neg g1).trans ((if_pos g3).trans rfl)), rfl⟩
      · obtain ⟨g4, h⟩ := zIx h
        obtain ⟨rfl, rfl⟩ := zrI h
        exact ⟨zR_ret 17 ((if_neg g1).trans ((if_neg g3).trans ((if_pos g4).trans rfl))), rfl⟩
set_option maxRecDepth 20000 in
theorem L_Mo_foundOf {N d sl : Nat} {sx : Nat → Int} {a0 : Nat} {x1 : Int} {x2 : Int} {M : ZM} {x : Int} {M' : ZM} (h : Mo_foundOf N a0 x1 x2 M = some (x, M')) (hK : mK M = zK0 sl sx) : zLI (d + 0) tb_X13_foundOf 0 [some (vR 11 (some a0)), some (vI x1), some (vI x2), none, none] [] M x M' (zK0 sl sx) := by
  obtain ⟨I0, L0, ⟨ra0, rb0, rc0, rd0⟩, K0, c0⟩ := M
  obtain rfl : K0 = zK0 sl sx := hK
  replace h := zWx h
  replace h := zWx h
  have q := L_Mo_foundOf_15 (d := d) h rfl
  exact ⟨zR_go 10 q.1 (fun n => rfl), q.2⟩
set_option maxRecDepth 20000 in
theorem L_Mo_best_22 {N d sl : Nat} {sx : Nat → Int} {a0 : Nat} {x1 : Int} {M : ZM} {x : Int} {M' : ZM} (h : Mo_best_22 N a0 x1 M = some (x, M')) (hK : mK M = zK0 sl sx) : zLI (d + 10) tb_X13_best 22 [some (vR 11 (some a0)), some (vI x1)] [] M x M' (zK0 sl sx) := by
  obtain ⟨I0, L0, ⟨ra0, rb0, rc0, rd0⟩, K0, c0⟩ := M
  obtain rfl : K0 = zK0 sl sx := hK
  obtain ⟨v101, M101, f101, h⟩ := zBx h
  have q101 := L_Mo_ownedBy (d := (d + 9)) f101 rfl
  obtain ⟨I101, L101, ⟨ra101, rb101, rc101, rd101⟩, K101, c101⟩ := M101
  obtain rfl : K101 = zK0 sl sx := q101.2
  suffices w101 : zLI (d + 10) tb_X13_best 28 [some (vR 11 (some a0)), some (vI x1)] [vI v101, vR 11 (some a0)] (I101, L101, (ra101, rb101, rc101, rd101), zK0 sl sx, c101) x M' (zK0 sl sx) from ⟨zR_call (rest := [vR 11 (some a0)]) 4 q101.1 (fun n => rfl) w101.1, w101.2⟩
  obtain ⟨M102, f102, h⟩ := zBvx h
  have q102 := L_Mo_turnsAll (d := d) f102 rfl
  obtain ⟨I102, L102, ⟨ra102, rb102, rc102, rd102⟩, K102, c102⟩ := M102
  obtain rfl : K102 = zK0 sl sx := q102.2
  suffices w102 : zLI (d + 10) tb_X13_best 32 [some (vR 11 (some a0)), some (vI x1)] [] (I102, L102, (ra102, rb102, rc102, rd102), zK0 sl sx, c102) x M' (zK0 sl sx) from ⟨zR_call (rest := []) 2 q102.1 (fun n => rfl) w102.1, w102.2⟩
  rcases zit h with ⟨g1, h⟩ | ⟨g1, h⟩
  · obtain ⟨rfl, rfl⟩ := zrI h
    exact ⟨zR_ret 7 ((if_pos g1).trans rfl), rfl⟩
  · obtain ⟨v103, M103, f103, h⟩ := zBx h
    have q103 := L_Mo_ownedBy (d := (d + 9)) f103 rfl
    obtain ⟨I103, L103, ⟨ra103, rb103, rc103, rd103⟩, K103, c103⟩ := M103
    obtain rfl : K103 = zK0 sl sx := q103.2
    suffices w103 : zLI (d + 10) tb_X13_best 50 [some (vR 11 (some a0)), some (vI x1)] [vI v103, vR 11 (some a0)] (I103, L103, (ra103, rb103, rc103, rd103), zK0 sl sx, c103) x M' (zK0 sl sx) from ⟨zR_call (rest := [vR 11 (some a0)]) 7 q103.1 (fun n => (if_neg g1).trans rfl) w103.1, w103.2⟩
    obtain ⟨v104, M104, f104, h⟩ := zBx h
    have q104 := L_Mo_foundOf (d := (d + 9)) f104 rfl
    obtain ⟨I104, L104, ⟨ra104, rb104, rc104, rd104⟩, K104, c104⟩ := M104
    obtain rfl : K104 = zK0 sl sx := q104.2
    suffices w104 : zLI (d + 10) tb_X13_best 54 [some (vR 11 (some a0)), some (vI x1)] [vI v104] (I104, L104, (ra104, rb104, rc104, rd104), zK0 sl sx, c104) x M' (zK0 sl sx) from ⟨zR_call (rest := []) 2 q104.1 (fun n => rfl) w104.1, w104.2⟩
    obtain ⟨rfl, rfl⟩ := zrI h
    exact ⟨zR_ret 1 (rfl), rfl⟩
set_option maxRecDepth 20000 in
theorem L_Mo_best {N d sl : Nat} {sx : Nat → Int} {a0 : Nat} {x1 : Int} {M : ZM} {x : Int} {M' : ZM} (h : Mo_best N a0 x1 M = some (x, M')) (hK : mK M = zK0 sl sx) : zLI (d + 10) tb_X13_best 0 [some (vR 11 (some a0)), some (vI x1)] [] M x M' (zK0 sl sx) := by
  obtain ⟨I0, L0, ⟨ra0, rb0, rc0, rd0⟩, K0, c0⟩ := M
  obtain rfl : K0 = zK0 sl sx := hK
  replace h := zWx h
  rcases zit h with ⟨g1, h⟩ | ⟨g1, h⟩
  · have q := L_Mo_best_22 (d := d) h rfl
    exact ⟨zR_go 6 q.1 (fun n => (if_pos g1).trans rfl), q.2⟩
  · obtain ⟨v102, M102, f102, h⟩ := zBx h
    have q102 := L_Mo_isTurbine (d := (d + 9)) f102 rfl
    obtain ⟨I102, L102, ⟨ra102, rb102, rc102, rd102⟩, K102, c102⟩ := M102
    obtain rfl : K102 = zK0 sl sx := q102.2
    suffices w102 : zLI (d + 10) tb_X13_best 15 [some (vR 11 (some a0)), some (vI x1)] [vI v102] (I102, L102, (ra102, rb102, rc102, rd102), zK0 sl sx, c102) x M' (zK0 sl sx) from ⟨zR_call (rest := []) 9 q102.1 (fun n => (if_neg g1).trans rfl) w102.1, w102.2⟩
    rcases zit h with ⟨g2, h⟩ | ⟨g2, h⟩
    · obtain ⟨rfl, rfl⟩ := zrI h
      exact ⟨zR_ret 3 ((if_pos g2).trans rfl), rfl⟩
    · have q := L_Mo_best_22 (d := d) h rfl
      exact ⟨zR_go 1 q.1 (fun n => (if_neg g2).trans rfl), q.2⟩
set_option maxRecDepth 20000 in
theorem L_Mo_alone_30 {N d sl : Nat} {sx : Nat → Int} {a0 : Nat} {x1 : Int} {x2 : Int} {M : ZM} {x : Int} {M' : ZM} (h : Mo_alone_30 N a0 x1 x2 M = some (x, M')) (hK : mK M = zK0 sl sx) : zLI (d + 10) tb_X13_alone 30 [some (vR 11 (some a0)), some (vI x1), some (vI x2)] [] M x M' (zK0 sl sx) := by
  obtain ⟨I0, L0, ⟨ra0, rb0, rc0, rd0⟩, K0, c0⟩ := M
  obtain rfl : K0 = zK0 sl sx := hK
  obtain ⟨v101, M101, f101, h⟩ := zBx h
  have q101 := L_Mo_ownedBy (d := (d + 9)) f101 rfl
  obtain ⟨I101, L101, ⟨ra101, rb101, rc101, rd101⟩, K101, c101⟩ := M101
  obtain rfl : K101 = zK0 sl sx := q101.2
  suffices w101 : zLI (d + 10) tb_X13_alone 36 [some (vR 11 (some a0)), some (vI x1), some (vI x2)] [vI v101, vR 11 (some a0)] (I101, L101, (ra101, rb101, rc101, rd101), zK0 sl sx, c101) x M' (zK0 sl sx) from ⟨zR_call (rest := [vR 11 (some a0)]) 4 q101.1 (fun n => rfl) w101.1, w101.2⟩
  obtain ⟨M102, f102, h⟩ := zBvx h
  have q102 := L_Mo_turnsAll (d := d) f102 rfl
  obtain ⟨I102, L102, ⟨ra102, rb102, rc102, rd102⟩, K102, c102⟩ := M102
  obtain rfl : K102 = zK0 sl sx := q102.2
  suffices w102 : zLI (d + 10) tb_X13_alone 40 [some (vR 11 (some a0)), some (vI x1), some (vI x2)] [] (I102, L102, (ra102, rb102, rc102, rd102), zK0 sl sx, c102) x M' (zK0 sl sx) from ⟨zR_call (rest := []) 2 q102.1 (fun n => rfl) w102.1, w102.2⟩
  rcases zit h with ⟨g1, h⟩ | ⟨g1, h⟩
  · obtain ⟨rfl, rfl⟩ := zrI h
    exact ⟨zR_ret 7 ((if_pos g1).trans rfl), rfl⟩
  · obtain ⟨v103, M103, f103, h⟩ := zBx h
    have q103 := L_Mo_ownedBy (d := (d + 9)) f103 rfl
    obtain ⟨I103, L103, ⟨ra103, rb103, rc103, rd103⟩, K103, c103⟩ := M103
    obtain rfl : K103 = zK0 sl sx := q103.2
    suffices w103 : zLI (d + 10) tb_X13_alone 58 [some (vR 11 (some a0)), some (vI x1), some (vI x2)] [vI v103, vR 11 (some a0)] (I103, L103, (ra103, rb103, rc103, rd103), zK0 sl sx, c103) x M' (zK0 sl sx) from ⟨zR_call (rest := [vR 11 (some a0)]) 7 q103.1 (fun n => (if_neg g1).trans rfl) w103.1, w103.2⟩
    obtain ⟨v104, M104, f104, h⟩ := zBx h
    have q104 := L_Mo_foundOf (d := (d + 9)) f104 rfl
    obtain ⟨I104, L104, ⟨ra104, rb104, rc104, rd104⟩, K104, c104⟩ := M104
    obtain rfl : K104 = zK0 sl sx := q104.2
    suffices w104 : zLI (d + 10) tb_X13_alone 62 [some (vR 11 (some a0)), some (vI x1), some (vI x2)] [vI v104] (I104, L104, (ra104, rb104, rc104, rd104), zK0 sl sx, c104) x M' (zK0 sl sx) from ⟨zR_call (rest := []) 2 q104.1 (fun n => rfl) w104.1, w104.2⟩
    obtain ⟨rfl, rfl⟩ := zrI h
    exact ⟨zR_ret 1 (rfl), rfl⟩
set_option maxRecDepth 20000 in
theorem L_Mo_alone {N d sl : Nat} {sx : Nat → Int} {a0 : Nat} {x1 : Int} {x2 : Int} {M : ZM} {x : Int} {M' : ZM} (h : Mo_alone N a0 x1 x2 M = some (x, M')) (hK : mK M = zK0 sl sx) : zLI (d + 10) tb_X13_alone 0 [some (vR 11 (some a0)), some (vI x1), some (vI x2)] [] M x M' (zK0 sl sx) := by
  obtain ⟨I0, L0, ⟨ra0, rb0, rc0, rd0⟩, K0, c0⟩ := M
  obtain rfl : K0 = zK0 sl sx := hK
  replace h := zWx h
  obtain ⟨v102, M102, f102, h⟩ := zBx h
  have q102 := L_Mo_within (d := (d + 9)) f102 rfl
  obtain ⟨I102, L102, ⟨ra102, rb102, rc102, rd102⟩, K102, c102⟩ := M102
  obtain rfl : K102 = zK0 sl sx := q102.2
  suffices w102 : zLI (d + 10) tb_X13_alone 11 [some (vR 11 (some a0)), some (vI x1), some (vI x2)] [vI v102] (I102, L102, (ra102, rb102, rc102, rd102), zK0 sl sx, c102) x M' (zK0 sl sx) from ⟨zR_call (rest := []) 7 q102.1 (fun n => rfl) w102.1, w102.2⟩
  rcases zit h with ⟨g1, h⟩ | ⟨g1, h⟩
  · obtain ⟨rfl, rfl⟩ := zrI h
    exact ⟨zR_ret 3 ((if_pos g1).trans rfl), rfl⟩
  · rcases zit h with ⟨g2, h⟩ | ⟨g2, h⟩
    · have q := L_Mo_alone_30 (d := d) h rfl
      exact ⟨zR_go 4 q.1 (fun n => (if_neg g1).trans ((if_pos g2).trans rfl)), q.2⟩
    · obtain ⟨v103, M103, f103, h⟩ := zBx h
      have q103 := L_Mo_isTurbine (d := (d + 9)) f103 rfl
      obtain ⟨I103, L103, ⟨ra103, rb103, rc103, rd103⟩, K103, c103⟩ := M103
      obtain rfl : K103 = zK0 sl sx := q103.2
      suffices w103 : zLI (d + 10) tb_X13_alone 24 [some (vR 11 (some a0)), some (vI x1), some (vI x2)] [vI v103] (I103, L103, (ra103, rb103, rc103, rd103), zK0 sl sx, c103) x M' (zK0 sl sx) from ⟨zR_call (rest := []) 7 q103.1 (fun n => (if_neg g1).trans ((if_neg g2).trans rfl)) w103.1, w103.2⟩
      rcases zit h with ⟨g3, h⟩ | ⟨g3, h⟩
      · obtain ⟨rfl, rfl⟩ := zrI h
        exact ⟨zR_ret 3 ((if_pos g3).trans rfl), rfl⟩
      · have q := L_Mo_alone_30 (d := d) h rfl
        exact ⟨zR_go 1 q.1 (fun n => (if_neg g3).trans rfl), q.2⟩
set_option maxRecDepth 20000 in
theorem L_Mo_idle_42 {N d sl : Nat} {sx : Nat → Int} : ∀ {n : Nat} {a0 : Nat} {x1 : Int} {x2 : Int} {x3 : Int} {x4 : Int} {x5 : Int} {M : ZM} {x : Int} {M' : ZM}, Mo_idle_42 N n a0 x1 x2 x3 x4 x5 M = some (x, M') → mK M = zK0 sl sx → zLI (d + 9) tb_X13_idle 42 [some (vR 11 (some a0)), some (vI x1), some (vI x2), some (vI x3), some (vI x4), some (vI x5), none] [] M x M' (zK0 sl sx) := by
  intro n
  induction n with
  | zero => intros; rename_i h _; cases h
  | succ n ih =>
    intro a0 x1 x2 x3 x4 x5 M x M' h hK
    obtain ⟨I0, L0, ⟨ra0, rb0, rc0, rd0⟩, K0, c0⟩ := M
    obtain rfl : K0 = zK0 sl sx := hK
    rcases zit h with ⟨g1, h⟩ | ⟨g1, h⟩
    · replace h := zWx h
      obtain ⟨rfl, rfl⟩ := zrI h
      exact ⟨zR_ret 10 ((if_pos g1).trans rfl), rfl⟩
    · rcases zit h with ⟨g2, h⟩ | ⟨g2, h⟩
      · replace h := zWx h
        obtain ⟨v103, M103, f103, h⟩ := zBx h
        have q103 := L_Mo_soldNow (d := d) f103 rfl
        obtain ⟨I103, L103, ⟨ra103, rb103, rc103, rd103⟩, K103, c103⟩ := M103
        obtain rfl : K103 = zK0 sl sx := q103.2
        suffices w103 : zLI (d + 9) tb_X13_idle 78 [some (vR 11 (some a0)), some (vI x1), some (vI x2), some (vI x3), some (vI x4), some (vI x5), none] [vI v103] (I103, L103, (ra103, rb103, rc103, rd103), zK0 sl sx, c103) x M' (zK0 sl sx) from ⟨zR_call (rest := []) 22 q103.1 (fun n => (if_neg g1).trans ((if_pos g2).trans rfl)) w103.1, w103.2⟩
        rcases zit h with ⟨g3, h⟩ | ⟨g3, h⟩
        · replace h := zWx h
          have q := ih h rfl
          exact ⟨zR_go 10 (zR_up (ls' := [some (vR 11 (some a0)), some (vI x1), some (vI x2), some (vI x5), some (vI v103), some (vI (z32 (x5 + 1))), some (vI v103)]) q.1 ⟨.inr rfl, .inr rfl, .inr rfl, .inr rfl, .inr rfl, .inr rfl, .inl rfl, trivial⟩) (fun n => (if_pos g3).trans rfl), q.2⟩
        · replace h := zWx h
          have q := ih h rfl
          exact ⟨zR_go 7 (zR_up (ls' := [some (vR 11 (some a0)), some (vI x1), some (vI x2), some (vI x3), some (vI x4), some (vI (z32 (x5 + 1))), some (vI v103)]) q.1 ⟨.inr rfl, .inr rfl, .inr rfl, .inr rfl, .inr rfl, .inr rfl, .inl rfl, trivial⟩) (fun n => (if_neg g3).trans rfl), q.2⟩
      · replace h := zWx h
        have q := ih h rfl
        exact ⟨zR_go 12 q.1 (fun n => (if_neg g1).trans ((if_neg g2).trans rfl)), q.2⟩
set_option maxRecDepth 20000 in
theorem L_Mo_idle {N d sl : Nat} {sx : Nat → Int} {a0 : Nat} {M : ZM} {x : Int} {M' : ZM} (h : Mo_idle N a0 M = some (x, M')) (hK : mK M = zK0 sl sx) : zLI (d + 9) tb_X13_idle 0 [some (vR 11 (some a0)), none, none, none, none, none, none] [] M x M' (zK0 sl sx) := by
  obtain ⟨I0, L0, ⟨ra0, rb0, rc0, rd0⟩, K0, c0⟩ := M
  obtain rfl : K0 = zK0 sl sx := hK
  replace h := zWx h
  replace h := zWx h
  replace h := zWx h
  have q := L_Mo_idle_42 (d := d) h rfl
  exact ⟨zR_go 30 q.1 (fun n => rfl), q.2⟩
set_option maxRecDepth 20000 in
theorem L_Mo_straight_25 {N d sl : Nat} {sx : Nat → Int} : ∀ {n : Nat} {a0 : Nat} {x1 : Int} {x2 : Int} {M : ZM} {x : Int} {M' : ZM}, Mo_straight_25 N n a0 x1 x2 M = some (x, M') → mK M = zK0 sl sx → zLI (d + 9) tb_X13_straight 25 [some (vR 11 (some a0)), some (vI x1), some (vI x2)] [] M x M' (zK0 sl sx) := by
  intro n
  induction n with
  | zero => intros; rename_i h _; cases h
  | succ n ih =>
    intro a0 x1 x2 M x M' h hK
    obtain ⟨I0, L0, ⟨ra0, rb0, rc0, rd0⟩, K0, c0⟩ := M
    obtain rfl : K0 = zK0 sl sx := hK
    rcases zit h with ⟨g1, h⟩ | ⟨g1, h⟩
    · obtain ⟨g2, h⟩ := zIx h
      replace h := zWx h
      replace h := zWx h
      have q := ih h rfl
      exact ⟨zR_go 12 q.1 (fun n => (if_pos g1).trans ((if_pos g2).trans rfl)), q.2⟩
    · obtain ⟨v103, M103, f103, h⟩ := zBx h
      have q103 := L_Mo_soldNow (d := d) f103 rfl
      obtain ⟨I103, L103, ⟨ra103, rb103, rc103, rd103⟩, K103, c103⟩ := M103
      obtain rfl : K103 = zK0 sl sx := q103.2
      suffices w103 : zLI (d + 9) tb_X13_straight 50 [some (vR 11 (some a0)), some (vI x1), some (vI x2)] [vI v103] (I103, L103, (ra103, rb103, rc103, rd103), zK0 sl sx, c103) x M' (zK0 sl sx) from ⟨zR_call (rest := []) 5 q103.1 (fun n => (if_neg g1).trans rfl) w103.1, w103.2⟩
      obtain ⟨M104, f104, h⟩ := zBvx h
      have q104 := L_Mo_copies_83_81 (d := (d + 8)) f104 rfl
      obtain ⟨I104, L104, ⟨ra104, rb104, rc104, rd104⟩, K104, c104⟩ := M104
      obtain rfl : K104 = zK0 sl sx := q104.2
      suffices w104 : zLI (d + 9) tb_X13_straight 64 [some (vR 11 (some a0)), some (vI x1), some (vI v103)] [] (I104, L104, (ra104, rb104, rc104, rd104), zK0 sl sx, c104) x M' (zK0 sl sx) from ⟨zR_call (rest := []) 8 q104.1 (fun n => rfl) w104.1, w104.2⟩
      obtain ⟨rfl, rfl⟩ := zrI h
      exact ⟨zR_ret 4 (rfl), rfl⟩
set_option maxRecDepth 20000 in
theorem L_Mo_straight {N d sl : Nat} {sx : Nat → Int} {a0 : Nat} {M : ZM} {x : Int} {M' : ZM} (h : Mo_straight N a0 M = some (x, M')) (hK : mK M = zK0 sl sx) : zLI (d + 9) tb_X13_straight 0 [some (vR 11 (some a0)), none, none] [] M x M' (zK0 sl sx) := by
  obtain ⟨I0, L0, ⟨ra0, rb0, rc0, rd0⟩, K0, c0⟩ := M
  obtain rfl : K0 = zK0 sl sx := hK
  replace h := zWx h
  obtain ⟨v102, M102, f102, h⟩ := zBx h
  have q102 := L_Mo_soldNow (d := d) f102 rfl
  obtain ⟨I102, L102, ⟨ra102, rb102, rc102, rd102⟩, K102, c102⟩ := M102
  obtain rfl : K102 = zK0 sl sx := q102.2
  suffices w102 : zLI (d + 9) tb_X13_straight 9 [some (vR 11 (some a0)), none, none] [vI v102] (I102, L102, (ra102, rb102, rc102, rd102), zK0 sl sx, c102) x M' (zK0 sl sx) from ⟨zR_call (rest := []) 5 q102.1 (fun n => rfl) w102.1, w102.2⟩
  obtain ⟨M103, f103, h⟩ := zBvx h
  have q103 := L_Mo_copies_81_83 (d := (d + 8)) f103 rfl
  obtain ⟨I103, L103, ⟨ra103, rb103, rc103, rd103⟩, K103, c103⟩ := M103
  obtain rfl : K103 = zK0 sl sx := q103.2
  suffices w103 : zLI (d + 9) tb_X13_straight 23 [some (vR 11 (some a0)), some (vI v102), none] [] (I103, L103, (ra103, rb103, rc103, rd103), zK0 sl sx, c103) x M' (zK0 sl sx) from ⟨zR_call (rest := []) 8 q103.1 (fun n => rfl) w103.1, w103.2⟩
  have q := L_Mo_straight_25 (d := d) h rfl
  exact ⟨zR_go 2 q.1 (fun n => rfl), q.2⟩
set_option maxRecDepth 20000 in
theorem L_Mo_full_14 {N d sl : Nat} {sx : Nat → Int} : ∀ {n : Nat} {a0 : Nat} {x1 : Int} {x2 : Int} {M : ZM} {x : Int} {M' : ZM}, Mo_full_14 N n a0 x1 x2 M = some (x, M') → mK M = zK0 sl sx → zLI (d + 8) tb_X13_full 14 [some (vR 11 (some a0)), some (vI x1), some (vI x2)] [] M x M' (zK0 sl sx) := by
  intro n
  induction n with
  | zero => intros; rename_i h _; cases h
  | succ n ih =>
    intro a0 x1 x2 M x M' h hK
    obtain ⟨I0, L0, ⟨ra0, rb0, rc0, rd0⟩, K0, c0⟩ := M
    obtain rfl : K0 = zK0 sl sx := hK
    rcases zit h with ⟨g1, h⟩ | ⟨g1, h⟩
    · obtain ⟨g2, h⟩ := zIx h
      rcases zit h with ⟨g3, h⟩ | ⟨g3, h⟩
      · replace h := zWx h
        replace h := zWx h
        have q := ih h rfl
        exact ⟨zR_go 17 q.1 (fun n => (if_pos g1).trans ((if_pos g2).trans ((if_pos g3).trans rfl))), q.2⟩
      · obtain ⟨g4, h⟩ := zIx h
        obtain ⟨g5, h⟩ := zIx h
        rcases zit h with ⟨g6, h⟩ | ⟨g6, h⟩
        · replace h := zWx h
          replace h := zWx h
          have q := ih h rfl
          exact ⟨zR_go 29 q.1 (fun n => (if_pos g1).trans ((if_pos g2).trans ((if_neg g3).trans ((if_pos g4).trans ((if_pos g5).trans ((if_pos g6).trans rfl)))))), q.2⟩
        · replace h := zWx h
          replace h := zWx h
          have q := ih h rfl
          exact ⟨zR_go 26 q.1 (fun n => (if_pos g1).trans ((if_pos g2).trans ((if_neg g3).trans ((if_pos g4).trans ((if_pos g5).trans ((if_neg g6).trans rfl)))))), q.2⟩
    · obtain ⟨rfl, rfl⟩ := zrI h
      exact ⟨zR_ret 8 ((if_neg g1).trans rfl), rfl⟩
set_option maxRecDepth 20000 in
theorem L_Mo_full {N d sl : Nat} {sx : Nat → Int} {a0 : Nat} {M : ZM} {x : Int} {M' : ZM} (h : Mo_full N a0 M = some (x, M')) (hK : mK M = zK0 sl sx) : zLI (d + 8) tb_X13_full 0 [some (vR 11 (some a0)), none, none] [] M x M' (zK0 sl sx) := by
  obtain ⟨I0, L0, ⟨ra0, rb0, rc0, rd0⟩, K0, c0⟩ := M
  obtain rfl : K0 = zK0 sl sx := hK
  replace h := zWx h
  obtain ⟨v102, M102, f102, h⟩ := zBx h
  have q102 := L_Mo_homeNow (d := d) f102 rfl
  obtain ⟨I102, L102, ⟨ra102, rb102, rc102, rd102⟩, K102, c102⟩ := M102
  obtain rfl : K102 = zK0 sl sx := q102.2
  suffices w102 : zLI (d + 8) tb_X13_full 9 [some (vR 11 (some a0)), none, none] [vI v102] (I102, L102, (ra102, rb102, rc102, rd102), zK0 sl sx, c102) x M' (zK0 sl sx) from ⟨zR_call (rest := []) 5 q102.1 (fun n => rfl) w102.1, w102.2⟩
  have q := L_Mo_full_14 (d := d) h rfl
  exact ⟨zR_go 5 q.1 (fun n => rfl), q.2⟩
set_option maxRecDepth 20000 in
theorem L_Mo_dear_16 {N d sl : Nat} {sx : Nat → Int} : ∀ {n : Nat} {a0 : Nat} {x1 : Int} {x2 : Int} {x3 : Int} {M : ZM} {x : Int} {M' : ZM}, Mo_dear_16 N n a0 x1 x2 x3 M = some (x, M') → mK M = zK0 sl sx → zLI (d + 8) tb_X13_dear 16 [some (vR 11 (some a0)), some (vI x1), some (vI x2), some (vI x3), none] [] M x M' (zK0 sl sx) := by
  intro n
  induction n with
  | zero => intros; rename_i h _; cases h
  | succ n ih =>
    intro a0 x1 x2 x3 M x M' h hK
    obtain ⟨I0, L0, ⟨ra0, rb0, rc0, rd0⟩, K0, c0⟩ := M
    obtain rfl : K0 = zK0 sl sx := hK
    rcases zit h with ⟨g1, h⟩ | ⟨g1, h⟩
    · obtain ⟨g2, h⟩ := zIx h
      rcases zit h with ⟨g3, h⟩ | ⟨g3, h⟩
      · replace h := zWx h
        have q := ih h rfl
        exact ⟨zR_go 14 q.1 (fun n => (if_pos g1).trans ((if_pos g2).trans ((if_pos g3).trans rfl))), q.2⟩
      · obtain ⟨v102, M102, f102, h⟩ := zBx h
        have q102 := L_Mo_homeBy (d := (d + 6)) f102 rfl
        obtain ⟨I102, L102, ⟨ra102, rb102, rc102, rd102⟩, K102, c102⟩ := M102
        obtain rfl : K102 = zK0 sl sx := q102.2
        suffices w102 : zLI (d + 8) tb_X13_dear 43 [some (vR 11 (some a0)), some (vI x1), some (vI x2), some (vI x3), none] [vI v102] (I102, L102, (ra102, rb102, rc102, rd102), zK0 sl sx, c102) x M' (zK0 sl sx) from ⟨zR_call (rest := []) 14 q102.1 (fun n => (if_pos g1).trans ((if_pos g2).trans ((if_neg g3).trans rfl))) w102.1, w102.2⟩
        rcases zit h with ⟨g4, h⟩ | ⟨g4, h⟩
        · replace h := zWx h
          have q := ih h rfl
          exact ⟨zR_go 9 (zR_up (ls' := [some (vR 11 (some a0)), some (vI x3), some (vI v102), some (vI (z32 (x3 + 1))), some (vI v102)]) q.1 ⟨.inr rfl, .inr rfl, .inr rfl, .inr rfl, .inl rfl, trivial⟩) (fun n => (if_pos g4).trans rfl), q.2⟩
        · rcases zit h with ⟨g5, h⟩ | ⟨g5, h⟩
          · replace h := zWx h
            have q := ih h rfl
            exact ⟨zR_go 12 (zR_up (ls' := [some (vR 11 (some a0)), some (vI x3), some (vI v102), some (vI (z32 (x3 + 1))), some (vI v102)]) q.1 ⟨.inr rfl, .inr rfl, .inr rfl, .inr rfl, .inl rfl, trivial⟩) (fun n => (if_neg g4).trans ((if_pos g5).trans rfl)), q.2⟩
          · replace h := zWx h
            have q := ih h rfl
            exact ⟨zR_go 9 (zR_up (ls' := [some (vR 11 (some a0)), some (vI x1), some (vI x2), some (vI (z32 (x3 + 1))), some (vI v102)]) q.1 ⟨.inr rfl, .inr rfl, .inr rfl, .inr rfl, .inl rfl, trivial⟩) (fun n => (if_neg g4).trans ((if_neg g5).trans rfl)), q.2⟩
    · obtain ⟨rfl, rfl⟩ := zrI h
      exact ⟨zR_ret 8 ((if_neg g1).trans rfl), rfl⟩
set_option maxRecDepth 20000 in
theorem L_Mo_dear {N d sl : Nat} {sx : Nat → Int} {a0 : Nat} {M : ZM} {x : Int} {M' : ZM} (h : Mo_dear N a0 M = some (x, M')) (hK : mK M = zK0 sl sx) : zLI (d + 8) tb_X13_dear 0 [some (vR 11 (some a0)), none, none, none, none] [] M x M' (zK0 sl sx) := by
  obtain ⟨I0, L0, ⟨ra0, rb0, rc0, rd0⟩, K0, c0⟩ := M
  obtain rfl : K0 = zK0 sl sx := hK
  replace h := zWx h
  obtain ⟨v102, M102, f102, h⟩ := zBx h
  have q102 := L_Mo_homeNow (d := d) f102 rfl
  obtain ⟨I102, L102, ⟨ra102, rb102, rc102, rd102⟩, K102, c102⟩ := M102
  obtain rfl : K102 = zK0 sl sx := q102.2
  suffices w102 : zLI (d + 8) tb_X13_dear 9 [some (vR 11 (some a0)), none, none, none, none] [vI v102] (I102, L102, (ra102, rb102, rc102, rd102), zK0 sl sx, c102) x M' (zK0 sl sx) from ⟨zR_call (rest := []) 5 q102.1 (fun n => rfl) w102.1, w102.2⟩
  have q := L_Mo_dear_16 (d := d) h rfl
  exact ⟨zR_go 7 q.1 (fun n => rfl), q.2⟩
set_option maxRecDepth 20000 in
theorem L_Mo_fault {N d sl : Nat} {sx : Nat → Int} {a0 : Nat} {x1 : Int} {M : ZM} {x : Int} {M' : ZM} (h : Mo_fault N a0 x1 M = some (x, M')) (hK : mK M = zK0 sl sx) : zLI (d + 8) tb_X13_fault 0 [some (vR 11 (some a0)), some (vI x1)] [] M x M' (zK0 sl sx) := by
  obtain ⟨I0, L0, ⟨ra0, rb0, rc0, rd0⟩, K0, c0⟩ := M
  obtain rfl : K0 = zK0 sl sx := hK
  replace h := zWx h
  obtain ⟨v102, M102, f102, h⟩ := zBx h
  have q102 := L_Mo_isTurbine (d := (d + 7)) f102 rfl
  obtain ⟨I102, L102, ⟨ra102, rb102, rc102, rd102⟩, K102, c102⟩ := M102
  obtain rfl : K102 = zK0 sl sx := q102.2
  suffices w102 : zLI (d + 8) tb_X13_fault 10 [some (vR 11 (some a0)), some (vI x1)] [vI v102] (I102, L102, (ra102, rb102, rc102, rd102), zK0 sl sx, c102) x M' (zK0 sl sx) from ⟨zR_call (rest := []) 6 q102.1 (fun n => rfl) w102.1, w102.2⟩
  rcases zit h with ⟨g1, h⟩ | ⟨g1, h⟩
  · obtain ⟨rfl, rfl⟩ := zrI h
    exact ⟨zR_ret 3 ((if_pos g1).trans rfl), rfl⟩
  · obtain ⟨g2, h⟩ := zIx h
    rcases zit h with ⟨g3, h⟩ | ⟨g3, h⟩
    · obtain ⟨rfl, rfl⟩ := zrI h
      exact ⟨zR_ret 8 ((if_neg g1).trans ((if_pos g2).trans ((if_pos g3).trans rfl))), rfl⟩
    · obtain ⟨v103, M103, f103, h⟩ := zBx h
      have q103 := L_Mo_homeNow (d := d) f103 rfl
      obtain ⟨I103, L103, ⟨ra103, rb103, rc103, rd103⟩, K103, c103⟩ := M103
      obtain rfl : K103 = zK0 sl sx := q103.2
      suffices w103 : zLI (d + 8) tb_X13_fault 28 [some (vR 11 (some a0)), some (vI x1)] [vI v103] (I103, L103, (ra103, rb103, rc103, rd103), zK0 sl sx, c103) x M' (zK0 sl sx) from ⟨zR_call (rest := []) 8 q103.1 (fun n => (if_neg g1).trans ((if_pos g2).trans ((if_neg g3).trans rfl))) w103.1, w103.2⟩
      obtain ⟨v104, M104, f104, h⟩ := zBx h
      have q104 := L_Mo_homeBy (d := (d + 6)) f104 rfl
      obtain ⟨I104, L104, ⟨ra104, rb104, rc104, rd104⟩, K104, c104⟩ := M104
      obtain rfl : K104 = zK0 sl sx := q104.2
      suffices w104 : zLI (d + 8) tb_X13_fault 34 [some (vR 11 (some a0)), some (vI x1)] [vI v104] (I104, L104, (ra104, rb104, rc104, rd104), zK0 sl sx, c104) x M' (zK0 sl sx) from ⟨zR_call (rest := []) 4 q104.1 (fun n => rfl) w104.1, w104.2⟩
      obtain ⟨rfl, rfl⟩ := zrI h
      exact ⟨zR_ret 1 (rfl), rfl⟩
set_option maxRecDepth 20000 in
theorem L_Mo_hops {N d sl : Nat} {sx : Nat → Int} {a0 : Nat} {x1 : Int} {M : ZM} {x : Int} {M' : ZM} (h : Mo_hops N a0 x1 M = some (x, M')) (hK : mK M = zK0 sl sx) : zLI (d + 1) tb_X13_hops 0 [some (vR 11 (some a0)), some (vI x1)] [] M x M' (zK0 sl sx) := by
  obtain ⟨I0, L0, ⟨ra0, rb0, rc0, rd0⟩, K0, c0⟩ := M
  obtain rfl : K0 = zK0 sl sx := hK
  replace h := zWx h
  obtain ⟨v102, M102, f102, h⟩ := zBx h
  have q102 := L_Mo_isTurbine (d := d) f102 rfl
  obtain ⟨I102, L102, ⟨ra102, rb102, rc102, rd102⟩, K102, c102⟩ := M102
  obtain rfl : K102 = zK0 sl sx := q102.2
  suffices w102 : zLI (d + 1) tb_X13_hops 10 [some (vR 11 (some a0)), some (vI x1)] [vI v102] (I102, L102, (ra102, rb102, rc102, rd102), zK0 sl sx, c102) x M' (zK0 sl sx) from ⟨zR_call (rest := []) 6 q102.1 (fun n => rfl) w102.1, w102.2⟩
  rcases zit h with ⟨g1, h⟩ | ⟨g1, h⟩
  · obtain ⟨rfl, rfl⟩ := zrI h
    exact ⟨zR_ret 3 ((if_pos g1).trans rfl), rfl⟩
  · obtain ⟨v103, M103, f103, h⟩ := zBx h
    have q103 := L_Mo_hopsOf (d := d) f103 rfl
    obtain ⟨I103, L103, ⟨ra103, rb103, rc103, rd103⟩, K103, c103⟩ := M103
    obtain rfl : K103 = zK0 sl sx := q103.2
    suffices w103 : zLI (d + 1) tb_X13_hops 18 [some (vR 11 (some a0)), some (vI x1)] [vI v103] (I103, L103, (ra103, rb103, rc103, rd103), zK0 sl sx, c103) x M' (zK0 sl sx) from ⟨zR_call (rest := []) 4 q103.1 (fun n => (if_neg g1).trans rfl) w103.1, w103.2⟩
    obtain ⟨rfl, rfl⟩ := zrI h
    exact ⟨zR_ret 2 (rfl), rfl⟩
set_option maxRecDepth 20000 in
theorem L_Mo_windsOf_4 {N d sl : Nat} {sx : Nat → Int} : ∀ {n : Nat} {a0 : Nat} {x1 : Int} {x2 : Int} {x3 : Int} {M : ZM} {x : Int} {M' : ZM}, Mo_windsOf_4 N n a0 x1 x2 x3 M = some (x, M') → mK M = zK0 sl sx → zLI (d + 5) tb_X13_windsOf 4 [some (vR 11 (some a0)), some (vI x1), some (vI x2), some (vI x3)] [] M x M' (zK0 sl sx) := by
  intro n
  induction n with
  | zero => intros; rename_i h _; cases h
  | succ n ih =>
    intro a0 x1 x2 x3 M x M' h hK
    obtain ⟨I0, L0, ⟨ra0, rb0, rc0, rd0⟩, K0, c0⟩ := M
    obtain rfl : K0 = zK0 sl sx := hK
    rcases zit h with ⟨g1, h⟩ | ⟨g1, h⟩
    · obtain ⟨g2, h⟩ := zIx h
      rcases zit h with ⟨g3, h⟩ | ⟨g3, h⟩
      · obtain ⟨v101, M101, f101, h⟩ := zBx h
        have q101 := L_Mo_runs (d := (d + 3)) f101 rfl
        obtain ⟨I101, L101, ⟨ra101, rb101, rc101, rd101⟩, K101, c101⟩ := M101
        obtain rfl : K101 = zK0 sl sx := q101.2
        suffices w101 : zLI (d + 5) tb_X13_windsOf 30 [some (vR 11 (some a0)), some (vI x1), some (vI x2), some (vI x3)] [vI v101, vI x2] (I101, L101, (ra101, rb101, rc101, rd101), zK0 sl sx, c101) x M' (zK0 sl sx) from ⟨zR_call (rest := [vI x2]) 16 q101.1 (fun n => (if_pos g1).trans ((if_pos g2).trans ((if_pos g3).trans rfl))) w101.1, w101.2⟩
        rcases zit h with ⟨g4, h⟩ | ⟨g4, h⟩
        · replace h := zWx h
          replace h := zWx h
          have q := ih h rfl
          exact ⟨zR_go 6 q.1 (fun n => (if_pos g4).trans rfl), q.2⟩
        · obtain ⟨v104, M104, f104, h⟩ := zBx h
          have q104 := L_Mo_windOf (d := d) f104 rfl
          obtain ⟨I104, L104, ⟨ra104, rb104, rc104, rd104⟩, K104, c104⟩ := M104
          obtain rfl : K104 = zK0 sl sx := q104.2
          suffices w104 : zLI (d + 5) tb_X13_windsOf 38 [some (vR 11 (some a0)), some (vI x1), some (vI x2), some (vI x3)] [vI v104, vI x2] (I104, L104, (ra104, rb104, rc104, rd104), zK0 sl sx, c104) x M' (zK0 sl sx) from ⟨zR_call (rest := [vI x2]) 4 q104.1 (fun n => (if_neg g4).trans rfl) w104.1, w104.2⟩
          replace h := zWx h
          replace h := zWx h
          have q := ih h rfl
          exact ⟨zR_go 5 q.1 (fun n => rfl), q.2⟩
      · replace h := zWx h
        replace h := zWx h
        have q := ih h rfl
        exact ⟨zR_go 18 q.1 (fun n => (if_pos g1).trans ((if_pos g2).trans ((if_neg g3).trans rfl))), q.2⟩
    · obtain ⟨rfl, rfl⟩ := zrI h
      exact ⟨zR_ret 8 ((if_neg g1).trans rfl), rfl⟩
set_option maxRecDepth 20000 in
theorem L_Mo_windsOf {N d sl : Nat} {sx : Nat → Int} {a0 : Nat} {x1 : Int} {M : ZM} {x : Int} {M' : ZM} (h : Mo_windsOf N a0 x1 M = some (x, M')) (hK : mK M = zK0 sl sx) : zLI (d + 5) tb_X13_windsOf 0 [some (vR 11 (some a0)), some (vI x1), none, none] [] M x M' (zK0 sl sx) := by
  obtain ⟨I0, L0, ⟨ra0, rb0, rc0, rd0⟩, K0, c0⟩ := M
  obtain rfl : K0 = zK0 sl sx := hK
  have q := L_Mo_windsOf_4 (d := d) h rfl
  exact ⟨zR_go 4 q.1 (fun n => rfl), q.2⟩
set_option maxRecDepth 20000 in
theorem L_Mo_robbed {N d sl : Nat} {sx : Nat → Int} {a0 : Nat} {x1 : Int} {M : ZM} {x : Int} {M' : ZM} (h : Mo_robbed N a0 x1 M = some (x, M')) (hK : mK M = zK0 sl sx) : zLI (d + 6) tb_X13_robbed 0 [some (vR 11 (some a0)), some (vI x1), none, none, none] [] M x M' (zK0 sl sx) := by
  obtain ⟨I0, L0, ⟨ra0, rb0, rc0, rd0⟩, K0, c0⟩ := M
  obtain rfl : K0 = zK0 sl sx := hK
  replace h := zWx h
  obtain ⟨v102, M102, f102, h⟩ := zBx h
  have q102 := L_Mo_within (d := (d + 5)) f102 rfl
  obtain ⟨I102, L102, ⟨ra102, rb102, rc102, rd102⟩, K102, c102⟩ := M102
  obtain rfl : K102 = zK0 sl sx := q102.2
  suffices w102 : zLI (d + 6) tb_X13_robbed 11 [some (vR 11 (some a0)), some (vI x1), none, none, none] [vI v102] (I102, L102, (ra102, rb102, rc102, rd102), zK0 sl sx, c102) x M' (zK0 sl sx) from ⟨zR_call (rest := []) 7 q102.1 (fun n => rfl) w102.1, w102.2⟩
  rcases zit h with ⟨g1, h⟩ | ⟨g1, h⟩
  · obtain ⟨rfl, rfl⟩ := zrI h
    exact ⟨zR_ret 3 ((if_pos g1).trans rfl), rfl⟩
  · obtain ⟨M103, f103, h⟩ := zBvx h
    have q103 := L_Mo_looks (d := (d + 4)) f103 rfl
    obtain ⟨I103, L103, ⟨ra103, rb103, rc103, rd103⟩, K103, c103⟩ := M103
    obtain rfl : K103 = zK0 sl sx := q103.2
    suffices w103 : zLI (d + 6) tb_X13_robbed 20 [some (vR 11 (some a0)), some (vI x1), none, none, none] [] (I103, L103, (ra103, rb103, rc103, rd103), zK0 sl sx, c103) x M' (zK0 sl sx) from ⟨zR_call (rest := []) 3 q103.1 (fun n => (if_neg g1).trans rfl) w103.1, w103.2⟩
    obtain ⟨v104, M104, f104, h⟩ := zBx h
    have q104 := L_Mo_windsOf (d := d) f104 rfl
    obtain ⟨I104, L104, ⟨ra104, rb104, rc104, rd104⟩, K104, c104⟩ := M104
    obtain rfl : K104 = zK0 sl sx := q104.2
    suffices w104 : zLI (d + 6) tb_X13_robbed 25 [some (vR 11 (some a0)), some (vI x1), none, none, none] [vI v104] (I104, L104, (ra104, rb104, rc104, rd104), zK0 sl sx, c104) x M' (zK0 sl sx) from ⟨zR_call (rest := []) 3 q104.1 (fun n => rfl) w104.1, w104.2⟩
    replace h := zWx h
    obtain ⟨v106, M106, f106, h⟩ := zBx h
    have q106 := L_Mo_ownedBy (d := (d + 5)) f106 rfl
    obtain ⟨I106, L106, ⟨ra106, rb106, rc106, rd106⟩, K106, c106⟩ := M106
    obtain rfl : K106 = zK0 sl sx := q106.2
    suffices w106 : zLI (d + 6) tb_X13_robbed 47 [some (vR 11 (some a0)), some (vI x1), some (vI v104), some (vI (mI (I104, L104, (ra104, rb104, rc104, rd104), zK0 sl sx, c104) 81 a0 2)), none] [vI v106, vI (mI (I104, L104, (ra104, rb104, rc104, rd104), zK0 sl sx, c104) 81 a0 2), vI 2, vR 81 (some a0)] (I106, L106, (ra106, rb106, rc106, rd106), zK0 sl sx, c106) x M' (zK0 sl sx) from ⟨zR_call (rest := [vI (mI (I104, L104, (ra104, rb104, rc104, rd104), zK0 sl sx, c104) 81 a0 2), vI 2, vR 81 (some a0)]) 16 q106.1 (fun n => rfl) w106.1, w106.2⟩
    replace h := zWx h
    obtain ⟨v108, M108, f108, h⟩ := zBx h
    have q108 := L_Mo_windsOf (d := d) f108 rfl
    obtain ⟨I108, L108, ⟨ra108, rb108, rc108, rd108⟩, K108, c108⟩ := M108
    obtain rfl : K108 = zK0 sl sx := q108.2
    suffices w108 : zLI (d + 6) tb_X13_robbed 54 [some (vR 11 (some a0)), some (vI x1), some (vI v104), some (vI (mI (I104, L104, (ra104, rb104, rc104, rd104), zK0 sl sx, c104) 81 a0 2)), none] [vI v108] (I108, L108, (ra108, rb108, rc108, rd108), zK0 sl sx, c108) x M' (zK0 sl sx) from ⟨zR_call (rest := []) 5 q108.1 (fun n => rfl) w108.1, w108.2⟩
    replace h := zWx h
    obtain ⟨rfl, rfl⟩ := zrI h
    exact ⟨zR_ret 10 (rfl), rfl⟩
set_option maxRecDepth 20000 in
theorem L_Mo_front_13 {N d sl : Nat} {sx : Nat → Int} : ∀ {n : Nat} {a0 : Nat} {x1 : Int} {x2 : Int} {M : ZM} {x : Int} {M' : ZM}, Mo_front_13 N n a0 x1 x2 M = some (x, M') → mK M = zK0 sl sx → zLI (d + 4) tb_X13_front 13 [some (vR 11 (some a0)), some (vI x1), some (vI x2)] [] M x M' (zK0 sl sx) := by
  intro n
  induction n with
  | zero => intros; rename_i h _; cases h
  | succ n ih =>
    intro a0 x1 x2 M x M' h hK
    obtain ⟨I0, L0, ⟨ra0, rb0, rc0, rd0⟩, K0, c0⟩ := M
    obtain rfl : K0 = zK0 sl sx := hK
    rcases zit h with ⟨g1, h⟩ | ⟨g1, h⟩
    · obtain ⟨v101, M101, f101, h⟩ := zBx h
      have q101 := L_Mo_takenOf (d := d) f101 rfl
      obtain ⟨I101, L101, ⟨ra101, rb101, rc101, rd101⟩, K101, c101⟩ := M101
      obtain rfl : K101 = zK0 sl sx := q101.2
      suffices w101 : zLI (d + 4) tb_X13_front 29 [some (vR 11 (some a0)), some (vI x1), some (vI x2)] [vI v101, vI x1] (I101, L101, (ra101, rb101, rc101, rd101), zK0 sl sx, c101) x M' (zK0 sl sx) from ⟨zR_call (rest := [vI x1]) 10 q101.1 (fun n => (if_pos g1).trans rfl) w101.1, w101.2⟩
      rcases zit h with ⟨g2, h⟩ | ⟨g2, h⟩
      · replace h := zWx h
        replace h := zWx h
        have q := ih h rfl
        exact ⟨zR_go 9 q.1 (fun n => (if_pos g2).trans rfl), q.2⟩
      · replace h := zWx h
        replace h := zWx h
        have q := ih h rfl
        exact ⟨zR_go 6 q.1 (fun n => (if_neg g2).trans rfl), q.2⟩
    · obtain ⟨rfl, rfl⟩ := zrI h
      exact ⟨zR_ret 8 ((if_neg g1).trans rfl), rfl⟩
set_option maxRecDepth 20000 in
theorem L_Mo_front {N d sl : Nat} {sx : Nat → Int} {a0 : Nat} {M : ZM} {x : Int} {M' : ZM} (h : Mo_front N a0 M = some (x, M')) (hK : mK M = zK0 sl sx) : zLI (d + 4) tb_X13_front 0 [some (vR 11 (some a0)), none, none] [] M x M' (zK0 sl sx) := by
  obtain ⟨I0, L0, ⟨ra0, rb0, rc0, rd0⟩, K0, c0⟩ := M
  obtain rfl : K0 = zK0 sl sx := hK
  replace h := zWx h
  obtain ⟨M102, f102, h⟩ := zBvx h
  have q102 := L_Mo_looks (d := (d + 2)) f102 rfl
  obtain ⟨I102, L102, ⟨ra102, rb102, rc102, rd102⟩, K102, c102⟩ := M102
  obtain rfl : K102 = zK0 sl sx := q102.2
  suffices w102 : zLI (d + 4) tb_X13_front 9 [some (vR 11 (some a0)), none, none] [] (I102, L102, (ra102, rb102, rc102, rd102), zK0 sl sx, c102) x M' (zK0 sl sx) from ⟨zR_call (rest := []) 5 q102.1 (fun n => rfl) w102.1, w102.2⟩
  have q := L_Mo_front_13 (d := d) h rfl
  exact ⟨zR_go 4 q.1 (fun n => rfl), q.2⟩
set_option maxRecDepth 20000 in
theorem L_Mo_shade_23 {N d sl : Nat} {sx : Nat → Int} : ∀ {n : Nat} {a0 : Nat} {x1 : Int} {x2 : Int} {x3 : Int} {M : ZM} {x : Int} {M' : ZM}, Mo_shade_23 N n a0 x1 x2 x3 M = some (x, M') → mK M = zK0 sl sx → zLI (d + 3) tb_X13_shade 23 [some (vR 11 (some a0)), some (vI x1), some (vI x2), some (vI x3)] [] M x M' (zK0 sl sx) := by
  intro n
  induction n with
  | zero => intros; rename_i h _; cases h
  | succ n ih =>
    intro a0 x1 x2 x3 M x M' h hK
    obtain ⟨I0, L0, ⟨ra0, rb0, rc0, rd0⟩, K0, c0⟩ := M
    obtain rfl : K0 = zK0 sl sx := hK
    rcases zit h with ⟨g1, h⟩ | ⟨g1, h⟩
    · obtain ⟨v101, M101, f101, h⟩ := zBx h
      have q101 := L_Mo_takesOf (d := d) f101 rfl
      obtain ⟨I101, L101, ⟨ra101, rb101, rc101, rd101⟩, K101, c101⟩ := M101
      obtain rfl : K101 = zK0 sl sx := q101.2
      suffices w101 : zLI (d + 3) tb_X13_shade 40 [some (vR 11 (some a0)), some (vI x1), some (vI x2), some (vI x3)] [vI v101, vI x2] (I101, L101, (ra101, rb101, rc101, rd101), zK0 sl sx, c101) x M' (zK0 sl sx) from ⟨zR_call (rest := [vI x2]) 11 q101.1 (fun n => (if_pos g1).trans rfl) w101.1, w101.2⟩
      rcases zit h with ⟨g2, h⟩ | ⟨g2, h⟩
      · replace h := zWx h
        replace h := zWx h
        have q := ih h rfl
        exact ⟨zR_go 9 q.1 (fun n => (if_pos g2).trans rfl), q.2⟩
      · replace h := zWx h
        replace h := zWx h
        have q := ih h rfl
        exact ⟨zR_go 6 q.1 (fun n => (if_neg g2).trans rfl), q.2⟩
    · obtain ⟨rfl, rfl⟩ := zrI h
      exact ⟨zR_ret 8 ((if_neg g1).trans rfl), rfl⟩
set_option maxRecDepth 20000 in
theorem L_Mo_shade {N d sl : Nat} {sx : Nat → Int} {a0 : Nat} {x1 : Int} {M : ZM} {x : Int} {M' : ZM} (h : Mo_shade N a0 x1 M = some (x, M')) (hK : mK M = zK0 sl sx) : zLI (d + 3) tb_X13_shade 0 [some (vR 11 (some a0)), some (vI x1), none, none] [] M x M' (zK0 sl sx) := by
  obtain ⟨I0, L0, ⟨ra0, rb0, rc0, rd0⟩, K0, c0⟩ := M
  obtain rfl : K0 = zK0 sl sx := hK
  replace h := zWx h
  obtain ⟨v102, M102, f102, h⟩ := zBx h
  have q102 := L_Mo_isTurbine (d := (d + 2)) f102 rfl
  obtain ⟨I102, L102, ⟨ra102, rb102, rc102, rd102⟩, K102, c102⟩ := M102
  obtain rfl : K102 = zK0 sl sx := q102.2
  suffices w102 : zLI (d + 3) tb_X13_shade 10 [some (vR 11 (some a0)), some (vI x1), none, none] [vI v102] (I102, L102, (ra102, rb102, rc102, rd102), zK0 sl sx, c102) x M' (zK0 sl sx) from ⟨zR_call (rest := []) 6 q102.1 (fun n => rfl) w102.1, w102.2⟩
  rcases zit h with ⟨g1, h⟩ | ⟨g1, h⟩
  · obtain ⟨rfl, rfl⟩ := zrI h
    exact ⟨zR_ret 3 ((if_pos g1).trans rfl), rfl⟩
  · obtain ⟨M103, f103, h⟩ := zBvx h
    have q103 := L_Mo_looks (d := (d + 1)) f103 rfl
    obtain ⟨I103, L103, ⟨ra103, rb103, rc103, rd103⟩, K103, c103⟩ := M103
    obtain rfl : K103 = zK0 sl sx := q103.2
    suffices w103 : zLI (d + 3) tb_X13_shade 19 [some (vR 11 (some a0)), some (vI x1), none, none] [] (I103, L103, (ra103, rb103, rc103, rd103), zK0 sl sx, c103) x M' (zK0 sl sx) from ⟨zR_call (rest := []) 3 q103.1 (fun n => (if_neg g1).trans rfl) w103.1, w103.2⟩
    have q := L_Mo_shade_23 (d := d) h rfl
    exact ⟨zR_go 4 q.1 (fun n => rfl), q.2⟩
set_option maxRecDepth 20000 in
theorem L_Mo_laysWinds_67 {N d sl : Nat} {sx : Nat → Int} {rec4 : Nat → Int → Int → ZM → Option (Int × ZM)} (hrec4 : ∀ {a0 : Nat} {x1 : Int} {x2 : Int} {M : ZM} {x : Int} {M' : ZM}, rec4 a0 x1 x2 M = some (x, M') → mK M = zK0 sl sx → zLI (d + 6) tb_X13_laysWinds 4 [some (vR 11 (some a0)), some (vI x1), some (vI x2), none] [] M x M' (zK0 sl sx)) : ∀ {n : Nat} {a0 : Nat} {x1 : Int} {x2 : Int} {x3 : Int} {M : ZM} {x : Int} {M' : ZM}, Mo_laysWinds_67 N rec4 n a0 x1 x2 x3 M = some (x, M') → mK M = zK0 sl sx → zLI (d + 6) tb_X13_laysWinds 67 [some (vR 11 (some a0)), some (vI x1), some (vI x2), some (vI x3)] [] M x M' (zK0 sl sx) := by
  intro n
  induction n with
  | zero => intros; rename_i h _; cases h
  | succ n ih =>
    intro a0 x1 x2 x3 M x M' h hK
    obtain ⟨I0, L0, ⟨ra0, rb0, rc0, rd0⟩, K0, c0⟩ := M
    obtain rfl : K0 = zK0 sl sx := hK
    rcases zit h with ⟨g1, h⟩ | ⟨g1, h⟩
    · obtain ⟨g2, h⟩ := zIx h
      rcases zit h with ⟨g3, h⟩ | ⟨g3, h⟩
      · obtain ⟨g4, h⟩ := zIx h
        replace h := zWx h
        replace h := zWx h
        have q := ih h rfl
        exact ⟨zR_go 18 q.1 (fun n => (if_pos g1).trans ((if_pos g2).trans ((if_pos g3).trans ((if_pos g4).trans rfl)))), q.2⟩
      · obtain ⟨g5, h⟩ := zIx h
        obtain ⟨g6, h⟩ := zIx h
        obtain ⟨g7, h⟩ := zIx h
        rcases zit h with ⟨g8, h⟩ | ⟨g8, h⟩
        · obtain ⟨g9, h⟩ := zIx h
          replace h := zWx h
          replace h := zWx h
          have q := ih h rfl
          exact ⟨zR_go 35 q.1 (fun n => (if_pos g1).trans ((if_pos g2).trans ((if_neg g3).trans ((if_pos g5).trans ((if_pos g6).trans ((if_pos g7).trans ((if_pos g8).trans ((if_pos g9).trans rfl)))))))), q.2⟩
        · obtain ⟨g10, h⟩ := zIx h
          replace h := zWx h
          replace h := zWx h
          have q := ih h rfl
          exact ⟨zR_go 34 q.1 (fun n => (if_pos g1).trans ((if_pos g2).trans ((if_neg g3).trans ((if_pos g5).trans ((if_pos g6).trans ((if_pos g7).trans ((if_neg g8).trans ((if_pos g10).trans rfl)))))))), q.2⟩
    · obtain ⟨g11, h⟩ := zIx h
      rcases zit h with ⟨g12, h⟩ | ⟨g12, h⟩
      · replace h := zWx h
        replace h := zWx h
        have q := hrec4 h rfl
        exact ⟨zR_go 17 (zR_up (ls' := [some (vR 11 (some a0)), some (vI (z32 (x1 + 0))), some (vI (z32 (x2 + 1))), some (vI x3)]) q.1 ⟨.inr rfl, .inr rfl, .inr rfl, .inl rfl, trivial⟩) (fun n => (if_neg g1).trans ((if_pos g11).trans ((if_pos g12).trans rfl))), q.2⟩
      · replace h := zWx h
        replace h := zWx h
        have q := hrec4 h rfl
        exact ⟨zR_go 18 (zR_up (ls' := [some (vR 11 (some a0)), some (vI (z32 (x1 + 1))), some (vI (z32 (x2 + 1))), some (vI x3)]) q.1 ⟨.inr rfl, .inr rfl, .inr rfl, .inl rfl, trivial⟩) (fun n => (if_neg g1).trans ((if_pos g11).trans ((if_neg g12).trans rfl))), q.2⟩
set_option maxRecDepth 20000 in
theorem L_Mo_laysWinds_33 {N d sl : Nat} {sx : Nat → Int} {rec4 : Nat → Int → Int → ZM → Option (Int × ZM)} (hrec4 : ∀ {a0 : Nat} {x1 : Int} {x2 : Int} {M : ZM} {x : Int} {M' : ZM}, rec4 a0 x1 x2 M = some (x, M') → mK M = zK0 sl sx → zLI (d + 6) tb_X13_laysWinds 4 [some (vR 11 (some a0)), some (vI x1), some (vI x2), none] [] M x M' (zK0 sl sx)) : ∀ {n : Nat} {a0 : Nat} {x1 : Int} {x2 : Int} {x3 : Int} {M : ZM} {x : Int} {M' : ZM}, Mo_laysWinds_33 N rec4 n a0 x1 x2 x3 M = some (x, M') → mK M = zK0 sl sx → zLI (d + 6) tb_X13_laysWinds 33 [some (vR 11 (some a0)), some (vI x1), some (vI x2), some (vI x3)] [] M x M' (zK0 sl sx) := by
  intro n
  induction n with
  | zero => intros; rename_i h _; cases h
  | succ n ih =>
    intro a0 x1 x2 x3 M x M' h hK
    obtain ⟨I0, L0, ⟨ra0, rb0, rc0, rd0⟩, K0, c0⟩ := M
    obtain rfl : K0 = zK0 sl sx := hK
    rcases zit h with ⟨g1, h⟩ | ⟨g1, h⟩
    · obtain ⟨v101, M101, f101, h⟩ := zBx h
      have q101 := L_Mo_powerOf (d := d) f101 rfl
      obtain ⟨I101, L101, ⟨ra101, rb101, rc101, rd101⟩, K101, c101⟩ := M101
      obtain rfl : K101 = zK0 sl sx := q101.2
      suffices w101 : zLI (d + 6) tb_X13_laysWinds 58 [some (vR 11 (some a0)), some (vI x1), some (vI x2), some (vI x3)] [vI v101, vI (z32 ((z32 (6 * x2)) + x3)), vR 89 (some a0)] (I101, L101, (ra101, rb101, rc101, rd101), zK0 sl sx, c101) x M' (zK0 sl sx) from ⟨zR_call (rest := [vI (z32 ((z32 (6 * x2)) + x3)), vR 89 (some a0)]) 16 q101.1 (fun n => (if_pos g1).trans rfl) w101.1, w101.2⟩
      obtain ⟨g2, h⟩ := zIx h
      replace h := zWx h
      replace h := zWx h
      have q := ih h rfl
      exact ⟨zR_go 3 q.1 (fun n => (if_pos g2).trans rfl), q.2⟩
    · have q := L_Mo_laysWinds_67 (d := d) hrec4 h rfl
      exact ⟨zR_go 8 q.1 (fun n => (if_neg g1).trans rfl), q.2⟩
set_option maxRecDepth 20000 in
theorem L_Mo_laysWinds_4 {N d sl : Nat} {sx : Nat → Int} : ∀ {n : Nat} {a0 : Nat} {x1 : Int} {x2 : Int} {M : ZM} {x : Int} {M' : ZM}, Mo_laysWinds_4 N n a0 x1 x2 M = some (x, M') → mK M = zK0 sl sx → zLI (d + 6) tb_X13_laysWinds 4 [some (vR 11 (some a0)), some (vI x1), some (vI x2), none] [] M x M' (zK0 sl sx) := by
  intro n
  induction n with
  | zero => intros; rename_i h _; cases h
  | succ n ih =>
    intro a0 x1 x2 M x M' h hK
    obtain ⟨I0, L0, ⟨ra0, rb0, rc0, rd0⟩, K0, c0⟩ := M
    obtain rfl : K0 = zK0 sl sx := hK
    rcases zit h with ⟨g1, h⟩ | ⟨g1, h⟩
    · replace h := zWx h
      replace h := zWx h
      obtain ⟨g2, h⟩ := zIx h
      replace h := zWx h
      have q := L_Mo_laysWinds_33 (d := d) ih h rfl
      exact ⟨zR_go 20 q.1 (fun n => (if_pos g1).trans ((if_pos g2).trans rfl)), q.2⟩
    · obtain ⟨rfl, rfl⟩ := zrI h
      exact ⟨zR_ret 5 ((if_neg g1).trans rfl), rfl⟩
set_option maxRecDepth 20000 in
theorem L_Mo_laysWinds {N d sl : Nat} {sx : Nat → Int} {a0 : Nat} {M : ZM} {x : Int} {M' : ZM} (h : Mo_laysWinds N a0 M = some (x, M')) (hK : mK M = zK0 sl sx) : zLI (d + 6) tb_X13_laysWinds 0 [some (vR 11 (some a0)), none, none, none] [] M x M' (zK0 sl sx) := by
  obtain ⟨I0, L0, ⟨ra0, rb0, rc0, rd0⟩, K0, c0⟩ := M
  obtain rfl : K0 = zK0 sl sx := hK
  have q := L_Mo_laysWinds_4 (d := d) h rfl
  exact ⟨zR_go 4 q.1 (fun n => rfl), q.2⟩
set_option maxRecDepth 20000 in
theorem L_Mo_see {N d sl : Nat} {sx : Nat → Int} {a0 : Nat} {x1 : Int} {x2 : Int} {M : ZM} {x : Int} {M' : ZM} (h : Mo_see N a0 x1 x2 M = some (x, M')) (hK : mK M = zK0 sl sx) : zLI (d + 1) tb_X13_see 0 [some (vR 11 (some a0)), some (vI x1), some (vI x2)] [] M x M' (zK0 sl sx) := by
  obtain ⟨I0, L0, ⟨ra0, rb0, rc0, rd0⟩, K0, c0⟩ := M
  obtain rfl : K0 = zK0 sl sx := hK
  replace h := zWx h
  obtain ⟨v102, M102, f102, h⟩ := zBx h
  have q102 := L_Mo_isTurbine (d := d) f102 rfl
  obtain ⟨I102, L102, ⟨ra102, rb102, rc102, rd102⟩, K102, c102⟩ := M102
  obtain rfl : K102 = zK0 sl sx := q102.2
  suffices w102 : zLI (d + 1) tb_X13_see 10 [some (vR 11 (some a0)), some (vI x1), some (vI x2)] [vI v102] (I102, L102, (ra102, rb102, rc102, rd102), zK0 sl sx, c102) x M' (zK0 sl sx) from ⟨zR_call (rest := []) 6 q102.1 (fun n => rfl) w102.1, w102.2⟩
  rcases zit h with ⟨g1, h⟩ | ⟨g1, h⟩
  · obtain ⟨rfl, rfl⟩ := zrI h
    exact ⟨zR_ret 3 ((if_pos g1).trans rfl), rfl⟩
  · obtain ⟨v103, M103, f103, h⟩ := zBx h
    have q103 := L_Mo_within (d := d) f103 rfl
    obtain ⟨I103, L103, ⟨ra103, rb103, rc103, rd103⟩, K103, c103⟩ := M103
    obtain rfl : K103 = zK0 sl sx := q103.2
    suffices w103 : zLI (d + 1) tb_X13_see 20 [some (vR 11 (some a0)), some (vI x1), some (vI x2)] [vI v103] (I103, L103, (ra103, rb103, rc103, rd103), zK0 sl sx, c103) x M' (zK0 sl sx) from ⟨zR_call (rest := []) 5 q103.1 (fun n => (if_neg g1).trans rfl) w103.1, w103.2⟩
    rcases zit h with ⟨g2, h⟩ | ⟨g2, h⟩
    · obtain ⟨rfl, rfl⟩ := zrI h
      exact ⟨zR_ret 3 ((if_pos g2).trans rfl), rfl⟩
    · rcases zit h with ⟨g3, h⟩ | ⟨g3, h⟩
      · obtain ⟨rfl, rfl⟩ := zrI h
        exact ⟨zR_ret 9 ((if_neg g2).trans ((if_pos g3).trans rfl)), rfl⟩
      · obtain ⟨g4, h⟩ := zIx h
        replace h := zWx h
        obtain ⟨g5, h⟩ := zIx h
        replace h := zWx h
        replace h := zWx h
        obtain ⟨rfl, rfl⟩ := zrI h
        exact ⟨zR_ret 33 ((if_neg g2).trans ((if_neg g3).trans ((if_pos g4).trans ((if_pos g5).trans rfl)))), rfl⟩
set_option maxRecDepth 20000 in
theorem L_Mo_winds_61 {N d sl : Nat} {sx : Nat → Int} {rec32 : Nat → Int → Int → Int → Int → Int → Int → ZM → Option (Int × ZM)} (hrec32 : ∀ {a0 : Nat} {x1 : Int} {x2 : Int} {x3 : Int} {x4 : Int} {x5 : Int} {x6 : Int} {M : ZM} {x : Int} {M' : ZM}, rec32 a0 x1 x2 x3 x4 x5 x6 M = some (x, M') → mK M = zK0 sl sx → zLI (d + 7) tb_X13_winds 32 [some (vR 11 (some a0)), some (vI x1), some (vI x2), some (vI x3), some (vI x4), some (vI x5), some (vI x6)] [] M x M' (zK0 sl sx)) {a0 : Nat} {x1 : Int} {x2 : Int} {x3 : Int} {x5 : Int} {x6 : Int} {M : ZM} {x : Int} {M' : ZM} (h : Mo_winds_61 N rec32 a0 x1 x2 x3 x5 x6 M = some (x, M')) (hK : mK M = zK0 sl sx) : zLI (d + 7) tb_X13_winds 61 [some (vR 11 (some a0)), some (vI x1), some (vI x2), some (vI x3), none, some (vI x5), some (vI x6)] [] M x M' (zK0 sl sx) := by
  obtain ⟨I0, L0, ⟨ra0, rb0, rc0, rd0⟩, K0, c0⟩ := M
  obtain rfl : K0 = zK0 sl sx := hK
  replace h := zWx h
  replace h := zWx h
  replace h := zWx h
  have q := hrec32 h rfl
  exact ⟨zR_go 14 q.1 (fun n => rfl), q.2⟩
set_option maxRecDepth 20000 in
theorem L_Mo_winds_32 {N d sl : Nat} {sx : Nat → Int} : ∀ {n : Nat} {a0 : Nat} {x1 : Int} {x2 : Int} {x3 : Int} {x4 : Int} {x5 : Int} {x6 : Int} {M : ZM} {x : Int} {M' : ZM}, Mo_winds_32 N n a0 x1 x2 x3 x4 x5 x6 M = some (x, M') → mK M = zK0 sl sx → zLI (d + 7) tb_X13_winds 32 [some (vR 11 (some a0)), some (vI x1), some (vI x2), some (vI x3), some (vI x4), some (vI x5), some (vI x6)] [] M x M' (zK0 sl sx) := by
  intro n
  induction n with
  | zero => intros; rename_i h _; cases h
  | succ n ih =>
    intro a0 x1 x2 x3 x4 x5 x6 M x M' h hK
    obtain ⟨I0, L0, ⟨ra0, rb0, rc0, rd0⟩, K0, c0⟩ := M
    obtain rfl : K0 = zK0 sl sx := hK
    rcases zit h with ⟨g1, h⟩ | ⟨g1, h⟩
    · obtain ⟨g2, h⟩ := zIx h
      rcases zit h with ⟨g3, h⟩ | ⟨g3, h⟩
      · replace h := zWx h
        have q := ih h rfl
        exact ⟨zR_go 11 q.1 (fun n => (if_pos g1).trans ((if_pos g2).trans ((if_pos g3).trans rfl))), q.2⟩
      · rcases zit h with ⟨g4, h⟩ | ⟨g4, h⟩
        · replace h := zWx h
          have q := L_Mo_winds_61 (d := d) ih h rfl
          exact ⟨zR_go 14 (zR_up (ls' := [some (vR 11 (some a0)), some (vI x1), some (vI x2), some (vI (z32 (x6.tdiv 4))), some (vI x4), some (vI x5), some (vI x6)]) q.1 ⟨.inr rfl, .inr rfl, .inr rfl, .inr rfl, .inl rfl, .inr rfl, .inr rfl, trivial⟩) (fun n => (if_pos g1).trans ((if_pos g2).trans ((if_neg g3).trans ((if_pos g4).trans rfl)))), q.2⟩
        · have q := L_Mo_winds_61 (d := d) ih h rfl
          exact ⟨zR_go 10 (zR_up (ls' := [some (vR 11 (some a0)), some (vI x1), some (vI x2), some (vI x3), some (vI x4), some (vI x5), some (vI x6)]) q.1 ⟨.inr rfl, .inr rfl, .inr rfl, .inr rfl, .inl rfl, .inr rfl, .inr rfl, trivial⟩) (fun n => (if_pos g1).trans ((if_pos g2).trans ((if_neg g3).trans ((if_neg g4).trans rfl)))), q.2⟩
    · rcases zit h with ⟨g5, h⟩ | ⟨g5, h⟩
      · obtain ⟨rfl, rfl⟩ := zrI h
        exact ⟨zR_ret 8 ((if_neg g1).trans ((if_pos g5).trans rfl)), rfl⟩
      · rcases zit h with ⟨g6, h⟩ | ⟨g6, h⟩
        · obtain ⟨rfl, rfl⟩ := zrI h
          exact ⟨zR_ret 11 ((if_neg g1).trans ((if_neg g5).trans ((if_pos g6).trans rfl))), rfl⟩
        · rcases zit h with ⟨g7, h⟩ | ⟨g7, h⟩
          · obtain ⟨rfl, rfl⟩ := zrI h
            exact ⟨zR_ret 14 ((if_neg g1).trans ((if_neg g5).trans ((if_neg g6).trans ((if_pos g7).trans rfl)))), rfl⟩
          · obtain ⟨rfl, rfl⟩ := zrI h
            exact ⟨zR_ret 13 ((if_neg g1).trans ((if_neg g5).trans ((if_neg g6).trans ((if_neg g7).trans rfl)))), rfl⟩
set_option maxRecDepth 20000 in
theorem L_Mo_winds {N d sl : Nat} {sx : Nat → Int} {a0 : Nat} {x1 : Int} {M : ZM} {x : Int} {M' : ZM} (h : Mo_winds N a0 x1 M = some (x, M')) (hK : mK M = zK0 sl sx) : zLI (d + 7) tb_X13_winds 0 [some (vR 11 (some a0)), some (vI x1), none, none, none, none, none] [] M x M' (zK0 sl sx) := by
  obtain ⟨I0, L0, ⟨ra0, rb0, rc0, rd0⟩, K0, c0⟩ := M
  obtain rfl : K0 = zK0 sl sx := hK
  replace h := zWx h
  obtain ⟨v102, M102, f102, h⟩ := zBx h
  have q102 := L_Mo_within (d := (d + 6)) f102 rfl
  obtain ⟨I102, L102, ⟨ra102, rb102, rc102, rd102⟩, K102, c102⟩ := M102
  obtain rfl : K102 = zK0 sl sx := q102.2
  suffices w102 : zLI (d + 7) tb_X13_winds 11 [some (vR 11 (some a0)), some (vI x1), none, none, none, none, none] [vI v102] (I102, L102, (ra102, rb102, rc102, rd102), zK0 sl sx, c102) x M' (zK0 sl sx) from ⟨zR_call (rest := []) 7 q102.1 (fun n => rfl) w102.1, w102.2⟩
  rcases zit h with ⟨g1, h⟩ | ⟨g1, h⟩
  · obtain ⟨rfl, rfl⟩ := zrI h
    exact ⟨zR_ret 3 ((if_pos g1).trans rfl), rfl⟩
  · obtain ⟨v103, M103, f103, h⟩ := zBx h
    have q103 := L_Mo_laysWinds (d := d) f103 rfl
    obtain ⟨I103, L103, ⟨ra103, rb103, rc103, rd103⟩, K103, c103⟩ := M103
    obtain rfl : K103 = zK0 sl sx := q103.2
    suffices w103 : zLI (d + 7) tb_X13_winds 20 [some (vR 11 (some a0)), some (vI x1), none, none, none, none, none] [vI v103] (I103, L103, (ra103, rb103, rc103, rd103), zK0 sl sx, c103) x M' (zK0 sl sx) from ⟨zR_call (rest := []) 3 q103.1 (fun n => (if_neg g1).trans rfl) w103.1, w103.2⟩
    have q := L_Mo_winds_32 (d := d) h rfl
    exact ⟨zR_go 9 q.1 (fun n => rfl), q.2⟩
set_option maxRecDepth 20000 in
theorem L_Mo_ask_54 {N d sl : Nat} {sx : Nat → Int} {rec14 : Nat → Int → Int → Int → ZM → Option (Int × ZM)} (hrec14 : ∀ {a0 : Nat} {x1 : Int} {x2 : Int} {x3 : Int} {M : ZM} {x : Int} {M' : ZM}, rec14 a0 x1 x2 x3 M = some (x, M') → mK M = zK0 sl sx → zLI (d + 7) tb_X13_ask 14 [some (vR 11 (some a0)), some (vI x1), some (vI x2), some (vI x3), none, none] [] M x M' (zK0 sl sx)) : ∀ {n : Nat} {a0 : Nat} {x1 : Int} {x2 : Int} {x3 : Int} {x4 : Int} {x5 : Int} {M : ZM} {x : Int} {M' : ZM}, Mo_ask_54 N rec14 n a0 x1 x2 x3 x4 x5 M = some (x, M') → mK M = zK0 sl sx → zLI (d + 7) tb_X13_ask 54 [some (vR 11 (some a0)), some (vI x1), some (vI x2), some (vI x3), some (vI x4), some (vI x5)] [] M x M' (zK0 sl sx) := by
  intro n
  induction n with
  | zero => intros; rename_i h _; cases h
  | succ n ih =>
    intro a0 x1 x2 x3 x4 x5 M x M' h hK
    obtain ⟨I0, L0, ⟨ra0, rb0, rc0, rd0⟩, K0, c0⟩ := M
    obtain rfl : K0 = zK0 sl sx := hK
    rcases zit h with ⟨g1, h⟩ | ⟨g1, h⟩
    · obtain ⟨g2, h⟩ := zIx h
      rcases zit h with ⟨g3, h⟩ | ⟨g3, h⟩
      · replace h := zWx h
        have q := ih h rfl
        exact ⟨zR_go 11 q.1 (fun n => (if_pos g1).trans ((if_pos g2).trans ((if_pos g3).trans rfl))), q.2⟩
      · obtain ⟨g4, h⟩ := zIx h
        obtain ⟨g5, h⟩ := zIx h
        obtain ⟨g6, h⟩ := zIx h
        replace h := zWx h
        obtain ⟨g7, h⟩ := zIx h
        obtain ⟨g8, h⟩ := zIx h
        replace h := zWx h
        replace h := zWx h
        have q := ih h rfl
        exact ⟨zR_go 39 q.1 (fun n => (if_pos g1).trans ((if_pos g2).trans ((if_neg g3).trans ((if_pos g4).trans ((if_pos g5).trans ((if_pos g6).trans ((if_pos g7).trans ((if_pos g8).trans rfl)))))))), q.2⟩
    · rcases zit h with ⟨g9, h⟩ | ⟨g9, h⟩
      · replace h := zWx h
        have q := hrec14 h rfl
        exact ⟨zR_go 12 (zR_up (ls' := [some (vR 11 (some a0)), some (vI x4), some (vI x3), some (vI (z32 (x3 + 1))), some (vI x4), some (vI x5)]) q.1 ⟨.inr rfl, .inr rfl, .inr rfl, .inr rfl, .inl rfl, .inl rfl, trivial⟩) (fun n => (if_neg g1).trans ((if_pos g9).trans rfl)), q.2⟩
      · replace h := zWx h
        have q := hrec14 h rfl
        exact ⟨zR_go 9 (zR_up (ls' := [some (vR 11 (some a0)), some (vI x1), some (vI x2), some (vI (z32 (x3 + 1))), some (vI x4), some (vI x5)]) q.1 ⟨.inr rfl, .inr rfl, .inr rfl, .inr rfl, .inl rfl, .inl rfl, trivial⟩) (fun n => (if_neg g1).trans ((if_neg g9).trans rfl)), q.2⟩
set_option maxRecDepth 20000 in
theorem L_Mo_ask_30 {N d sl : Nat} {sx : Nat → Int} {rec14 : Nat → Int → Int → Int → ZM → Option (Int × ZM)} (hrec14 : ∀ {a0 : Nat} {x1 : Int} {x2 : Int} {x3 : Int} {M : ZM} {x : Int} {M' : ZM}, rec14 a0 x1 x2 x3 M = some (x, M') → mK M = zK0 sl sx → zLI (d + 7) tb_X13_ask 14 [some (vR 11 (some a0)), some (vI x1), some (vI x2), some (vI x3), none, none] [] M x M' (zK0 sl sx)) : ∀ {n : Nat} {a0 : Nat} {x1 : Int} {x2 : Int} {x3 : Int} {x4 : Int} {x5 : Int} {M : ZM} {x : Int} {M' : ZM}, Mo_ask_30 N rec14 n a0 x1 x2 x3 x4 x5 M = some (x, M') → mK M = zK0 sl sx → zLI (d + 7) tb_X13_ask 30 [some (vR 11 (some a0)), some (vI x1), some (vI x2), some (vI x3), some (vI x4), some (vI x5)] [] M x M' (zK0 sl sx) := by
  intro n
  induction n with
  | zero => intros; rename_i h _; cases h
  | succ n ih =>
    intro a0 x1 x2 x3 x4 x5 M x M' h hK
    obtain ⟨I0, L0, ⟨ra0, rb0, rc0, rd0⟩, K0, c0⟩ := M
    obtain rfl : K0 = zK0 sl sx := hK
    rcases zit h with ⟨g1, h⟩ | ⟨g1, h⟩
    · obtain ⟨g2, h⟩ := zIx h
      replace h := zWx h
      replace h := zWx h
      have q := ih h rfl
      exact ⟨zR_go 10 q.1 (fun n => (if_pos g1).trans ((if_pos g2).trans rfl)), q.2⟩
    · have q := L_Mo_ask_54 (d := d) hrec14 h rfl
      exact ⟨zR_go 5 q.1 (fun n => (if_neg g1).trans rfl), q.2⟩
set_option maxRecDepth 20000 in
theorem L_Mo_ask_14 {N d sl : Nat} {sx : Nat → Int} : ∀ {n : Nat} {a0 : Nat} {x1 : Int} {x2 : Int} {x3 : Int} {M : ZM} {x : Int} {M' : ZM}, Mo_ask_14 N n a0 x1 x2 x3 M = some (x, M') → mK M = zK0 sl sx → zLI (d + 7) tb_X13_ask 14 [some (vR 11 (some a0)), some (vI x1), some (vI x2), some (vI x3), none, none] [] M x M' (zK0 sl sx) := by
  intro n
  induction n with
  | zero => intros; rename_i h _; cases h
  | succ n ih =>
    intro a0 x1 x2 x3 M x M' h hK
    obtain ⟨I0, L0, ⟨ra0, rb0, rc0, rd0⟩, K0, c0⟩ := M
    obtain rfl : K0 = zK0 sl sx := hK
    rcases zit h with ⟨g1, h⟩ | ⟨g1, h⟩
    · have q := L_Mo_ask_30 (d := d) ih h rfl
      exact ⟨zR_go 10 q.1 (fun n => (if_pos g1).trans rfl), q.2⟩
    · obtain ⟨rfl, rfl⟩ := zrI h
      exact ⟨zR_ret 8 ((if_neg g1).trans rfl), rfl⟩
set_option maxRecDepth 20000 in
theorem L_Mo_ask {N d sl : Nat} {sx : Nat → Int} {a0 : Nat} {M : ZM} {x : Int} {M' : ZM} (h : Mo_ask N a0 M = some (x, M')) (hK : mK M = zK0 sl sx) : zLI (d + 7) tb_X13_ask 0 [some (vR 11 (some a0)), none, none, none, none, none] [] M x M' (zK0 sl sx) := by
  obtain ⟨I0, L0, ⟨ra0, rb0, rc0, rd0⟩, K0, c0⟩ := M
  obtain rfl : K0 = zK0 sl sx := hK
  replace h := zWx h
  obtain ⟨v102, M102, f102, h⟩ := zBx h
  have q102 := L_Mo_laysWinds (d := d) f102 rfl
  obtain ⟨I102, L102, ⟨ra102, rb102, rc102, rd102⟩, K102, c102⟩ := M102
  obtain rfl : K102 = zK0 sl sx := q102.2
  suffices w102 : zLI (d + 7) tb_X13_ask 9 [some (vR 11 (some a0)), none, none, none, none, none] [vI v102] (I102, L102, (ra102, rb102, rc102, rd102), zK0 sl sx, c102) x M' (zK0 sl sx) from ⟨zR_call (rest := []) 5 q102.1 (fun n => rfl) w102.1, w102.2⟩
  have q := L_Mo_ask_14 (d := d) h rfl
  exact ⟨zR_go 5 q.1 (fun n => rfl), q.2⟩
set_option maxRecDepth 20000 in
theorem L_Mo_chance_83 {N d sl : Nat} {sx : Nat → Int} {rec51 : Nat → Int → Int → Int → Int → Int → Int → ZM → Option (Int × ZM)} (hrec51 : ∀ {a0 : Nat} {x1 : Int} {x2 : Int} {x3 : Int} {x4 : Int} {x5 : Int} {x6 : Int} {M : ZM} {x : Int} {M' : ZM}, rec51 a0 x1 x2 x3 x4 x5 x6 M = some (x, M') → mK M = zK0 sl sx → zLI (d + 6) tb_X13_chance 51 [some (vR 11 (some a0)), some (vI x1), some (vI x2), some (vI x3), some (vI x4), some (vI x5), some (vI x6)] [] M x M' (zK0 sl sx)) {a0 : Nat} {x1 : Int} {x2 : Int} {x3 : Int} {x4 : Int} {x5 : Int} {x6 : Int} {b0 : Nat} {y1 : Int} {M : ZM} {x : Int} {M' : ZM} (h : Mo_chance_83 N rec51 a0 x1 x2 x3 x4 x5 x6 b0 y1 M = some (x, M')) (hK : mK M = zK0 sl sx) : zLI (d + 6) tb_X13_chance 83 [some (vR 11 (some a0)), some (vI x1), some (vI x2), some (vI x3), some (vI x4), some (vI x5), some (vI x6)] [vI y1, vR 11 (some b0)] M x M' (zK0 sl sx) := by
  obtain ⟨I0, L0, ⟨ra0, rb0, rc0, rd0⟩, K0, c0⟩ := M
  obtain rfl : K0 = zK0 sl sx := hK
  replace h := zWx h
  obtain ⟨v102, M102, f102, h⟩ := zBx h
  have q102 := L_Mo_powerOf (d := d) f102 rfl
  obtain ⟨I102, L102, ⟨ra102, rb102, rc102, rd102⟩, K102, c102⟩ := M102
  obtain rfl : K102 = zK0 sl sx := q102.2
  suffices w102 : zLI (d + 6) tb_X13_chance 91 [some (vR 11 (some a0)), some (vI x1), some (vI x2), some (vI x3), some (vI x4), some (vI x5), some (vI x6)] [vI v102] (I102, L102, (ra102, rb102, rc102, rd102), zK0 sl sx, c102) x M' (zK0 sl sx) from ⟨zR_call (rest := []) 4 q102.1 (fun n => rfl) w102.1, w102.2⟩
  rcases zit h with ⟨g1, h⟩ | ⟨g1, h⟩
  · replace h := zWx h
    have q := hrec51 h rfl
    exact ⟨zR_go 4 q.1 (fun n => (if_pos g1).trans rfl), q.2⟩
  · rcases zit h with ⟨g2, h⟩ | ⟨g2, h⟩
    · replace h := zWx h
      replace h := zWx h
      have q := hrec51 h rfl
      exact ⟨zR_go 13 q.1 (fun n => (if_neg g1).trans ((if_pos g2).trans rfl)), q.2⟩
    · replace h := zWx h
      replace h := zWx h
      have q := hrec51 h rfl
      exact ⟨zR_go 14 q.1 (fun n => (if_neg g1).trans ((if_neg g2).trans rfl)), q.2⟩
set_option maxRecDepth 20000 in
theorem L_Mo_chance_51 {N d sl : Nat} {sx : Nat → Int} : ∀ {n : Nat} {a0 : Nat} {x1 : Int} {x2 : Int} {x3 : Int} {x4 : Int} {x5 : Int} {x6 : Int} {M : ZM} {x : Int} {M' : ZM}, Mo_chance_51 N n a0 x1 x2 x3 x4 x5 x6 M = some (x, M') → mK M = zK0 sl sx → zLI (d + 6) tb_X13_chance 51 [some (vR 11 (some a0)), some (vI x1), some (vI x2), some (vI x3), some (vI x4), some (vI x5), some (vI x6)] [] M x M' (zK0 sl sx) := by
  intro n
  induction n with
  | zero => intros; rename_i h _; cases h
  | succ n ih =>
    intro a0 x1 x2 x3 x4 x5 x6 M x M' h hK
    obtain ⟨I0, L0, ⟨ra0, rb0, rc0, rd0⟩, K0, c0⟩ := M
    obtain rfl : K0 = zK0 sl sx := hK
    rcases zit h with ⟨g1, h⟩ | ⟨g1, h⟩
    · replace h := zWx h
      rcases zit h with ⟨g2, h⟩ | ⟨g2, h⟩
      · have q := L_Mo_chance_83 (d := d) ih h rfl
        exact ⟨zR_go 15 q.1 (fun n => (if_pos g1).trans ((if_pos g2).trans rfl)), q.2⟩
      · have q := L_Mo_chance_83 (d := d) ih h rfl
        exact ⟨zR_go 16 q.1 (fun n => (if_pos g1).trans ((if_neg g2).trans rfl)), q.2⟩
    · obtain ⟨rfl, rfl⟩ := zrI h
      exact ⟨zR_ret 7 ((if_neg g1).trans rfl), rfl⟩
set_option maxRecDepth 20000 in
theorem L_Mo_chance {N d sl : Nat} {sx : Nat → Int} {a0 : Nat} {x1 : Int} {x2 : Int} {x3 : Int} {M : ZM} {x : Int} {M' : ZM} (h : Mo_chance N a0 x1 x2 x3 M = some (x, M')) (hK : mK M = zK0 sl sx) : zLI (d + 6) tb_X13_chance 0 [some (vR 11 (some a0)), some (vI x1), some (vI x2), some (vI x3), none, none, none] [] M x M' (zK0 sl sx) := by
  obtain ⟨I0, L0, ⟨ra0, rb0, rc0, rd0⟩, K0, c0⟩ := M
  obtain rfl : K0 = zK0 sl sx := hK
  replace h := zWx h
  obtain ⟨v102, M102, f102, h⟩ := zBx h
  have q102 := L_Mo_isTurbine (d := (d + 5)) f102 rfl
  obtain ⟨I102, L102, ⟨ra102, rb102, rc102, rd102⟩, K102, c102⟩ := M102
  obtain rfl : K102 = zK0 sl sx := q102.2
  suffices w102 : zLI (d + 6) tb_X13_chance 10 [some (vR 11 (some a0)), some (vI x1), some (vI x2), some (vI x3), none, none, none] [vI v102] (I102, L102, (ra102, rb102, rc102, rd102), zK0 sl sx, c102) x M' (zK0 sl sx) from ⟨zR_call (rest := []) 6 q102.1 (fun n => rfl) w102.1, w102.2⟩
  rcases zit h with ⟨g1, h⟩ | ⟨g1, h⟩
  · obtain ⟨rfl, rfl⟩ := zrI h
    exact ⟨zR_ret 3 ((if_pos g1).trans rfl), rfl⟩
  · obtain ⟨v103, M103, f103, h⟩ := zBx h
    have q103 := L_Mo_within (d := (d + 5)) f103 rfl
    obtain ⟨I103, L103, ⟨ra103, rb103, rc103, rd103⟩, K103, c103⟩ := M103
    obtain rfl : K103 = zK0 sl sx := q103.2
    suffices w103 : zLI (d + 6) tb_X13_chance 20 [some (vR 11 (some a0)), some (vI x1), some (vI x2), some (vI x3), none, none, none] [vI v103] (I103, L103, (ra103, rb103, rc103, rd103), zK0 sl sx, c103) x M' (zK0 sl sx) from ⟨zR_call (rest := []) 5 q103.1 (fun n => (if_neg g1).trans rfl) w103.1, w103.2⟩
    rcases zit h with ⟨g2, h⟩ | ⟨g2, h⟩
    · obtain ⟨rfl, rfl⟩ := zrI h
      exact ⟨zR_ret 3 ((if_pos g2).trans rfl), rfl⟩
    · obtain ⟨v104, M104, f104, h⟩ := zBx h
      have q104 := L_Mo_within (d := (d + 5)) f104 rfl
      obtain ⟨I104, L104, ⟨ra104, rb104, rc104, rd104⟩, K104, c104⟩ := M104
      obtain rfl : K104 = zK0 sl sx := q104.2
      suffices w104 : zLI (d + 6) tb_X13_chance 30 [some (vR 11 (some a0)), some (vI x1), some (vI x2), some (vI x3), none, none, none] [vI v104] (I104, L104, (ra104, rb104, rc104, rd104), zK0 sl sx, c104) x M' (zK0 sl sx) from ⟨zR_call (rest := []) 5 q104.1 (fun n => (if_neg g2).trans rfl) w104.1, w104.2⟩
      rcases zit h with ⟨g3, h⟩ | ⟨g3, h⟩
      · obtain ⟨rfl, rfl⟩ := zrI h
        exact ⟨zR_ret 3 ((if_pos g3).trans rfl), rfl⟩
      · obtain ⟨M105, f105, h⟩ := zBvx h
        have q105 := L_Mo_looks (d := (d + 4)) f105 rfl
        obtain ⟨I105, L105, ⟨ra105, rb105, rc105, rd105⟩, K105, c105⟩ := M105
        obtain rfl : K105 = zK0 sl sx := q105.2
        suffices w105 : zLI (d + 6) tb_X13_chance 39 [some (vR 11 (some a0)), some (vI x1), some (vI x2), some (vI x3), none, none, none] [] (I105, L105, (ra105, rb105, rc105, rd105), zK0 sl sx, c105) x M' (zK0 sl sx) from ⟨zR_call (rest := []) 3 q105.1 (fun n => (if_neg g3).trans rfl) w105.1, w105.2⟩
        replace h := zWx h
        have q := L_Mo_chance_51 (d := d) h rfl
        exact ⟨zR_go 7 q.1 (fun n => rfl), q.2⟩
set_option maxRecDepth 20000 in
theorem L_Mo_getsBy {N d sl : Nat} {sx : Nat → Int} {x0 : Int} {x1 : Int} {x2 : Int} {x3 : Int} {x4 : Int} {M : ZM} {x : Int} {M' : ZM} (h : Mo_getsBy N x0 x1 x2 x3 x4 M = some (x, M')) (hK : mK M = zK0 sl sx) : zLI (d + 0) tb_X13_getsBy 0 [some (vI x0), some (vI x1), some (vI x2), some (vI x3), some (vI x4)] [] M x M' (zK0 sl sx) := by
  obtain ⟨I0, L0, ⟨ra0, rb0, rc0, rd0⟩, K0, c0⟩ := M
  obtain rfl : K0 = zK0 sl sx := hK
  rcases zit h with ⟨g1, h⟩ | ⟨g1, h⟩
  · rcases zit h with ⟨g2, h⟩ | ⟨g2, h⟩
    · obtain ⟨rfl, rfl⟩ := zrI h
      exact ⟨zR_ret 10 ((if_pos g1).trans ((if_pos g2).trans rfl)), rfl⟩
    · obtain ⟨rfl, rfl⟩ := zrI h
      exact ⟨zR_ret 9 ((if_pos g1).trans ((if_neg g2).trans rfl)), rfl⟩
  · rcases zit h with ⟨g3, h⟩ | ⟨g3, h⟩
    · obtain ⟨rfl, rfl⟩ := zrI h
      exact ⟨zR_ret 9 ((if_neg g1).trans ((if_pos g3).trans rfl)), rfl⟩
    · obtain ⟨rfl, rfl⟩ := zrI h
      exact ⟨zR_ret 8 ((if_neg g1).trans ((if_neg g3).trans rfl)), rfl⟩
set_option maxRecDepth 20000 in
theorem L_Mo_rests_61 {N d sl : Nat} {sx : Nat → Int} : ∀ {n : Nat} {a0 : Nat} {x1 : Int} {x2 : Int} {x3 : Int} {x4 : Int} {x5 : Int} {x6 : Int} {M : ZM} {x : Int} {M' : ZM}, Mo_rests_61 N n a0 x1 x2 x3 x4 x5 x6 M = some (x, M') → mK M = zK0 sl sx → zLI (d + 1) tb_X13_rests 61 [some (vR 11 (some a0)), some (vI x1), some (vI x2), some (vI x3), some (vI x4), some (vI x5), some (vI x6), none, none] [] M x M' (zK0 sl sx) := by
  intro n
  induction n with
  | zero => intros; rename_i h _; cases h
  | succ n ih =>
    intro a0 x1 x2 x3 x4 x5 x6 M x M' h hK
    obtain ⟨I0, L0, ⟨ra0, rb0, rc0, rd0⟩, K0, c0⟩ := M
    obtain rfl : K0 = zK0 sl sx := hK
    rcases zit h with ⟨g1, h⟩ | ⟨g1, h⟩
    · replace h := zWx h
      replace h := zWx h
      obtain ⟨v103, M103, f103, h⟩ := zBx h
      have q103 := L_Mo_getsBy (d := d) f103 rfl
      obtain ⟨I103, L103, ⟨ra103, rb103, rc103, rd103⟩, K103, c103⟩ := M103
      obtain rfl : K103 = zK0 sl sx := q103.2
      suffices w103 : zLI (d + 1) tb_X13_rests 91 [some (vR 11 (some a0)), some (vI x1), some (vI x2), some (vI x3), some (vI x4), some (vI x5), some (vI x6), some (vI (z32 (x6.tdiv 2))), some (vI (x6.tmod 2))] [vI v103] (I103, L103, (ra103, rb103, rc103, rd103), zK0 sl sx, c103) x M' (zK0 sl sx) from ⟨zR_call (rest := []) 19 q103.1 (fun n => (if_pos g1).trans rfl) w103.1, w103.2⟩
      obtain ⟨v104, M104, f104, h⟩ := zBx h
      have q104 := L_Mo_getsBy (d := d) f104 rfl
      obtain ⟨I104, L104, ⟨ra104, rb104, rc104, rd104⟩, K104, c104⟩ := M104
      obtain rfl : K104 = zK0 sl sx := q104.2
      suffices w104 : zLI (d + 1) tb_X13_rests 101 [some (vR 11 (some a0)), some (vI x1), some (vI x2), some (vI x3), some (vI x4), some (vI x5), some (vI x6), some (vI (z32 (x6.tdiv 2))), some (vI (x6.tmod 2))] [vI v104, vI v103] (I104, L104, (ra104, rb104, rc104, rd104), zK0 sl sx, c104) x M' (zK0 sl sx) from ⟨zR_call (rest := [vI v103]) 6 q104.1 (fun n => rfl) w104.1, w104.2⟩
      rcases zit h with ⟨g2, h⟩ | ⟨g2, h⟩
      · replace h := zWx h
        have q := ih h rfl
        exact ⟨zR_go 3 (zR_up (ls' := [some (vR 11 (some a0)), some (vI x1), some (vI x2), some (vI x3), some (vI x4), some (vI x5), some (vI (z32 (x6 + 1))), some (vI (z32 (x6.tdiv 2))), some (vI (x6.tmod 2))]) q.1 ⟨.inr rfl, .inr rfl, .inr rfl, .inr rfl, .inr rfl, .inr rfl, .inr rfl, .inl rfl, .inl rfl, trivial⟩) (fun n => (if_pos g2).trans rfl), q.2⟩
      · obtain ⟨v106, M106, f106, h⟩ := zBx h
        have q106 := L_Mo_getsBy (d := d) f106 rfl
        obtain ⟨I106, L106, ⟨ra106, rb106, rc106, rd106⟩, K106, c106⟩ := M106
        obtain rfl : K106 = zK0 sl sx := q106.2
        suffices w106 : zLI (d + 1) tb_X13_rests 116 [some (vR 11 (some a0)), some (vI x1), some (vI x2), some (vI x3), some (vI x4), some (vI x5), some (vI x6), some (vI (z32 (x6.tdiv 2))), some (vI (x6.tmod 2))] [vI v106] (I106, L106, (ra106, rb106, rc106, rd106), zK0 sl sx, c106) x M' (zK0 sl sx) from ⟨zR_call (rest := []) 9 q106.1 (fun n => (if_neg g2).trans rfl) w106.1, w106.2⟩
        obtain ⟨v107, M107, f107, h⟩ := zBx h
        have q107 := L_Mo_getsBy (d := d) f107 rfl
        obtain ⟨I107, L107, ⟨ra107, rb107, rc107, rd107⟩, K107, c107⟩ := M107
        obtain rfl : K107 = zK0 sl sx := q107.2
        suffices w107 : zLI (d + 1) tb_X13_rests 126 [some (vR 11 (some a0)), some (vI x1), some (vI x2), some (vI x3), some (vI x4), some (vI x5), some (vI x6), some (vI (z32 (x6.tdiv 2))), some (vI (x6.tmod 2))] [vI v107, vI v106] (I107, L107, (ra107, rb107, rc107, rd107), zK0 sl sx, c107) x M' (zK0 sl sx) from ⟨zR_call (rest := [vI v106]) 6 q107.1 (fun n => rfl) w107.1, w107.2⟩
        rcases zit h with ⟨g3, h⟩ | ⟨g3, h⟩
        · replace h := zWx h
          have q := ih h rfl
          exact ⟨zR_go 4 (zR_up (ls' := [some (vR 11 (some a0)), some (vI x1), some (vI x2), some (vI x3), some (vI x4), some (vI x5), some (vI (z32 (x6 + 1))), some (vI (z32 (x6.tdiv 2))), some (vI (x6.tmod 2))]) q.1 ⟨.inr rfl, .inr rfl, .inr rfl, .inr rfl, .inr rfl, .inr rfl, .inr rfl, .inl rfl, .inl rfl, trivial⟩) (fun n => (if_pos g3).trans rfl), q.2⟩
        · rcases zit h with ⟨g4, h⟩ | ⟨g4, h⟩
          · obtain ⟨rfl, rfl⟩ := zrI h
            exact ⟨zR_ret 6 ((if_neg g3).trans ((if_pos g4).trans rfl)), rfl⟩
          · replace h := zWx h
            replace h := zWx h
            have q := ih h rfl
            exact ⟨zR_go 7 (zR_up (ls' := [some (vR 11 (some a0)), some (vI x1), some (vI x2), some (vI x3), some (vI x4), some (vI (z32 (x5 + 1))), some (vI (z32 (x6 + 1))), some (vI (z32 (x6.tdiv 2))), some (vI (x6.tmod 2))]) q.1 ⟨.inr rfl, .inr rfl, .inr rfl, .inr rfl, .inr rfl, .inr rfl, .inr rfl, .inl rfl, .inl rfl, trivial⟩) (fun n => (if_neg g3).trans ((if_neg g4).trans rfl)), q.2⟩
    · rcases zit h with ⟨g5, h⟩ | ⟨g5, h⟩
      · replace h := zWx h
        rcases zit h with ⟨g6, h⟩ | ⟨g6, h⟩
        · obtain ⟨rfl, rfl⟩ := zrI h
          exact ⟨zR_ret 16 ((if_neg g1).trans ((if_pos g5).trans ((if_pos g6).trans rfl))), rfl⟩
        · obtain ⟨rfl, rfl⟩ := zrI h
          exact ⟨zR_ret 15 ((if_neg g1).trans ((if_pos g5).trans ((if_neg g6).trans rfl))), rfl⟩
      · replace h := zWx h
        rcases zit h with ⟨g7, h⟩ | ⟨g7, h⟩
        · obtain ⟨rfl, rfl⟩ := zrI h
          exact ⟨zR_ret 15 ((if_neg g1).trans ((if_neg g5).trans ((if_pos g7).trans rfl))), rfl⟩
        · obtain ⟨rfl, rfl⟩ := zrI h
          exact ⟨zR_ret 14 ((if_neg g1).trans ((if_neg g5).trans ((if_neg g7).trans rfl))), rfl⟩
set_option maxRecDepth 20000 in
theorem L_Mo_rests_42 {N d sl : Nat} {sx : Nat → Int} {a0 : Nat} {x1 : Int} {x2 : Int} {x3 : Int} {x4 : Int} {b0 : Nat} {y1 : Int} {M : ZM} {x : Int} {M' : ZM} (h : Mo_rests_42 N a0 x1 x2 x3 x4 b0 y1 M = some (x, M')) (hK : mK M = zK0 sl sx) : zLI (d + 1) tb_X13_rests 42 [some (vR 11 (some a0)), some (vI x1), some (vI x2), some (vI x3), some (vI x4), none, none, none, none] [vI y1, vR 11 (some b0)] M x M' (zK0 sl sx) := by
  obtain ⟨I0, L0, ⟨ra0, rb0, rc0, rd0⟩, K0, c0⟩ := M
  obtain rfl : K0 = zK0 sl sx := hK
  replace h := zWx h
  rcases zit h with ⟨g1, h⟩ | ⟨g1, h⟩
  · obtain ⟨rfl, rfl⟩ := zrI h
    exact ⟨zR_ret 7 ((if_pos g1).trans rfl), rfl⟩
  · have q := L_Mo_rests_61 (d := d) h rfl
    exact ⟨zR_go 9 q.1 (fun n => (if_neg g1).trans rfl), q.2⟩
set_option maxRecDepth 20000 in
theorem L_Mo_rests {N d sl : Nat} {sx : Nat → Int} {a0 : Nat} {x1 : Int} {x2 : Int} {x3 : Int} {x4 : Int} {M : ZM} {x : Int} {M' : ZM} (h : Mo_rests N a0 x1 x2 x3 x4 M = some (x, M')) (hK : mK M = zK0 sl sx) : zLI (d + 1) tb_X13_rests 0 [some (vR 11 (some a0)), some (vI x1), some (vI x2), some (vI x3), some (vI x4), none, none, none, none] [] M x M' (zK0 sl sx) := by
  obtain ⟨I0, L0, ⟨ra0, rb0, rc0, rd0⟩, K0, c0⟩ := M
  obtain rfl : K0 = zK0 sl sx := hK
  obtain ⟨v101, M101, f101, h⟩ := zBx h
  have q101 := L_Mo_within (d := d) f101 rfl
  obtain ⟨I101, L101, ⟨ra101, rb101, rc101, rd101⟩, K101, c101⟩ := M101
  obtain rfl : K101 = zK0 sl sx := q101.2
  suffices w101 : zLI (d + 1) tb_X13_rests 8 [some (vR 11 (some a0)), some (vI x1), some (vI x2), some (vI x3), some (vI x4), none, none, none, none] [vI v101, vR 11 (some a0)] (I101, L101, (ra101, rb101, rc101, rd101), zK0 sl sx, c101) x M' (zK0 sl sx) from ⟨zR_call (rest := [vR 11 (some a0)]) 5 q101.1 (fun n => rfl) w101.1, w101.2⟩
  rcases zit h with ⟨g1, h⟩ | ⟨g1, h⟩
  · have q := L_Mo_rests_42 (d := d) h rfl
    exact ⟨zR_go 2 q.1 (fun n => (if_pos g1).trans rfl), q.2⟩
  · obtain ⟨v102, M102, f102, h⟩ := zBx h
    have q102 := L_Mo_within (d := d) f102 rfl
    obtain ⟨I102, L102, ⟨ra102, rb102, rc102, rd102⟩, K102, c102⟩ := M102
    obtain rfl : K102 = zK0 sl sx := q102.2
    suffices w102 : zLI (d + 1) tb_X13_rests 18 [some (vR 11 (some a0)), some (vI x1), some (vI x2), some (vI x3), some (vI x4), none, none, none, none] [vI v102, vR 11 (some a0)] (I102, L102, (ra102, rb102, rc102, rd102), zK0 sl sx, c102) x M' (zK0 sl sx) from ⟨zR_call (rest := [vR 11 (some a0)]) 5 q102.1 (fun n => (if_neg g1).trans rfl) w102.1, w102.2⟩
    rcases zit h with ⟨g2, h⟩ | ⟨g2, h⟩
    · have q := L_Mo_rests_42 (d := d) h rfl
      exact ⟨zR_go 2 q.1 (fun n => (if_pos g2).trans rfl), q.2⟩
    · obtain ⟨v103, M103, f103, h⟩ := zBx h
      have q103 := L_Mo_within (d := d) f103 rfl
      obtain ⟨I103, L103, ⟨ra103, rb103, rc103, rd103⟩, K103, c103⟩ := M103
      obtain rfl : K103 = zK0 sl sx := q103.2
      suffices w103 : zLI (d + 1) tb_X13_rests 28 [some (vR 11 (some a0)), some (vI x1), some (vI x2), some (vI x3), some (vI x4), none, none, none, none] [vI v103, vR 11 (some a0)] (I103, L103, (ra103, rb103, rc103, rd103), zK0 sl sx, c103) x M' (zK0 sl sx) from ⟨zR_call (rest := [vR 11 (some a0)]) 5 q103.1 (fun n => (if_neg g2).trans rfl) w103.1, w103.2⟩
      rcases zit h with ⟨g3, h⟩ | ⟨g3, h⟩
      · have q := L_Mo_rests_42 (d := d) h rfl
        exact ⟨zR_go 2 q.1 (fun n => (if_pos g3).trans rfl), q.2⟩
      · rcases zit h with ⟨g4, h⟩ | ⟨g4, h⟩
        · have q := L_Mo_rests_42 (d := d) h rfl
          exact ⟨zR_go 5 q.1 (fun n => (if_neg g3).trans ((if_pos g4).trans rfl)), q.2⟩
        · have q := L_Mo_rests_42 (d := d) h rfl
          exact ⟨zR_go 6 q.1 (fun n => (if_neg g3).trans ((if_neg g4).trans rfl)), q.2⟩
set_option maxRecDepth 20000 in
theorem L_Mo_draws {N d sl : Nat} {sx : Nat → Int} {a0 : Nat} {x1 : Int} {M : ZM} {x : Int} {M' : ZM} (h : Mo_draws N a0 x1 M = some (x, M')) (hK : mK M = zK0 sl sx) : zLI (d + 0) tb_X13_draws 0 [some (vR 11 (some a0)), some (vI x1)] [] M x M' (zK0 sl sx) := by
  obtain ⟨I0, L0, ⟨ra0, rb0, rc0, rd0⟩, K0, c0⟩ := M
  obtain rfl : K0 = zK0 sl sx := hK
  replace h := zWx h
  obtain ⟨g1, h⟩ := zgn h
  obtain ⟨rfl, rfl⟩ := zrI h
  exact ⟨zR_ret 19 ((if_neg g1).trans rfl), rfl⟩
set_option maxRecDepth 20000 in
theorem L_Mo_livesStep_98 {N d sl : Nat} {sx : Nat → Int} {a0 : Nat} {M : ZM} {M' : ZM} (h : Mo_livesStep_98 N a0 M = some M') (hK : mK M = zK0 sl sx) : zLV (d + 10) tb_X13_livesStep 98 [some (vR 11 (some a0)), none, none] [] M M' (zK0 sl sx) := by
  obtain ⟨I0, L0, ⟨ra0, rb0, rc0, rd0⟩, K0, c0⟩ := M
  obtain rfl : K0 = zK0 sl sx := hK
  obtain ⟨v101, M101, f101, h⟩ := zBx h
  have q101 := L_Mo_passes (d := d) f101 rfl
  obtain ⟨I101, L101, ⟨ra101, rb101, rc101, rd101⟩, K101, c101⟩ := M101
  obtain rfl : K101 = zK0 sl sx := q101.2
  suffices w101 : zLV (d + 10) tb_X13_livesStep 102 [some (vR 11 (some a0)), none, none] [vI v101] (I101, L101, (ra101, rb101, rc101, rd101), zK0 sl sx, c101) M' (zK0 sl sx) from ⟨zR_call (rest := []) 2 q101.1 (fun n => rfl) w101.1, w101.2⟩
  obtain rfl := zrV h
  exact ⟨zR_ret 2 (rfl), rfl⟩
set_option maxRecDepth 20000 in
theorem L_Mo_livesStep_80 {N d sl : Nat} {sx : Nat → Int} {a0 : Nat} {x1 : Int} {x2 : Int} {M : ZM} {M' : ZM} (h : Mo_livesStep_80 N a0 x1 x2 M = some M') (hK : mK M = zK0 sl sx) : zLV (d + 10) tb_X13_livesStep 80 [some (vR 11 (some a0)), some (vI x1), some (vI x2)] [] M M' (zK0 sl sx) := by
  obtain ⟨I0, L0, ⟨ra0, rb0, rc0, rd0⟩, K0, c0⟩ := M
  obtain rfl : K0 = zK0 sl sx := hK
  rcases zit h with ⟨g1, h⟩ | ⟨g1, h⟩
  · obtain ⟨v101, M101, f101, h⟩ := zBx h
    have q101 := L_Mo_canMend (d := (d + 8)) f101 rfl
    obtain ⟨I101, L101, ⟨ra101, rb101, rc101, rd101⟩, K101, c101⟩ := M101
    obtain rfl : K101 = zK0 sl sx := q101.2
    suffices w101 : zLV (d + 10) tb_X13_livesStep 90 [some (vR 11 (some a0)), some (vI x1), some (vI x2)] [vI v101] (I101, L101, (ra101, rb101, rc101, rd101), zK0 sl sx, c101) M' (zK0 sl sx) from ⟨zR_call (rest := []) 6 q101.1 (fun n => (if_pos g1).trans rfl) w101.1, w101.2⟩
    rcases zit h with ⟨g2, h⟩ | ⟨g2, h⟩
    · have q := L_Mo_livesStep_98 (d := d) h rfl
      exact ⟨zR_go 1 (zR_up (ls' := [some (vR 11 (some a0)), some (vI x1), some (vI x2)]) q.1 ⟨.inr rfl, .inl rfl, .inl rfl, trivial⟩) (fun n => (if_pos g2).trans rfl), q.2⟩
    · obtain ⟨M102, f102, h⟩ := zBvx h
      have q102 := L_Mo_mends (d := (d + 9)) f102 rfl
      obtain ⟨I102, L102, ⟨ra102, rb102, rc102, rd102⟩, K102, c102⟩ := M102
      obtain rfl : K102 = zK0 sl sx := q102.2
      suffices w102 : zLV (d + 10) tb_X13_livesStep 98 [some (vR 11 (some a0)), some (vI x1), some (vI x2)] [] (I102, L102, (ra102, rb102, rc102, rd102), zK0 sl sx, c102) M' (zK0 sl sx) from ⟨zR_call (rest := []) 4 q102.1 (fun n => (if_neg g2).trans rfl) w102.1, w102.2⟩
      have q := L_Mo_livesStep_98 (d := d) h rfl
      exact ⟨(zR_up (ls' := [some (vR 11 (some a0)), some (vI x1), some (vI x2)]) q.1 ⟨.inr rfl, .inl rfl, .inl rfl, trivial⟩), q.2⟩
  · have q := L_Mo_livesStep_98 (d := d) h rfl
    exact ⟨zR_go 3 (zR_up (ls' := [some (vR 11 (some a0)), some (vI x1), some (vI x2)]) q.1 ⟨.inr rfl, .inl rfl, .inl rfl, trivial⟩) (fun n => (if_neg g1).trans rfl), q.2⟩
set_option maxRecDepth 20000 in
theorem L_Mo_livesStep_61 {N d sl : Nat} {sx : Nat → Int} {a0 : Nat} {x1 : Int} {x2 : Int} {M : ZM} {M' : ZM} (h : Mo_livesStep_61 N a0 x1 x2 M = some M') (hK : mK M = zK0 sl sx) : zLV (d + 10) tb_X13_livesStep 61 [some (vR 11 (some a0)), some (vI x1), some (vI x2)] [] M M' (zK0 sl sx) := by
  obtain ⟨I0, L0, ⟨ra0, rb0, rc0, rd0⟩, K0, c0⟩ := M
  obtain rfl : K0 = zK0 sl sx := hK
  rcases zit h with ⟨g1, h⟩ | ⟨g1, h⟩
  · replace h := zWx h
    have q := L_Mo_livesStep_80 (d := d) h rfl
    exact ⟨zR_go 15 q.1 (fun n => (if_pos g1).trans rfl), q.2⟩
  · have q := L_Mo_livesStep_80 (d := d) h rfl
    exact ⟨zR_go 3 q.1 (fun n => (if_neg g1).trans rfl), q.2⟩
set_option maxRecDepth 20000 in
theorem L_Mo_livesStep_44 {N d sl : Nat} {sx : Nat → Int} {a0 : Nat} {x1 : Int} {x2 : Int} {M : ZM} {M' : ZM} (h : Mo_livesStep_44 N a0 x1 x2 M = some M') (hK : mK M = zK0 sl sx) : zLV (d + 10) tb_X13_livesStep 44 [some (vR 11 (some a0)), some (vI x1), some (vI x2)] [] M M' (zK0 sl sx) := by
  obtain ⟨I0, L0, ⟨ra0, rb0, rc0, rd0⟩, K0, c0⟩ := M
  obtain rfl : K0 = zK0 sl sx := hK
  rcases zit h with ⟨g1, h⟩ | ⟨g1, h⟩
  · replace h := zWx h
    have q := L_Mo_livesStep_61 (d := d) h rfl
    exact ⟨zR_go 13 q.1 (fun n => (if_pos g1).trans rfl), q.2⟩
  · have q := L_Mo_livesStep_61 (d := d) h rfl
    exact ⟨zR_go 3 q.1 (fun n => (if_neg g1).trans rfl), q.2⟩
set_option maxRecDepth 20000 in
theorem L_Mo_livesStep {N d sl : Nat} {sx : Nat → Int} {a0 : Nat} {M : ZM} {M' : ZM} (h : Mo_livesStep N a0 M = some M') (hK : mK M = zK0 sl sx) : zLV (d + 10) tb_X13_livesStep 0 [some (vR 11 (some a0)), none, none] [] M M' (zK0 sl sx) := by
  obtain ⟨I0, L0, ⟨ra0, rb0, rc0, rd0⟩, K0, c0⟩ := M
  obtain rfl : K0 = zK0 sl sx := hK
  rcases zit h with ⟨g1, h⟩ | ⟨g1, h⟩
  · obtain ⟨v101, M101, f101, h⟩ := zBx h
    have q101 := L_Mo_draws (d := (d + 9)) f101 rfl
    obtain ⟨I101, L101, ⟨ra101, rb101, rc101, rd101⟩, K101, c101⟩ := M101
    obtain rfl : K101 = zK0 sl sx := q101.2
    suffices w101 : zLV (d + 10) tb_X13_livesStep 19 [some (vR 11 (some a0)), none, none] [vI v101] (I101, L101, (ra101, rb101, rc101, rd101), zK0 sl sx, c101) M' (zK0 sl sx) from ⟨zR_call (rest := []) 11 q101.1 (fun n => (if_pos g1).trans rfl) w101.1, w101.2⟩
    obtain ⟨v102, M102, f102, h⟩ := zBx h
    have q102 := L_Mo_draws (d := (d + 9)) f102 rfl
    obtain ⟨I102, L102, ⟨ra102, rb102, rc102, rd102⟩, K102, c102⟩ := M102
    obtain rfl : K102 = zK0 sl sx := q102.2
    suffices w102 : zLV (d + 10) tb_X13_livesStep 26 [some (vR 11 (some a0)), some (vI v101), none] [vI v102] (I102, L102, (ra102, rb102, rc102, rd102), zK0 sl sx, c102) M' (zK0 sl sx) from ⟨zR_call (rest := []) 4 q102.1 (fun n => rfl) w102.1, w102.2⟩
    rcases zit h with ⟨g2, h⟩ | ⟨g2, h⟩
    · obtain ⟨v103, M103, f103, h⟩ := zBx h
      have q103 := L_Mo_draws (d := (d + 9)) f103 rfl
      obtain ⟨I103, L103, ⟨ra103, rb103, rc103, rd103⟩, K103, c103⟩ := M103
      obtain rfl : K103 = zK0 sl sx := q103.2
      suffices w103 : zLV (d + 10) tb_X13_livesStep 43 [some (vR 11 (some a0)), some (vI v101), some (vI v102)] [vI v103, vI (z32 (4 + v101)), vR 81 (some a0)] (I103, L103, (ra103, rb103, rc103, rd103), zK0 sl sx, c103) M' (zK0 sl sx) from ⟨zR_call (rest := [vI (z32 (4 + v101)), vR 81 (some a0)]) 11 q103.1 (fun n => (if_pos g2).trans rfl) w103.1, w103.2⟩
      obtain ⟨g3, h⟩ := zIx h
      replace h := zWx h
      have q := L_Mo_livesStep_44 (d := d) h rfl
      exact ⟨zR_go 1 q.1 (fun n => (if_pos g3).trans rfl), q.2⟩
    · have q := L_Mo_livesStep_44 (d := d) h rfl
      exact ⟨zR_go 3 q.1 (fun n => (if_neg g2).trans rfl), q.2⟩
  · have q := L_Mo_livesStep_98 (d := d) h rfl
    exact ⟨zR_go 5 q.1 (fun n => (if_neg g1).trans rfl), q.2⟩
set_option maxRecDepth 20000 in
theorem L_Mo_days_61 {N d sl : Nat} {sx : Nat → Int} : ∀ {n : Nat} {a0 : Nat} {x2 : Int} {x3 : Int} {x4 : Int} {M : ZM} {x : Int} {M' : ZM}, Mo_days_61 N n a0 x2 x3 x4 M = some (x, M') → mK M = zK0 sl sx → zLI (d + 11) tb_X13_days 61 [some (vR 11 (some a0)), none, some (vI x2), some (vI x3), some (vI x4), none, none] [] M x M' (zK0 sl sx) := by
  intro n
  induction n with
  | zero => intros; rename_i h _; cases h
  | succ n ih =>
    intro a0 x2 x3 x4 M x M' h hK
    obtain ⟨I0, L0, ⟨ra0, rb0, rc0, rd0⟩, K0, c0⟩ := M
    obtain rfl : K0 = zK0 sl sx := hK
    rcases zit h with ⟨g1, h⟩ | ⟨g1, h⟩
    · obtain ⟨M101, f101, h⟩ := zBvx h
      have q101 := L_Mo_livesStep (d := d) f101 rfl
      obtain ⟨I101, L101, ⟨ra101, rb101, rc101, rd101⟩, K101, c101⟩ := M101
      obtain rfl : K101 = zK0 sl sx := q101.2
      suffices w101 : zLI (d + 11) tb_X13_days 71 [some (vR 11 (some a0)), none, some (vI x2), some (vI x3), some (vI x4), none, none] [] (I101, L101, (ra101, rb101, rc101, rd101), zK0 sl sx, c101) x M' (zK0 sl sx) from ⟨zR_call (rest := []) 5 q101.1 (fun n => (if_pos g1).trans rfl) w101.1, w101.2⟩
      replace h := zWx h
      have q := ih h rfl
      exact ⟨zR_go 2 q.1 (fun n => rfl), q.2⟩
    · replace h := zWx h
      replace h := zWx h
      obtain ⟨v105, M105, f105, h⟩ := zBx h
      have q105 := L_Mo_homeNow (d := (d + 3)) f105 rfl
      obtain ⟨I105, L105, ⟨ra105, rb105, rc105, rd105⟩, K105, c105⟩ := M105
      obtain rfl : K105 = zK0 sl sx := q105.2
      suffices w105 : zLI (d + 11) tb_X13_days 104 [some (vR 11 (some a0)), none, some (vI x2), some (vI x3), some (vI (z32 ((mI (I0, L0, (ra0, rb0, rc0, rd0), zK0 sl sx, c0) 81 a0 1) - (mI (I0, L0, (ra0, rb0, rc0, rd0), zK0 sl sx, c0) 82 a0 1)))), some (vI (mI (I0, L0, (ra0, rb0, rc0, rd0), zK0 sl sx, c0) 81 a0 3)), none] [vI v105] (I105, L105, (ra105, rb105, rc105, rd105), zK0 sl sx, c105) x M' (zK0 sl sx) from ⟨zR_call (rest := []) 20 q105.1 (fun n => (if_neg g1).trans rfl) w105.1, w105.2⟩
      obtain ⟨M106, f106, h⟩ := zBvx h
      have q106 := L_Mo_copies_82_81 (d := (d + 10)) f106 rfl
      obtain ⟨I106, L106, ⟨ra106, rb106, rc106, rd106⟩, K106, c106⟩ := M106
      obtain rfl : K106 = zK0 sl sx := q106.2
      suffices w106 : zLI (d + 11) tb_X13_days 119 [some (vR 11 (some a0)), none, some (vI x2), some (vI x3), some (vI (z32 ((mI (I0, L0, (ra0, rb0, rc0, rd0), zK0 sl sx, c0) 81 a0 1) - (mI (I0, L0, (ra0, rb0, rc0, rd0), zK0 sl sx, c0) 82 a0 1)))), some (vI (mI (I0, L0, (ra0, rb0, rc0, rd0), zK0 sl sx, c0) 81 a0 3)), some (vI v105)] [] (I106, L106, (ra106, rb106, rc106, rd106), zK0 sl sx, c106) x M' (zK0 sl sx) from ⟨zR_call (rest := []) 8 q106.1 (fun n => rfl) w106.1, w106.2⟩
      rcases zit h with ⟨g2, h⟩ | ⟨g2, h⟩
      · obtain ⟨rfl, rfl⟩ := zrI h
        exact ⟨zR_ret 5 ((if_pos g2).trans rfl), rfl⟩
      · rcases zit h with ⟨g3, h⟩ | ⟨g3, h⟩
        · obtain ⟨rfl, rfl⟩ := zrI h
          exact ⟨zR_ret 8 ((if_neg g2).trans ((if_pos g3).trans rfl)), rfl⟩
        · obtain ⟨rfl, rfl⟩ := zrI h
          exact ⟨zR_ret 7 ((if_neg g2).trans ((if_neg g3).trans rfl)), rfl⟩
set_option maxRecDepth 20000 in
theorem L_Mo_days {N d sl : Nat} {sx : Nat → Int} {a0 : Nat} {x1 : Int} {x2 : Int} {x3 : Int} {M : ZM} {x : Int} {M' : ZM} (h : Mo_days N a0 x1 x2 x3 M = some (x, M')) (hK : mK M = zK0 sl sx) : zLI (d + 11) tb_X13_days 0 [some (vR 11 (some a0)), some (vI x1), some (vI x2), some (vI x3), none, none, none] [] M x M' (zK0 sl sx) := by
  obtain ⟨I0, L0, ⟨ra0, rb0, rc0, rd0⟩, K0, c0⟩ := M
  obtain rfl : K0 = zK0 sl sx := hK
  replace h := zWx h
  obtain ⟨v102, M102, f102, h⟩ := zBx h
  have q102 := L_Mo_within (d := (d + 10)) f102 rfl
  obtain ⟨I102, L102, ⟨ra102, rb102, rc102, rd102⟩, K102, c102⟩ := M102
  obtain rfl : K102 = zK0 sl sx := q102.2
  suffices w102 : zLI (d + 11) tb_X13_days 13 [some (vR 11 (some a0)), some (vI x1), some (vI x2), some (vI x3), none, none, none] [vI v102] (I102, L102, (ra102, rb102, rc102, rd102), zK0 sl sx, c102) x M' (zK0 sl sx) from ⟨zR_call (rest := []) 7 q102.1 (fun n => rfl) w102.1, w102.2⟩
  rcases zit h with ⟨g1, h⟩ | ⟨g1, h⟩
  · obtain ⟨rfl, rfl⟩ := zrI h
    exact ⟨zR_ret 3 ((if_pos g1).trans rfl), rfl⟩
  · obtain ⟨v103, M103, f103, h⟩ := zBx h
    have q103 := L_Mo_within (d := (d + 10)) f103 rfl
    obtain ⟨I103, L103, ⟨ra103, rb103, rc103, rd103⟩, K103, c103⟩ := M103
    obtain rfl : K103 = zK0 sl sx := q103.2
    suffices w103 : zLI (d + 11) tb_X13_days 23 [some (vR 11 (some a0)), some (vI x1), some (vI x2), some (vI x3), none, none, none] [vI v103] (I103, L103, (ra103, rb103, rc103, rd103), zK0 sl sx, c103) x M' (zK0 sl sx) from ⟨zR_call (rest := []) 5 q103.1 (fun n => (if_neg g1).trans rfl) w103.1, w103.2⟩
    rcases zit h with ⟨g2, h⟩ | ⟨g2, h⟩
    · obtain ⟨rfl, rfl⟩ := zrI h
      exact ⟨zR_ret 3 ((if_pos g2).trans rfl), rfl⟩
    · obtain ⟨v104, M104, f104, h⟩ := zBx h
      have q104 := L_Mo_within (d := (d + 10)) f104 rfl
      obtain ⟨I104, L104, ⟨ra104, rb104, rc104, rd104⟩, K104, c104⟩ := M104
      obtain rfl : K104 = zK0 sl sx := q104.2
      suffices w104 : zLI (d + 11) tb_X13_days 32 [some (vR 11 (some a0)), some (vI x1), some (vI x2), some (vI x3), none, none, none] [vI v104] (I104, L104, (ra104, rb104, rc104, rd104), zK0 sl sx, c104) x M' (zK0 sl sx) from ⟨zR_call (rest := []) 5 q104.1 (fun n => (if_neg g2).trans rfl) w104.1, w104.2⟩
      rcases zit h with ⟨g3, h⟩ | ⟨g3, h⟩
      · obtain ⟨rfl, rfl⟩ := zrI h
        exact ⟨zR_ret 3 ((if_pos g3).trans rfl), rfl⟩
      · replace h := zWx h
        obtain ⟨M106, f106, h⟩ := zBvx h
        have q106 := L_Mo_copies_81_82 (d := (d + 10)) f106 rfl
        obtain ⟨I106, L106, ⟨ra106, rb106, rc106, rd106⟩, K106, c106⟩ := M106
        obtain rfl : K106 = zK0 sl sx := q106.2
        suffices w106 : zLI (d + 11) tb_X13_days 58 [some (vR 11 (some a0)), some (vI x1), some (vI x2), some (vI x3), none, none, none] [] (I106, L106, (ra106, rb106, rc106, rd106), zK0 sl sx, c106) x M' (zK0 sl sx) from ⟨zR_call (rest := []) 12 q106.1 (fun n => (if_neg g3).trans rfl) w106.1, w106.2⟩
        have q := L_Mo_days_61 (d := d) h rfl
        exact ⟨zR_go 2 (zR_up (ls' := [some (vR 11 (some a0)), some (vI x1), some (vI x2), some (vI x3), some (vI 0), none, none]) q.1 ⟨.inr rfl, .inl rfl, .inr rfl, .inr rfl, .inr rfl, .inr rfl, .inr rfl, trivial⟩) (fun n => rfl), q.2⟩
set_option maxRecDepth 20000 in
theorem L_Mo_mark_59 {N d sl : Nat} {sx : Nat → Int} {a0 : Nat} {x1 : Int} {x2 : Int} {x3 : Int} {y0 : Int} {M : ZM} {x : Int} {M' : ZM} (h : Mo_mark_59 N a0 x1 x2 x3 y0 M = some (x, M')) (hK : mK M = zK0 sl sx) : zLI (d + 1) tb_X13_mark 59 [some (vR 11 (some a0)), some (vI x1), some (vI x2), some (vI x3), none] [vI y0] M x M' (zK0 sl sx) := by
  obtain ⟨I0, L0, ⟨ra0, rb0, rc0, rd0⟩, K0, c0⟩ := M
  obtain rfl : K0 = zK0 sl sx := hK
  obtain ⟨M101, f101, h⟩ := zBvx h
  have q101 := L_Mo_laysLines (d := d) f101 rfl
  obtain ⟨I101, L101, ⟨ra101, rb101, rc101, rd101⟩, K101, c101⟩ := M101
  obtain rfl : K101 = zK0 sl sx := q101.2
  suffices w101 : zLI (d + 1) tb_X13_mark 68 [some (vR 11 (some a0)), some (vI x1), some (vI x2), some (vI x3), some (vI y0)] [] (I101, L101, (ra101, rb101, rc101, rd101), zK0 sl sx, c101) x M' (zK0 sl sx) from ⟨zR_call (rest := []) 5 q101.1 (fun n => rfl) w101.1, w101.2⟩
  obtain ⟨M102, f102, h⟩ := zBvx h
  have q102 := L_Mo_laysSeen (d := d) f102 rfl
  obtain ⟨I102, L102, ⟨ra102, rb102, rc102, rd102⟩, K102, c102⟩ := M102
  obtain rfl : K102 = zK0 sl sx := q102.2
  suffices w102 : zLI (d + 1) tb_X13_mark 75 [some (vR 11 (some a0)), some (vI x1), some (vI x2), some (vI x3), some (vI y0)] [] (I102, L102, (ra102, rb102, rc102, rd102), zK0 sl sx, c102) x M' (zK0 sl sx) from ⟨zR_call (rest := []) 4 q102.1 (fun n => rfl) w102.1, w102.2⟩
  rcases zit h with ⟨g1, h⟩ | ⟨g1, h⟩
  · obtain ⟨M103, f103, h⟩ := zBvx h
    have q103 := L_Mo_copies_81_84 (d := d) f103 rfl
    obtain ⟨I103, L103, ⟨ra103, rb103, rc103, rd103⟩, K103, c103⟩ := M103
    obtain rfl : K103 = zK0 sl sx := q103.2
    suffices w103 : zLI (d + 1) tb_X13_mark 119 [some (vR 11 (some a0)), some (vI x1), some (vI x2), some (vI x3), some (vI y0)] [] (I103, L103, (ra103, rb103, rc103, rd103), zK0 sl sx, c103) x M' (zK0 sl sx) from ⟨zR_call (rest := []) 11 q103.1 (fun n => (if_pos g1).trans rfl) w103.1, w103.2⟩
    obtain ⟨rfl, rfl⟩ := zrI h
    exact ⟨zR_ret 2 (rfl), rfl⟩
  · obtain ⟨M104, f104, h⟩ := zBvx h
    have q104 := L_Mo_copies_84_81 (d := d) f104 rfl
    obtain ⟨I104, L104, ⟨ra104, rb104, rc104, rd104⟩, K104, c104⟩ := M104
    obtain rfl : K104 = zK0 sl sx := q104.2
    suffices w104 : zLI (d + 1) tb_X13_mark 95 [some (vR 11 (some a0)), some (vI x1), some (vI x2), some (vI x3), some (vI y0)] [] (I104, L104, (ra104, rb104, rc104, rd104), zK0 sl sx, c104) x M' (zK0 sl sx) from ⟨zR_call (rest := []) 11 q104.1 (fun n => (if_neg g1).trans rfl) w104.1, w104.2⟩
    replace h := zWx h
    obtain ⟨rfl, rfl⟩ := zrI h
    exact ⟨zR_ret 6 (rfl), rfl⟩
set_option maxRecDepth 20000 in
theorem L_Mo_mark_47 {N d sl : Nat} {sx : Nat → Int} {a0 : Nat} {x1 : Int} {x2 : Int} {y0 : Int} {M : ZM} {x : Int} {M' : ZM} (h : Mo_mark_47 N a0 x1 x2 y0 M = some (x, M')) (hK : mK M = zK0 sl sx) : zLI (d + 1) tb_X13_mark 47 [some (vR 11 (some a0)), some (vI x1), some (vI x2), none, none] [vI y0] M x M' (zK0 sl sx) := by
  obtain ⟨I0, L0, ⟨ra0, rb0, rc0, rd0⟩, K0, c0⟩ := M
  obtain rfl : K0 = zK0 sl sx := hK
  rcases zit h with ⟨g1, h⟩ | ⟨g1, h⟩
  · have q := L_Mo_mark_59 (d := d) h rfl
    exact ⟨zR_go 6 q.1 (fun n => (if_pos g1).trans rfl), q.2⟩
  · have q := L_Mo_mark_59 (d := d) h rfl
    exact ⟨zR_go 5 q.1 (fun n => (if_neg g1).trans rfl), q.2⟩
set_option maxRecDepth 20000 in
theorem L_Mo_mark_29 {N d sl : Nat} {sx : Nat → Int} {a0 : Nat} {x1 : Int} {x2 : Int} {M : ZM} {x : Int} {M' : ZM} (h : Mo_mark_29 N a0 x1 x2 M = some (x, M')) (hK : mK M = zK0 sl sx) : zLI (d + 1) tb_X13_mark 29 [some (vR 11 (some a0)), some (vI x1), some (vI x2), none, none] [] M x M' (zK0 sl sx) := by
  obtain ⟨I0, L0, ⟨ra0, rb0, rc0, rd0⟩, K0, c0⟩ := M
  obtain rfl : K0 = zK0 sl sx := hK
  obtain ⟨g1, h⟩ := zIx h
  replace h := zWx h
  rcases zit h with ⟨g2, h⟩ | ⟨g2, h⟩
  · have q := L_Mo_mark_47 (d := d) h rfl
    exact ⟨zR_go 8 q.1 (fun n => (if_pos g1).trans ((if_pos g2).trans rfl)), q.2⟩
  · have q := L_Mo_mark_47 (d := d) h rfl
    exact ⟨zR_go 11 q.1 (fun n => (if_pos g1).trans ((if_neg g2).trans rfl)), q.2⟩
set_option maxRecDepth 20000 in
theorem L_Mo_mark {N d sl : Nat} {sx : Nat → Int} {a0 : Nat} {x1 : Int} {x2 : Int} {M : ZM} {x : Int} {M' : ZM} (h : Mo_mark N a0 x1 x2 M = some (x, M')) (hK : mK M = zK0 sl sx) : zLI (d + 1) tb_X13_mark 0 [some (vR 11 (some a0)), some (vI x1), some (vI x2), none, none] [] M x M' (zK0 sl sx) := by
  obtain ⟨I0, L0, ⟨ra0, rb0, rc0, rd0⟩, K0, c0⟩ := M
  obtain rfl : K0 = zK0 sl sx := hK
  replace h := zWx h
  obtain ⟨v102, M102, f102, h⟩ := zBx h
  have q102 := L_Mo_within (d := d) f102 rfl
  obtain ⟨I102, L102, ⟨ra102, rb102, rc102, rd102⟩, K102, c102⟩ := M102
  obtain rfl : K102 = zK0 sl sx := q102.2
  suffices w102 : zLI (d + 1) tb_X13_mark 11 [some (vR 11 (some a0)), some (vI x1), some (vI x2), none, none] [vI v102] (I102, L102, (ra102, rb102, rc102, rd102), zK0 sl sx, c102) x M' (zK0 sl sx) from ⟨zR_call (rest := []) 7 q102.1 (fun n => rfl) w102.1, w102.2⟩
  rcases zit h with ⟨g1, h⟩ | ⟨g1, h⟩
  · obtain ⟨rfl, rfl⟩ := zrI h
    exact ⟨zR_ret 3 ((if_pos g1).trans rfl), rfl⟩
  · rcases zit h with ⟨g2, h⟩ | ⟨g2, h⟩
    · have q := L_Mo_mark_29 (d := d) h rfl
      exact ⟨zR_go 3 q.1 (fun n => (if_neg g1).trans ((if_pos g2).trans rfl)), q.2⟩
    · obtain ⟨g3, h⟩ := zIx h
      rcases zit h with ⟨g4, h⟩ | ⟨g4, h⟩
      · obtain ⟨rfl, rfl⟩ := zrI h
        exact ⟨zR_ret 10 ((if_neg g1).trans ((if_neg g2).trans ((if_pos g3).trans ((if_pos g4).trans rfl)))), rfl⟩
      · have q := L_Mo_mark_29 (d := d) h rfl
        exact ⟨zR_go 8 q.1 (fun n => (if_neg g1).trans ((if_neg g2).trans ((if_pos g3).trans ((if_neg g4).trans rfl)))), q.2⟩
set_option maxRecDepth 20000 in
theorem L_Mo_count {N d sl : Nat} {sx : Nat → Int} {a0 : Nat} {x1 : Int} {M : ZM} {x : Int} {M' : ZM} (h : Mo_count N a0 x1 M = some (x, M')) (hK : mK M = zK0 sl sx) : zLI (d + 8) tb_X13_count 0 [some (vR 11 (some a0)), some (vI x1)] [] M x M' (zK0 sl sx) := by
  obtain ⟨I0, L0, ⟨ra0, rb0, rc0, rd0⟩, K0, c0⟩ := M
  obtain rfl : K0 = zK0 sl sx := hK
  replace h := zWx h
  obtain ⟨v102, M102, f102, h⟩ := zBx h
  have q102 := L_Mo_within (d := (d + 7)) f102 rfl
  obtain ⟨I102, L102, ⟨ra102, rb102, rc102, rd102⟩, K102, c102⟩ := M102
  obtain rfl : K102 = zK0 sl sx := q102.2
  suffices w102 : zLI (d + 8) tb_X13_count 12 [some (vR 11 (some a0)), some (vI x1)] [vI v102] (I102, L102, (ra102, rb102, rc102, rd102), zK0 sl sx, c102) x M' (zK0 sl sx) from ⟨zR_call (rest := []) 7 q102.1 (fun n => rfl) w102.1, w102.2⟩
  rcases zit h with ⟨g1, h⟩ | ⟨g1, h⟩
  · obtain ⟨rfl, rfl⟩ := zrI h
    exact ⟨zR_ret 3 ((if_pos g1).trans rfl), rfl⟩
  · rcases zit h with ⟨g2, h⟩ | ⟨g2, h⟩
    · rcases zit h with ⟨g3, h⟩ | ⟨g3, h⟩
      · obtain ⟨rfl, rfl⟩ := zrI h
        exact ⟨zR_ret 12 ((if_neg g1).trans ((if_pos g2).trans ((if_pos g3).trans rfl))), rfl⟩
      · obtain ⟨rfl, rfl⟩ := zrI h
        exact ⟨zR_ret 11 ((if_neg g1).trans ((if_pos g2).trans ((if_neg g3).trans rfl))), rfl⟩
    · rcases zit h with ⟨g4, h⟩ | ⟨g4, h⟩
      · rcases zit h with ⟨g5, h⟩ | ⟨g5, h⟩
        · obtain ⟨v103, M103, f103, h⟩ := zBx h
          have q103 := L_Mo_rowOf (d := (d + 7)) f103 rfl
          obtain ⟨I103, L103, ⟨ra103, rb103, rc103, rd103⟩, K103, c103⟩ := M103
          obtain rfl : K103 = zK0 sl sx := q103.2
          suffices w103 : zLI (d + 8) tb_X13_count 61 [some (vR 11 (some a0)), some (vI x1)] [vI v103] (I103, L103, (ra103, rb103, rc103, rd103), zK0 sl sx, c103) x M' (zK0 sl sx) from ⟨zR_call (rest := []) 14 q103.1 (fun n => (if_neg g1).trans ((if_neg g2).trans ((if_pos g4).trans ((if_pos g5).trans rfl)))) w103.1, w103.2⟩
          obtain ⟨rfl, rfl⟩ := zrI h
          exact ⟨zR_ret 2 (rfl), rfl⟩
        · rcases zit h with ⟨g6, h⟩ | ⟨g6, h⟩
          · obtain ⟨v104, M104, f104, h⟩ := zBx h
            have q104 := L_Mo_rowOf (d := (d + 7)) f104 rfl
            obtain ⟨I104, L104, ⟨ra104, rb104, rc104, rd104⟩, K104, c104⟩ := M104
            obtain rfl : K104 = zK0 sl sx := q104.2
            suffices w104 : zLI (d + 8) tb_X13_count 75 [some (vR 11 (some a0)), some (vI x1)] [vI v104] (I104, L104, (ra104, rb104, rc104, rd104), zK0 sl sx, c104) x M' (zK0 sl sx) from ⟨zR_call (rest := []) 17 q104.1 (fun n => (if_neg g1).trans ((if_neg g2).trans ((if_pos g4).trans ((if_neg g5).trans ((if_pos g6).trans rfl))))) w104.1, w104.2⟩
            obtain ⟨rfl, rfl⟩ := zrI h
            exact ⟨zR_ret 2 (rfl), rfl⟩
          · obtain ⟨v105, M105, f105, h⟩ := zBx h
            have q105 := L_Mo_priceNow (d := (d + 6)) f105 rfl
            obtain ⟨I105, L105, ⟨ra105, rb105, rc105, rd105⟩, K105, c105⟩ := M105
            obtain rfl : K105 = zK0 sl sx := q105.2
            suffices w105 : zLI (d + 8) tb_X13_count 82 [some (vR 11 (some a0)), some (vI x1)] [vI v105] (I105, L105, (ra105, rb105, rc105, rd105), zK0 sl sx, c105) x M' (zK0 sl sx) from ⟨zR_call (rest := []) 15 q105.1 (fun n => (if_neg g1).trans ((if_neg g2).trans ((if_pos g4).trans ((if_neg g5).trans ((if_neg g6).trans rfl))))) w105.1, w105.2⟩
            obtain ⟨rfl, rfl⟩ := zrI h
            exact ⟨zR_ret 1 (rfl), rfl⟩
      · rcases zit h with ⟨g7, h⟩ | ⟨g7, h⟩
        · rcases zit h with ⟨g8, h⟩ | ⟨g8, h⟩
          · obtain ⟨v106, M106, f106, h⟩ := zBx h
            have q106 := L_Mo_powersNow (d := d) f106 rfl
            obtain ⟨I106, L106, ⟨ra106, rb106, rc106, rd106⟩, K106, c106⟩ := M106
            obtain rfl : K106 = zK0 sl sx := q106.2
            suffices w106 : zLI (d + 8) tb_X13_count 98 [some (vR 11 (some a0)), some (vI x1)] [vI v106] (I106, L106, (ra106, rb106, rc106, rd106), zK0 sl sx, c106) x M' (zK0 sl sx) from ⟨zR_call (rest := []) 15 q106.1 (fun n => (if_neg g1).trans ((if_neg g2).trans ((if_neg g4).trans ((if_pos g7).trans ((if_pos g8).trans rfl))))) w106.1, w106.2⟩
            obtain ⟨rfl, rfl⟩ := zrI h
            exact ⟨zR_ret 2 (rfl), rfl⟩
          · obtain ⟨rfl, rfl⟩ := zrI h
            exact ⟨zR_ret 18 ((if_neg g1).trans ((if_neg g2).trans ((if_neg g4).trans ((if_pos g7).trans ((if_neg g8).trans rfl))))), rfl⟩
        · rcases zit h with ⟨g9, h⟩ | ⟨g9, h⟩
          · rcases zit h with ⟨g10, h⟩ | ⟨g10, h⟩
            · obtain ⟨rfl, rfl⟩ := zrI h
              exact ⟨zR_ret 33 ((if_neg g1).trans ((if_neg g2).trans ((if_neg g4).trans ((if_neg g7).trans ((if_pos g9).trans ((if_pos g10).trans rfl)))))), rfl⟩
            · obtain ⟨rfl, rfl⟩ := zrI h
              exact ⟨zR_ret 21 ((if_neg g1).trans ((if_neg g2).trans ((if_neg g4).trans ((if_neg g7).trans ((if_pos g9).trans ((if_neg g10).trans rfl)))))), rfl⟩
          · rcases zit h with ⟨g11, h⟩ | ⟨g11, h⟩
            · rcases zit h with ⟨g12, h⟩ | ⟨g12, h⟩
              · obtain ⟨rfl, rfl⟩ := zrI h
                exact ⟨zR_ret 25 ((if_neg g1).trans ((if_neg g2).trans ((if_neg g4).trans ((if_neg g7).trans ((if_neg g9).trans ((if_pos g11).trans ((if_pos g12).trans rfl))))))), rfl⟩
              · obtain ⟨rfl, rfl⟩ := zrI h
                exact ⟨zR_ret 24 ((if_neg g1).trans ((if_neg g2).trans ((if_neg g4).trans ((if_neg g7).trans ((if_neg g9).trans ((if_pos g11).trans ((if_neg g12).trans rfl))))))), rfl⟩
            · rcases zit h with ⟨g13, h⟩ | ⟨g13, h⟩
              · obtain ⟨rfl, rfl⟩ := zrI h
                exact ⟨zR_ret 23 ((if_neg g1).trans ((if_neg g2).trans ((if_neg g4).trans ((if_neg g7).trans ((if_neg g9).trans ((if_neg g11).trans ((if_pos g13).trans rfl))))))), rfl⟩
              · obtain ⟨rfl, rfl⟩ := zrI h
                exact ⟨zR_ret 22 ((if_neg g1).trans ((if_neg g2).trans ((if_neg g4).trans ((if_neg g7).trans ((if_neg g9).trans ((if_neg g11).trans ((if_neg g13).trans rfl))))))), rfl⟩
