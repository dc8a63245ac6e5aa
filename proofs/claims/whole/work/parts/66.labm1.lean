set_option maxRecDepth 20000 in
theorem L_Mo_laysSeen_14 {N d sl : Nat} {sx : Nat → Int} : ∀ {n : Nat} {a0 : Nat} {x1 : Int} {x2 : Int} {x3 : Int} {M : ZM} {M' : ZM}, Mo_laysSeen_14 N n a0 x1 x2 x3 M = some M' → mK M = zK0 sl sx → zLV (d + 0) tb_X13_laysSeen 14 [some (vR 11 (some a0)), some (vI x1), some (vI x2), some (vI x3)] [] M M' (zK0 sl sx) := by
  intro n
  induction n with
  | zero => intros; rename_i h _; cases h
  | succ n ih =>
    intro a0 x1 x2 x3 M M' h hK
    obtain ⟨I0, L0, ⟨ra0, rb0, rc0, rd0⟩, K0, c0⟩ := M
    obtain rfl : K0 = zK0 sl sx := hK
    rcases zit h with ⟨g1, h⟩ | ⟨g1, h⟩
    · obtain ⟨g2, h⟩ := zIx h
      obtain ⟨g3, h⟩ := zIx h
      replace h := zWx h
      obtain ⟨g4, h⟩ := zIx h
      obtain ⟨g5, h⟩ := zIx h
      replace h := zWx h
      replace h := zWx h
      have q := ih h rfl
      exact ⟨zR_go 37 q.1 (fun n => (if_pos g1).trans ((if_pos g2).trans ((if_pos g3).trans ((if_pos g4).trans ((if_pos g5).trans rfl))))), q.2⟩
    · obtain rfl := zrV h
      exact ⟨zR_ret 4 ((if_neg g1).trans rfl), rfl⟩
set_option maxRecDepth 20000 in
theorem L_Mo_laysSeen {N d sl : Nat} {sx : Nat → Int} {a0 : Nat} {x1 : Int} {x2 : Int} {M : ZM} {M' : ZM} (h : Mo_laysSeen N a0 x1 x2 M = some M') (hK : mK M = zK0 sl sx) : zLV (d + 0) tb_X13_laysSeen 0 [some (vR 11 (some a0)), some (vI x1), some (vI x2), none] [] M M' (zK0 sl sx) := by
  obtain ⟨I0, L0, ⟨ra0, rb0, rc0, rd0⟩, K0, c0⟩ := M
  obtain rfl : K0 = zK0 sl sx := hK
  obtain ⟨g1, h⟩ := zIx h
  obtain ⟨g2, h⟩ := zIx h
  replace h := zWx h
  have q := L_Mo_laysSeen_14 (d := d) h rfl
  exact ⟨zR_go 10 q.1 (fun n => (if_pos g1).trans ((if_pos g2).trans rfl)), q.2⟩
set_option maxRecDepth 20000 in
theorem L_Mo_park_46 {N d sl : Nat} {sx : Nat → Int} : ∀ {n : Nat} {a0 : Nat} {x1 : Int} {M : ZM} {x : Int} {M' : ZM}, Mo_park_46 N n a0 x1 M = some (x, M') → mK M = zK0 sl sx → zLI (d + 7) tb_X13_park 46 [some (vR 11 (some a0)), some (vI x1)] [] M x M' (zK0 sl sx) := by
  intro n
  induction n with
  | zero => intros; rename_i h _; cases h
  | succ n ih =>
    intro a0 x1 M x M' h hK
    obtain ⟨I0, L0, ⟨ra0, rb0, rc0, rd0⟩, K0, c0⟩ := M
    obtain rfl : K0 = zK0 sl sx := hK
    rcases zit h with ⟨g1, h⟩ | ⟨g1, h⟩
    · obtain ⟨g2, h⟩ := zIx h
      replace h := zWx h
      replace h := zWx h
      have q := ih h rfl
      exact ⟨zR_go 10 q.1 (fun n => (if_pos g1).trans ((if_pos g2).trans rfl)), q.2⟩
    · obtain ⟨rfl, rfl⟩ := zrI h
      exact ⟨zR_ret 5 ((if_neg g1).trans rfl), rfl⟩
set_option maxRecDepth 20000 in
theorem L_Mo_park {N d sl : Nat} {sx : Nat → Int} {a0 : Nat} {M : ZM} {x : Int} {M' : ZM} (h : Mo_park N a0 M = some (x, M')) (hK : mK M = zK0 sl sx) : zLI (d + 7) tb_X13_park 0 [some (vR 11 (some a0)), none] [] M x M' (zK0 sl sx) := by
  obtain ⟨I0, L0, ⟨ra0, rb0, rc0, rd0⟩, K0, c0⟩ := M
  obtain rfl : K0 = zK0 sl sx := hK
  replace h := zWx h
  obtain ⟨v102, M102, f102, h⟩ := zBx h
  have q102 := L_Mo_readsAll (d := d) f102 rfl
  obtain ⟨I102, L102, ⟨ra102, rb102, rc102, rd102⟩, K102, c102⟩ := M102
  obtain rfl : K102 = zK0 sl sx := q102.2
  suffices w102 : zLI (d + 7) tb_X13_park 9 [some (vR 11 (some a0)), none] [vI v102] (I102, L102, (ra102, rb102, rc102, rd102), zK0 sl sx, c102) x M' (zK0 sl sx) from ⟨zR_call (rest := []) 5 q102.1 (fun n => rfl) w102.1, w102.2⟩
  rcases zit h with ⟨g1, h⟩ | ⟨g1, h⟩
  · obtain ⟨rfl, rfl⟩ := zrI h
    exact ⟨zR_ret 4 ((if_pos g1).trans rfl), rfl⟩
  · obtain ⟨M103, f103, h⟩ := zBvx h
    have q103 := L_Mo_lays (d := (d + 5)) f103 rfl
    obtain ⟨I103, L103, ⟨ra103, rb103, rc103, rd103⟩, K103, c103⟩ := M103
    obtain rfl : K103 = zK0 sl sx := q103.2
    suffices w103 : zLI (d + 7) tb_X13_park 21 [some (vR 11 (some a0)), none] [] (I103, L103, (ra103, rb103, rc103, rd103), zK0 sl sx, c103) x M' (zK0 sl sx) from ⟨zR_call (rest := []) 3 q103.1 (fun n => (if_neg g1).trans rfl) w103.1, w103.2⟩
    obtain ⟨M104, f104, h⟩ := zBvx h
    have q104 := L_Mo_fresh0 (d := (d + 6)) f104 rfl
    obtain ⟨I104, L104, ⟨ra104, rb104, rc104, rd104⟩, K104, c104⟩ := M104
    obtain rfl : K104 = zK0 sl sx := q104.2
    suffices w104 : zLI (d + 7) tb_X13_park 25 [some (vR 11 (some a0)), none] [] (I104, L104, (ra104, rb104, rc104, rd104), zK0 sl sx, c104) x M' (zK0 sl sx) from ⟨zR_call (rest := []) 2 q104.1 (fun n => rfl) w104.1, w104.2⟩
    replace h := zWx h
    replace h := zWx h
    replace h := zWx h
    have q := L_Mo_park_46 (d := d) h rfl
    exact ⟨zR_go 15 q.1 (fun n => rfl), q.2⟩
set_option maxRecDepth 20000 in
theorem L_Mo_day_16 {N d sl : Nat} {sx : Nat → Int} : ∀ {n : Nat} {a0 : Nat} {M : ZM} {x : Int} {M' : ZM}, Mo_day_16 N n a0 M = some (x, M') → mK M = zK0 sl sx → zLI (d + 4) tb_X13_day 16 [some (vR 11 (some a0))] [] M x M' (zK0 sl sx) := by
  intro n
  induction n with
  | zero => intros; rename_i h _; cases h
  | succ n ih =>
    intro a0 M x M' h hK
    obtain ⟨I0, L0, ⟨ra0, rb0, rc0, rd0⟩, K0, c0⟩ := M
    obtain rfl : K0 = zK0 sl sx := hK
    rcases zit h with ⟨g1, h⟩ | ⟨g1, h⟩
    · obtain ⟨M101, f101, h⟩ := zBvx h
      have q101 := L_Mo_laysLines (d := (d + 3)) f101 rfl
      obtain ⟨I101, L101, ⟨ra101, rb101, rc101, rd101⟩, K101, c101⟩ := M101
      obtain rfl : K101 = zK0 sl sx := q101.2
      suffices w101 : zLI (d + 4) tb_X13_day 41 [some (vR 11 (some a0))] [] (I101, L101, (ra101, rb101, rc101, rd101), zK0 sl sx, c101) x M' (zK0 sl sx) from ⟨zR_call (rest := []) 7 q101.1 (fun n => (if_pos g1).trans rfl) w101.1, w101.2⟩
      obtain ⟨rfl, rfl⟩ := zrI h
      exact ⟨zR_ret 2 (rfl), rfl⟩
    · obtain ⟨v102, M102, f102, h⟩ := zBx h
      have q102 := L_Mo_readsLine (d := d) f102 rfl
      obtain ⟨I102, L102, ⟨ra102, rb102, rc102, rd102⟩, K102, c102⟩ := M102
      obtain rfl : K102 = zK0 sl sx := q102.2
      suffices w102 : zLI (d + 4) tb_X13_day 27 [some (vR 11 (some a0))] [vI v102] (I102, L102, (ra102, rb102, rc102, rd102), zK0 sl sx, c102) x M' (zK0 sl sx) from ⟨zR_call (rest := []) 5 q102.1 (fun n => (if_neg g1).trans rfl) w102.1, w102.2⟩
      rcases zit h with ⟨g2, h⟩ | ⟨g2, h⟩
      · obtain ⟨rfl, rfl⟩ := zrI h
        exact ⟨zR_ret 4 ((if_pos g2).trans rfl), rfl⟩
      · have q := ih h rfl
        exact ⟨zR_go 1 q.1 (fun n => (if_neg g2).trans rfl), q.2⟩
set_option maxRecDepth 20000 in
theorem L_Mo_day {N d sl : Nat} {sx : Nat → Int} {a0 : Nat} {M : ZM} {x : Int} {M' : ZM} (h : Mo_day N a0 M = some (x, M')) (hK : mK M = zK0 sl sx) : zLI (d + 4) tb_X13_day 0 [some (vR 11 (some a0))] [] M x M' (zK0 sl sx) := by
  obtain ⟨I0, L0, ⟨ra0, rb0, rc0, rd0⟩, K0, c0⟩ := M
  obtain rfl : K0 = zK0 sl sx := hK
  replace h := zWx h
  replace h := zWx h
  obtain ⟨M103, f103, h⟩ := zBvx h
  have q103 := L_Mo_begins (d := (d + 1)) f103 rfl
  obtain ⟨I103, L103, ⟨ra103, rb103, rc103, rd103⟩, K103, c103⟩ := M103
  obtain rfl : K103 = zK0 sl sx := q103.2
  suffices w103 : zLI (d + 4) tb_X13_day 16 [some (vR 11 (some a0))] [] (I103, L103, (ra103, rb103, rc103, rd103), zK0 sl sx, c103) x M' (zK0 sl sx) from ⟨zR_call (rest := []) 10 q103.1 (fun n => rfl) w103.1, w103.2⟩
  have q := L_Mo_day_16 (d := d) h rfl
  exact ⟨q.1, q.2⟩
set_option maxRecDepth 20000 in
theorem L_Mo_isTurbine {N d sl : Nat} {sx : Nat → Int} {a0 : Nat} {x1 : Int} {M : ZM} {x : Int} {M' : ZM} (h : Mo_isTurbine N a0 x1 M = some (x, M')) (hK : mK M = zK0 sl sx) : zLI (d + 0) tb_X13_isTurbine 0 [some (vR 11 (some a0)), some (vI x1)] [] M x M' (zK0 sl sx) := by
  obtain ⟨I0, L0, ⟨ra0, rb0, rc0, rd0⟩, K0, c0⟩ := M
  obtain rfl : K0 = zK0 sl sx := hK
  rcases zit h with ⟨g1, h⟩ | ⟨g1, h⟩
  · obtain ⟨rfl, rfl⟩ := zrI h
    exact ⟨zR_ret 4 ((if_pos g1).trans rfl), rfl⟩
  · rcases zit h with ⟨g2, h⟩ | ⟨g2, h⟩
    · obtain ⟨rfl, rfl⟩ := zrI h
      exact ⟨zR_ret 11 ((if_neg g1).trans ((if_pos g2).trans rfl)), rfl⟩
    · obtain ⟨rfl, rfl⟩ := zrI h
      exact ⟨zR_ret 10 ((if_neg g1).trans ((if_neg g2).trans rfl)), rfl⟩
set_option maxRecDepth 20000 in
theorem L_Mo_rowOf {N d sl : Nat} {sx : Nat → Int} {a0 : Nat} {x1 : Int} {x2 : Int} {M : ZM} {x : Int} {M' : ZM} (h : Mo_rowOf N a0 x1 x2 M = some (x, M')) (hK : mK M = zK0 sl sx) : zLI (d + 0) tb_X13_rowOf 0 [some (vR 11 (some a0)), some (vI x1), some (vI x2)] [] M x M' (zK0 sl sx) := by
  obtain ⟨I0, L0, ⟨ra0, rb0, rc0, rd0⟩, K0, c0⟩ := M
  obtain rfl : K0 = zK0 sl sx := hK
  obtain ⟨g1, h⟩ := zIx h
  rcases zit h with ⟨g2, h⟩ | ⟨g2, h⟩
  · obtain ⟨rfl, rfl⟩ := zrI h
    exact ⟨zR_ret 8 ((if_pos g1).trans ((if_pos g2).trans rfl)), rfl⟩
  · obtain ⟨g3, h⟩ := zIx h
    obtain ⟨g4, h⟩ := zgn h
    obtain ⟨g5, h⟩ := zIx h
    obtain ⟨rfl, rfl⟩ := zrI h
    exact ⟨zR_ret 24 ((if_pos g1).trans ((if_neg g2).trans ((if_pos g3).trans ((if_neg g4).trans ((if_pos g5).trans rfl))))), rfl⟩
set_option maxRecDepth 20000 in
theorem L_Mo_priceNow {N d sl : Nat} {sx : Nat → Int} {a0 : Nat} {M : ZM} {x : Int} {M' : ZM} (h : Mo_priceNow N a0 M = some (x, M')) (hK : mK M = zK0 sl sx) : zLI (d + 1) tb_X13_priceNow 0 [some (vR 11 (some a0))] [] M x M' (zK0 sl sx) := by
  obtain ⟨I0, L0, ⟨ra0, rb0, rc0, rd0⟩, K0, c0⟩ := M
  obtain rfl : K0 = zK0 sl sx := hK
  obtain ⟨v101, M101, f101, h⟩ := zBx h
  have q101 := L_Mo_rowOf (d := d) f101 rfl
  obtain ⟨I101, L101, ⟨ra101, rb101, rc101, rd101⟩, K101, c101⟩ := M101
  obtain rfl : K101 = zK0 sl sx := q101.2
  suffices w101 : zLI (d + 1) tb_X13_priceNow 7 [some (vR 11 (some a0))] [vI v101] (I101, L101, (ra101, rb101, rc101, rd101), zK0 sl sx, c101) x M' (zK0 sl sx) from ⟨zR_call (rest := []) 4 q101.1 (fun n => rfl) w101.1, w101.2⟩
  obtain ⟨rfl, rfl⟩ := zrI h
  exact ⟨zR_ret 3 (rfl), rfl⟩
set_option maxRecDepth 20000 in
theorem L_Mo_isShut {N d sl : Nat} {sx : Nat → Int} {a0 : Nat} {x1 : Int} {M : ZM} {x : Int} {M' : ZM} (h : Mo_isShut N a0 x1 M = some (x, M')) (hK : mK M = zK0 sl sx) : zLI (d + 0) tb_X13_isShut 0 [some (vR 11 (some a0)), some (vI x1)] [] M x M' (zK0 sl sx) := by
  obtain ⟨I0, L0, ⟨ra0, rb0, rc0, rd0⟩, K0, c0⟩ := M
  obtain rfl : K0 = zK0 sl sx := hK
  rcases zit h with ⟨g1, h⟩ | ⟨g1, h⟩
  · obtain ⟨rfl, rfl⟩ := zrI h
    exact ⟨zR_ret 13 ((if_pos g1).trans rfl), rfl⟩
  · obtain ⟨rfl, rfl⟩ := zrI h
    exact ⟨zR_ret 12 ((if_neg g1).trans rfl), rfl⟩
set_option maxRecDepth 20000 in
theorem L_Mo_isBroken {N d sl : Nat} {sx : Nat → Int} {a0 : Nat} {x1 : Int} {M : ZM} {x : Int} {M' : ZM} (h : Mo_isBroken N a0 x1 M = some (x, M')) (hK : mK M = zK0 sl sx) : zLI (d + 0) tb_X13_isBroken 0 [some (vR 11 (some a0)), some (vI x1)] [] M x M' (zK0 sl sx) := by
  obtain ⟨I0, L0, ⟨ra0, rb0, rc0, rd0⟩, K0, c0⟩ := M
  obtain rfl : K0 = zK0 sl sx := hK
  rcases zit h with ⟨g1, h⟩ | ⟨g1, h⟩
  · obtain ⟨rfl, rfl⟩ := zrI h
    exact ⟨zR_ret 13 ((if_pos g1).trans rfl), rfl⟩
  · obtain ⟨rfl, rfl⟩ := zrI h
    exact ⟨zR_ret 12 ((if_neg g1).trans rfl), rfl⟩
set_option maxRecDepth 20000 in
theorem L_Mo_runs {N d sl : Nat} {sx : Nat → Int} {a0 : Nat} {x1 : Int} {M : ZM} {x : Int} {M' : ZM} (h : Mo_runs N a0 x1 M = some (x, M')) (hK : mK M = zK0 sl sx) : zLI (d + 1) tb_X13_runs 0 [some (vR 11 (some a0)), some (vI x1)] [] M x M' (zK0 sl sx) := by
  obtain ⟨I0, L0, ⟨ra0, rb0, rc0, rd0⟩, K0, c0⟩ := M
  obtain rfl : K0 = zK0 sl sx := hK
  obtain ⟨v101, M101, f101, h⟩ := zBx h
  have q101 := L_Mo_isShut (d := d) f101 rfl
  obtain ⟨I101, L101, ⟨ra101, rb101, rc101, rd101⟩, K101, c101⟩ := M101
  obtain rfl : K101 = zK0 sl sx := q101.2
  suffices w101 : zLI (d + 1) tb_X13_runs 5 [some (vR 11 (some a0)), some (vI x1)] [vI v101] (I101, L101, (ra101, rb101, rc101, rd101), zK0 sl sx, c101) x M' (zK0 sl sx) from ⟨zR_call (rest := []) 3 q101.1 (fun n => rfl) w101.1, w101.2⟩
  rcases zit h with ⟨g1, h⟩ | ⟨g1, h⟩
  · obtain ⟨v102, M102, f102, h⟩ := zBx h
    have q102 := L_Mo_isBroken (d := d) f102 rfl
    obtain ⟨I102, L102, ⟨ra102, rb102, rc102, rd102⟩, K102, c102⟩ := M102
    obtain rfl : K102 = zK0 sl sx := q102.2
    suffices w102 : zLI (d + 1) tb_X13_runs 13 [some (vR 11 (some a0)), some (vI x1)] [vI v102] (I102, L102, (ra102, rb102, rc102, rd102), zK0 sl sx, c102) x M' (zK0 sl sx) from ⟨zR_call (rest := []) 4 q102.1 (fun n => (if_pos g1).trans rfl) w102.1, w102.2⟩
    rcases zit h with ⟨g2, h⟩ | ⟨g2, h⟩
    · obtain ⟨rfl, rfl⟩ := zrI h
      exact ⟨zR_ret 4 ((if_pos g2).trans rfl), rfl⟩
    · obtain ⟨rfl, rfl⟩ := zrI h
      exact ⟨zR_ret 3 ((if_neg g2).trans rfl), rfl⟩
  · obtain ⟨rfl, rfl⟩ := zrI h
    exact ⟨zR_ret 3 ((if_neg g1).trans rfl), rfl⟩
set_option maxRecDepth 20000 in
theorem L_Mo_turnedOf {N d sl : Nat} {sx : Nat → Int} {a0 : Nat} {x1 : Int} {M : ZM} {x : Int} {M' : ZM} (h : Mo_turnedOf N a0 x1 M = some (x, M')) (hK : mK M = zK0 sl sx) : zLI (d + 0) tb_X13_turnedOf 0 [some (vR 11 (some a0)), some (vI x1)] [] M x M' (zK0 sl sx) := by
  obtain ⟨I0, L0, ⟨ra0, rb0, rc0, rd0⟩, K0, c0⟩ := M
  obtain rfl : K0 = zK0 sl sx := hK
  obtain ⟨g1, h⟩ := zIx h
  obtain ⟨rfl, rfl⟩ := zrI h
  exact ⟨zR_ret 10 ((if_pos g1).trans rfl), rfl⟩
set_option maxRecDepth 20000 in
theorem L_Mo_looks {N d sl : Nat} {sx : Nat → Int} {a0 : Nat} {M : ZM} {M' : ZM} (h : Mo_looks N a0 M = some M') (hK : mK M = zK0 sl sx) : zLV (d + 1) tb_X13_looks 0 [some (vR 11 (some a0))] [] M M' (zK0 sl sx) := by
  obtain ⟨I0, L0, ⟨ra0, rb0, rc0, rd0⟩, K0, c0⟩ := M
  obtain rfl : K0 = zK0 sl sx := hK
  obtain ⟨v101, M101, f101, h⟩ := zBx h
  have q101 := L_Mo_rowOf (d := d) f101 rfl
  obtain ⟨I101, L101, ⟨ra101, rb101, rc101, rd101⟩, K101, c101⟩ := M101
  obtain rfl : K101 = zK0 sl sx := q101.2
  suffices w101 : zLV (d + 1) tb_X13_looks 8 [some (vR 11 (some a0))] [vI v101, vR 11 (some a0)] (I101, L101, (ra101, rb101, rc101, rd101), zK0 sl sx, c101) M' (zK0 sl sx) from ⟨zR_call (rest := [vR 11 (some a0)]) 5 q101.1 (fun n => rfl) w101.1, w101.2⟩
  replace h := zWx h
  obtain ⟨v103, M103, f103, h⟩ := zBx h
  have q103 := L_Mo_rowOf (d := d) f103 rfl
  obtain ⟨I103, L103, ⟨ra103, rb103, rc103, rd103⟩, K103, c103⟩ := M103
  obtain rfl : K103 = zK0 sl sx := q103.2
  suffices w103 : zLV (d + 1) tb_X13_looks 18 [some (vR 11 (some a0))] [vI v103, vR 11 (some a0)] (I103, L103, (ra103, rb103, rc103, rd103), zK0 sl sx, c103) M' (zK0 sl sx) from ⟨zR_call (rest := [vR 11 (some a0)]) 6 q103.1 (fun n => rfl) w103.1, w103.2⟩
  replace h := zWx h
  obtain rfl := zrV h
  exact ⟨zR_ret 2 (rfl), rfl⟩
set_option maxRecDepth 20000 in
theorem L_Mo_behind_120 {N d sl : Nat} {sx : Nat → Int} {x6 : Int} {y0 : Int} {y1 : Int} {M : ZM} {x : Int} {M' : ZM} (h : Mo_behind_120 N x6 y0 y1 M = some (x, M')) (hK : mK M = zK0 sl sx) : zLI (d + 1) tb_X13_behind 120 [none, none, none, none, none, none, some (vI x6), none] [vI y1, vI y0] M x M' (zK0 sl sx) := by
  obtain ⟨I0, L0, ⟨ra0, rb0, rc0, rd0⟩, K0, c0⟩ := M
  obtain rfl : K0 = zK0 sl sx := hK
  replace h := zWx h
  obtain ⟨v102, M102, f102, h⟩ := zBx h
  have q102 := L_Mo_within (d := d) f102 rfl
  obtain ⟨I102, L102, ⟨ra102, rb102, rc102, rd102⟩, K102, c102⟩ := M102
  obtain rfl : K102 = zK0 sl sx := q102.2
  suffices w102 : zLI (d + 1) tb_X13_behind 130 [none, none, none, none, none, none, some (vI x6), some (vI (z32 (y0 + y1)))] [vI v102] (I102, L102, (ra102, rb102, rc102, rd102), zK0 sl sx, c102) x M' (zK0 sl sx) from ⟨zR_call (rest := []) 6 q102.1 (fun n => rfl) w102.1, w102.2⟩
  rcases zit h with ⟨g1, h⟩ | ⟨g1, h⟩
  · obtain ⟨rfl, rfl⟩ := zrI h
    exact ⟨zR_ret 3 ((if_pos g1).trans rfl), rfl⟩
  · obtain ⟨v103, M103, f103, h⟩ := zBx h
    have q103 := L_Mo_within (d := d) f103 rfl
    obtain ⟨I103, L103, ⟨ra103, rb103, rc103, rd103⟩, K103, c103⟩ := M103
    obtain rfl : K103 = zK0 sl sx := q103.2
    suffices w103 : zLI (d + 1) tb_X13_behind 140 [none, none, none, none, none, none, some (vI x6), some (vI (z32 (y0 + y1)))] [vI v103] (I103, L103, (ra103, rb103, rc103, rd103), zK0 sl sx, c103) x M' (zK0 sl sx) from ⟨zR_call (rest := []) 5 q103.1 (fun n => (if_neg g1).trans rfl) w103.1, w103.2⟩
    rcases zit h with ⟨g2, h⟩ | ⟨g2, h⟩
    · obtain ⟨rfl, rfl⟩ := zrI h
      exact ⟨zR_ret 3 ((if_pos g2).trans rfl), rfl⟩
    · obtain ⟨rfl, rfl⟩ := zrI h
      exact ⟨zR_ret 8 ((if_neg g2).trans rfl), rfl⟩
set_option maxRecDepth 20000 in
theorem L_Mo_behind_92 {N d sl : Nat} {sx : Nat → Int} {a0 : Nat} {x1 : Int} {x4 : Int} {x5 : Int} {y0 : Int} {y1 : Int} {M : ZM} {x : Int} {M' : ZM} (h : Mo_behind_92 N a0 x1 x4 x5 y0 y1 M = some (x, M')) (hK : mK M = zK0 sl sx) : zLI (d + 1) tb_X13_behind 92 [some (vR 11 (some a0)), some (vI x1), none, none, some (vI x4), some (vI x5), none, none] [vI y1, vI y0] M x M' (zK0 sl sx) := by
  obtain ⟨I0, L0, ⟨ra0, rb0, rc0, rd0⟩, K0, c0⟩ := M
  obtain rfl : K0 = zK0 sl sx := hK
  replace h := zWx h
  obtain ⟨g1, h⟩ := zIx h
  rcases zit h with ⟨g2, h⟩ | ⟨g2, h⟩
  · have q := L_Mo_behind_120 (d := d) h rfl
    exact ⟨zR_go 15 (zR_up (ls' := [some (vR 11 (some a0)), some (vI x1), none, none, some (vI x4), some (vI x5), some (vI (z32 (y0 + y1))), none]) q.1 ⟨.inl rfl, .inl rfl, .inr rfl, .inr rfl, .inl rfl, .inl rfl, .inr rfl, .inr rfl, trivial⟩) (fun n => (if_pos g1).trans ((if_pos g2).trans rfl)), q.2⟩
  · have q := L_Mo_behind_120 (d := d) h rfl
    exact ⟨zR_go 14 (zR_up (ls' := [some (vR 11 (some a0)), some (vI x1), none, none, some (vI x4), some (vI x5), some (vI (z32 (y0 + y1))), none]) q.1 ⟨.inl rfl, .inl rfl, .inr rfl, .inr rfl, .inl rfl, .inl rfl, .inr rfl, .inr rfl, trivial⟩) (fun n => (if_pos g1).trans ((if_neg g2).trans rfl)), q.2⟩
set_option maxRecDepth 20000 in
theorem L_Mo_behind_65 {N d sl : Nat} {sx : Nat → Int} {a0 : Nat} {x1 : Int} {x4 : Int} {y0 : Int} {M : ZM} {x : Int} {M' : ZM} (h : Mo_behind_65 N a0 x1 x4 y0 M = some (x, M')) (hK : mK M = zK0 sl sx) : zLI (d + 1) tb_X13_behind 65 [some (vR 11 (some a0)), some (vI x1), none, none, some (vI x4), none, none, none] [vI y0] M x M' (zK0 sl sx) := by
  obtain ⟨I0, L0, ⟨ra0, rb0, rc0, rd0⟩, K0, c0⟩ := M
  obtain rfl : K0 = zK0 sl sx := hK
  obtain ⟨g1, h⟩ := zIx h
  rcases zit h with ⟨g2, h⟩ | ⟨g2, h⟩
  · have q := L_Mo_behind_92 (d := d) h rfl
    exact ⟨zR_go 14 q.1 (fun n => (if_pos g1).trans ((if_pos g2).trans rfl)), q.2⟩
  · have q := L_Mo_behind_92 (d := d) h rfl
    exact ⟨zR_go 13 q.1 (fun n => (if_pos g1).trans ((if_neg g2).trans rfl)), q.2⟩
set_option maxRecDepth 20000 in
theorem L_Mo_behind_42 {N d sl : Nat} {sx : Nat → Int} {a0 : Nat} {x1 : Int} {x2 : Int} {y0 : Int} {M : ZM} {x : Int} {M' : ZM} (h : Mo_behind_42 N a0 x1 x2 y0 M = some (x, M')) (hK : mK M = zK0 sl sx) : zLI (d + 1) tb_X13_behind 42 [some (vR 11 (some a0)), some (vI x1), some (vI x2), none, none, none, none, none] [vI y0] M x M' (zK0 sl sx) := by
  obtain ⟨I0, L0, ⟨ra0, rb0, rc0, rd0⟩, K0, c0⟩ := M
  obtain rfl : K0 = zK0 sl sx := hK
  rcases zit h with ⟨g1, h⟩ | ⟨g1, h⟩
  · have q := L_Mo_behind_65 (d := d) h rfl
    exact ⟨zR_go 6 (zR_up (ls' := [some (vR 11 (some a0)), some (vI x1), some (vI x2), none, some (vI y0), none, none, none]) q.1 ⟨.inr rfl, .inr rfl, .inl rfl, .inr rfl, .inr rfl, .inr rfl, .inr rfl, .inr rfl, trivial⟩) (fun n => (if_pos g1).trans rfl), q.2⟩
  · rcases zit h with ⟨g2, h⟩ | ⟨g2, h⟩
    · have q := L_Mo_behind_65 (d := d) h rfl
      exact ⟨zR_go 10 (zR_up (ls' := [some (vR 11 (some a0)), some (vI x1), some (vI x2), none, some (vI y0), none, none, none]) q.1 ⟨.inr rfl, .inr rfl, .inl rfl, .inr rfl, .inr rfl, .inr rfl, .inr rfl, .inr rfl, trivial⟩) (fun n => (if_neg g1).trans ((if_pos g2).trans rfl)), q.2⟩
    · have q := L_Mo_behind_65 (d := d) h rfl
      exact ⟨zR_go 10 (zR_up (ls' := [some (vR 11 (some a0)), some (vI x1), some (vI x2), none, some (vI y0), none, none, none]) q.1 ⟨.inr rfl, .inr rfl, .inl rfl, .inr rfl, .inr rfl, .inr rfl, .inr rfl, .inr rfl, trivial⟩) (fun n => (if_neg g1).trans ((if_neg g2).trans rfl)), q.2⟩
set_option maxRecDepth 20000 in
theorem L_Mo_behind_21 {N d sl : Nat} {sx : Nat → Int} {a0 : Nat} {x1 : Int} {x2 : Int} {M : ZM} {x : Int} {M' : ZM} (h : Mo_behind_21 N a0 x1 x2 M = some (x, M')) (hK : mK M = zK0 sl sx) : zLI (d + 1) tb_X13_behind 21 [some (vR 11 (some a0)), some (vI x1), some (vI x2), none, none, none, none, none] [] M x M' (zK0 sl sx) := by
  obtain ⟨I0, L0, ⟨ra0, rb0, rc0, rd0⟩, K0, c0⟩ := M
  obtain rfl : K0 = zK0 sl sx := hK
  obtain ⟨g1, h⟩ := zIx h
  rcases zit h with ⟨g2, h⟩ | ⟨g2, h⟩
  · have q := L_Mo_behind_42 (d := d) h rfl
    exact ⟨zR_go 10 q.1 (fun n => (if_pos g1).trans ((if_pos g2).trans rfl)), q.2⟩
  · have q := L_Mo_behind_42 (d := d) h rfl
    exact ⟨zR_go 10 q.1 (fun n => (if_pos g1).trans ((if_neg g2).trans rfl)), q.2⟩
set_option maxRecDepth 20000 in
theorem L_Mo_behind {N d sl : Nat} {sx : Nat → Int} {a0 : Nat} {x1 : Int} {x2 : Int} {M : ZM} {x : Int} {M' : ZM} (h : Mo_behind N a0 x1 x2 M = some (x, M')) (hK : mK M = zK0 sl sx) : zLI (d + 1) tb_X13_behind 0 [some (vR 11 (some a0)), some (vI x1), some (vI x2), none, none, none, none, none] [] M x M' (zK0 sl sx) := by
  obtain ⟨I0, L0, ⟨ra0, rb0, rc0, rd0⟩, K0, c0⟩ := M
  obtain rfl : K0 = zK0 sl sx := hK
  obtain ⟨v101, M101, f101, h⟩ := zBx h
  have q101 := L_Mo_turnedOf (d := d) f101 rfl
  obtain ⟨I101, L101, ⟨ra101, rb101, rc101, rd101⟩, K101, c101⟩ := M101
  obtain rfl : K101 = zK0 sl sx := q101.2
  suffices w101 : zLI (d + 1) tb_X13_behind 5 [some (vR 11 (some a0)), some (vI x1), some (vI x2), none, none, none, none, none] [vI v101] (I101, L101, (ra101, rb101, rc101, rd101), zK0 sl sx, c101) x M' (zK0 sl sx) from ⟨zR_call (rest := []) 3 q101.1 (fun n => rfl) w101.1, w101.2⟩
  rcases zit h with ⟨g1, h⟩ | ⟨g1, h⟩
  · have q := L_Mo_behind_21 (d := d) h rfl
    exact ⟨zR_go 4 (zR_up (ls' := [some (vR 11 (some a0)), some (vI x1), some (vI x2), some (vI v101), none, none, none, none]) q.1 ⟨.inr rfl, .inr rfl, .inr rfl, .inl rfl, .inr rfl, .inr rfl, .inr rfl, .inr rfl, trivial⟩) (fun n => (if_pos g1).trans rfl), q.2⟩
  · rcases zit h with ⟨g2, h⟩ | ⟨g2, h⟩
    · rcases zit h with ⟨g3, h⟩ | ⟨g3, h⟩
      · have q := L_Mo_behind_21 (d := d) h rfl
        exact ⟨zR_go 10 (zR_up (ls' := [some (vR 11 (some a0)), some (vI x1), some (vI x2), some (vI v101), none, none, none, none]) q.1 ⟨.inr rfl, .inr rfl, .inr rfl, .inl rfl, .inr rfl, .inr rfl, .inr rfl, .inr rfl, trivial⟩) (fun n => (if_neg g1).trans ((if_pos g2).trans ((if_pos g3).trans rfl))), q.2⟩
      · have q := L_Mo_behind_42 (d := d) h rfl
        exact ⟨zR_go 11 (zR_up (ls' := [some (vR 11 (some a0)), some (vI x1), some (vI x2), some (vI v101), none, none, none, none]) q.1 ⟨.inr rfl, .inr rfl, .inr rfl, .inl rfl, .inr rfl, .inr rfl, .inr rfl, .inr rfl, trivial⟩) (fun n => (if_neg g1).trans ((if_pos g2).trans ((if_neg g3).trans rfl))), q.2⟩
    · have q := L_Mo_behind_42 (d := d) h rfl
      exact ⟨zR_go 8 (zR_up (ls' := [some (vR 11 (some a0)), some (vI x1), some (vI x2), some (vI v101), none, none, none, none]) q.1 ⟨.inr rfl, .inr rfl, .inr rfl, .inl rfl, .inr rfl, .inr rfl, .inr rfl, .inr rfl, trivial⟩) (fun n => (if_neg g1).trans ((if_neg g2).trans rfl)), q.2⟩
set_option maxRecDepth 20000 in
theorem L_Mo_takesOf_17 {N d sl : Nat} {sx : Nat → Int} : ∀ {n : Nat} {a0 : Nat} {x1 : Int} {x2 : Int} {x3 : Int} {M : ZM} {x : Int} {M' : ZM}, Mo_takesOf_17 N n a0 x1 x2 x3 M = some (x, M') → mK M = zK0 sl sx → zLI (d + 2) tb_X13_takesOf 17 [some (vR 11 (some a0)), some (vI x1), some (vI x2), some (vI x3)] [] M x M' (zK0 sl sx) := by
  intro n
  induction n with
  | zero => intros; rename_i h _; cases h
  | succ n ih =>
    intro a0 x1 x2 x3 M x M' h hK
    obtain ⟨I0, L0, ⟨ra0, rb0, rc0, rd0⟩, K0, c0⟩ := M
    obtain rfl : K0 = zK0 sl sx := hK
    rcases zit h with ⟨g1, h⟩ | ⟨g1, h⟩
    · obtain ⟨v101, M101, f101, h⟩ := zBx h
      have q101 := L_Mo_behind (d := d) f101 rfl
      obtain ⟨I101, L101, ⟨ra101, rb101, rc101, rd101⟩, K101, c101⟩ := M101
      obtain rfl : K101 = zK0 sl sx := q101.2
      suffices w101 : zLI (d + 2) tb_X13_takesOf 28 [some (vR 11 (some a0)), some (vI x1), some (vI x2), some (vI x3)] [vI v101] (I101, L101, (ra101, rb101, rc101, rd101), zK0 sl sx, c101) x M' (zK0 sl sx) from ⟨zR_call (rest := []) 7 q101.1 (fun n => (if_pos g1).trans rfl) w101.1, w101.2⟩
      obtain ⟨g2, h⟩ := zIx h
      rcases zit h with ⟨g3, h⟩ | ⟨g3, h⟩
      · obtain ⟨g4, h⟩ := zIx h
        obtain ⟨g5, h⟩ := zIx h
        rcases zit h with ⟨g6, h⟩ | ⟨g6, h⟩
        · obtain ⟨rfl, rfl⟩ := zrI h
          exact ⟨zR_ret 25 ((if_pos g2).trans ((if_pos g3).trans ((if_pos g4).trans ((if_pos g5).trans ((if_pos g6).trans rfl))))), rfl⟩
        · obtain ⟨rfl, rfl⟩ := zrI h
          exact ⟨zR_ret 24 ((if_pos g2).trans ((if_pos g3).trans ((if_pos g4).trans ((if_pos g5).trans ((if_neg g6).trans rfl))))), rfl⟩
      · replace h := zWx h
        have q := ih h rfl
        exact ⟨zR_go 7 q.1 (fun n => (if_pos g2).trans ((if_neg g3).trans rfl)), q.2⟩
    · obtain ⟨rfl, rfl⟩ := zrI h
      exact ⟨zR_ret 5 ((if_neg g1).trans rfl), rfl⟩
set_option maxRecDepth 20000 in
theorem L_Mo_takesOf {N d sl : Nat} {sx : Nat → Int} {a0 : Nat} {x1 : Int} {x2 : Int} {M : ZM} {x : Int} {M' : ZM} (h : Mo_takesOf N a0 x1 x2 M = some (x, M')) (hK : mK M = zK0 sl sx) : zLI (d + 2) tb_X13_takesOf 0 [some (vR 11 (some a0)), some (vI x1), some (vI x2), none] [] M x M' (zK0 sl sx) := by
  obtain ⟨I0, L0, ⟨ra0, rb0, rc0, rd0⟩, K0, c0⟩ := M
  obtain rfl : K0 = zK0 sl sx := hK
  rcases zit h with ⟨g1, h⟩ | ⟨g1, h⟩
  · obtain ⟨rfl, rfl⟩ := zrI h
    exact ⟨zR_ret 5 ((if_pos g1).trans rfl), rfl⟩
  · obtain ⟨v101, M101, f101, h⟩ := zBx h
    have q101 := L_Mo_runs (d := d) f101 rfl
    obtain ⟨I101, L101, ⟨ra101, rb101, rc101, rd101⟩, K101, c101⟩ := M101
    obtain rfl : K101 = zK0 sl sx := q101.2
    suffices w101 : zLI (d + 2) tb_X13_takesOf 10 [some (vR 11 (some a0)), some (vI x1), some (vI x2), none] [vI v101] (I101, L101, (ra101, rb101, rc101, rd101), zK0 sl sx, c101) x M' (zK0 sl sx) from ⟨zR_call (rest := []) 6 q101.1 (fun n => (if_neg g1).trans rfl) w101.1, w101.2⟩
    rcases zit h with ⟨g2, h⟩ | ⟨g2, h⟩
    · obtain ⟨rfl, rfl⟩ := zrI h
      exact ⟨zR_ret 3 ((if_pos g2).trans rfl), rfl⟩
    · have q := L_Mo_takesOf_17 (d := d) h rfl
      exact ⟨zR_go 3 q.1 (fun n => (if_neg g2).trans rfl), q.2⟩
set_option maxRecDepth 20000 in
theorem L_Mo_takenOf_4 {N d sl : Nat} {sx : Nat → Int} : ∀ {n : Nat} {a0 : Nat} {x1 : Int} {x2 : Int} {x3 : Int} {M : ZM} {x : Int} {M' : ZM}, Mo_takenOf_4 N n a0 x1 x2 x3 M = some (x, M') → mK M = zK0 sl sx → zLI (d + 3) tb_X13_takenOf 4 [some (vR 11 (some a0)), some (vI x1), some (vI x2), some (vI x3)] [] M x M' (zK0 sl sx) := by
  intro n
  induction n with
  | zero => intros; rename_i h _; cases h
  | succ n ih =>
    intro a0 x1 x2 x3 M x M' h hK
    obtain ⟨I0, L0, ⟨ra0, rb0, rc0, rd0⟩, K0, c0⟩ := M
    obtain rfl : K0 = zK0 sl sx := hK
    rcases zit h with ⟨g1, h⟩ | ⟨g1, h⟩
    · obtain ⟨v101, M101, f101, h⟩ := zBx h
      have q101 := L_Mo_takesOf (d := d) f101 rfl
      obtain ⟨I101, L101, ⟨ra101, rb101, rc101, rd101⟩, K101, c101⟩ := M101
      obtain rfl : K101 = zK0 sl sx := q101.2
      suffices w101 : zLI (d + 3) tb_X13_takenOf 21 [some (vR 11 (some a0)), some (vI x1), some (vI x2), some (vI x3)] [vI v101, vI x2] (I101, L101, (ra101, rb101, rc101, rd101), zK0 sl sx, c101) x M' (zK0 sl sx) from ⟨zR_call (rest := [vI x2]) 11 q101.1 (fun n => (if_pos g1).trans rfl) w101.1, w101.2⟩
      replace h := zWx h
      replace h := zWx h
      have q := ih h rfl
      exact ⟨zR_go 4 q.1 (fun n => rfl), q.2⟩
    · replace h := zWx h
      obtain ⟨g2, h⟩ := zIx h
      rcases zit h with ⟨g3, h⟩ | ⟨g3, h⟩
      · obtain ⟨rfl, rfl⟩ := zrI h
        exact ⟨zR_ret 23 ((if_neg g1).trans ((if_pos g2).trans ((if_pos g3).trans rfl))), rfl⟩
      · obtain ⟨rfl, rfl⟩ := zrI h
        exact ⟨zR_ret 18 ((if_neg g1).trans ((if_pos g2).trans ((if_neg g3).trans rfl))), rfl⟩
set_option maxRecDepth 20000 in
theorem L_Mo_takenOf {N d sl : Nat} {sx : Nat → Int} {a0 : Nat} {x1 : Int} {M : ZM} {x : Int} {M' : ZM} (h : Mo_takenOf N a0 x1 M = some (x, M')) (hK : mK M = zK0 sl sx) : zLI (d + 3) tb_X13_takenOf 0 [some (vR 11 (some a0)), some (vI x1), none, none] [] M x M' (zK0 sl sx) := by
  obtain ⟨I0, L0, ⟨ra0, rb0, rc0, rd0⟩, K0, c0⟩ := M
  obtain rfl : K0 = zK0 sl sx := hK
  have q := L_Mo_takenOf_4 (d := d) h rfl
  exact ⟨zR_go 4 q.1 (fun n => rfl), q.2⟩
set_option maxRecDepth 20000 in
theorem L_Mo_windOf {N d sl : Nat} {sx : Nat → Int} {a0 : Nat} {x1 : Int} {M : ZM} {x : Int} {M' : ZM} (h : Mo_windOf N a0 x1 M = some (x, M')) (hK : mK M = zK0 sl sx) : zLI (d + 4) tb_X13_windOf 0 [some (vR 11 (some a0)), some (vI x1)] [] M x M' (zK0 sl sx) := by
  obtain ⟨I0, L0, ⟨ra0, rb0, rc0, rd0⟩, K0, c0⟩ := M
  obtain rfl : K0 = zK0 sl sx := hK
  obtain ⟨v101, M101, f101, h⟩ := zBx h
  have q101 := L_Mo_takenOf (d := d) f101 rfl
  obtain ⟨I101, L101, ⟨ra101, rb101, rc101, rd101⟩, K101, c101⟩ := M101
  obtain rfl : K101 = zK0 sl sx := q101.2
  suffices w101 : zLI (d + 4) tb_X13_windOf 11 [some (vR 11 (some a0)), some (vI x1)] [vI v101, vI 10, vI (mI (I0, L0, (ra0, rb0, rc0, rd0), zK0 sl sx, c0) 11 a0 50)] (I101, L101, (ra101, rb101, rc101, rd101), zK0 sl sx, c101) x M' (zK0 sl sx) from ⟨zR_call (rest := [vI 10, vI (mI (I0, L0, (ra0, rb0, rc0, rd0), zK0 sl sx, c0) 11 a0 50)]) 6 q101.1 (fun n => rfl) w101.1, w101.2⟩
  obtain ⟨rfl, rfl⟩ := zrI h
  exact ⟨zR_ret 5 (rfl), rfl⟩
set_option maxRecDepth 20000 in
theorem L_Mo_powerOf_94 {N d sl : Nat} {sx : Nat → Int} {a0 : Nat} {x1 : Int} {x2 : Int} {M : ZM} {x : Int} {M' : ZM} (h : Mo_powerOf_94 N a0 x1 x2 M = some (x, M')) (hK : mK M = zK0 sl sx) : zLI (d + 5) tb_X13_powerOf 94 [some (vR 11 (some a0)), some (vI x1), some (vI x2)] [] M x M' (zK0 sl sx) := by
  obtain ⟨I0, L0, ⟨ra0, rb0, rc0, rd0⟩, K0, c0⟩ := M
  obtain rfl : K0 = zK0 sl sx := hK
  obtain ⟨v101, M101, f101, h⟩ := zBx h
  have q101 := L_Mo_between (d := (d + 4)) f101 rfl
  obtain ⟨I101, L101, ⟨ra101, rb101, rc101, rd101⟩, K101, c101⟩ := M101
  obtain rfl : K101 = zK0 sl sx := q101.2
  suffices w101 : zLI (d + 5) tb_X13_powerOf 101 [some (vR 11 (some a0)), some (vI x1), some (vI x2)] [vI v101] (I101, L101, (ra101, rb101, rc101, rd101), zK0 sl sx, c101) x M' (zK0 sl sx) from ⟨zR_call (rest := []) 4 q101.1 (fun n => rfl) w101.1, w101.2⟩
  obtain ⟨v102, M102, f102, h⟩ := zBx h
  have q102 := L_Mo_turnedOf (d := (d + 4)) f102 rfl
  obtain ⟨I102, L102, ⟨ra102, rb102, rc102, rd102⟩, K102, c102⟩ := M102
  obtain rfl : K102 = zK0 sl sx := q102.2
  suffices w102 : zLI (d + 5) tb_X13_powerOf 107 [some (vR 11 (some a0)), some (vI x1), some (vI v101)] [vI v102] (I102, L102, (ra102, rb102, rc102, rd102), zK0 sl sx, c102) x M' (zK0 sl sx) from ⟨zR_call (rest := []) 4 q102.1 (fun n => rfl) w102.1, w102.2⟩
  rcases zit h with ⟨g1, h⟩ | ⟨g1, h⟩
  · obtain ⟨rfl, rfl⟩ := zrI h
    exact ⟨zR_ret 4 ((if_pos g1).trans rfl), rfl⟩
  · obtain ⟨v103, M103, f103, h⟩ := zBx h
    have q103 := L_Mo_turnedOf (d := (d + 4)) f103 rfl
    obtain ⟨I103, L103, ⟨ra103, rb103, rc103, rd103⟩, K103, c103⟩ := M103
    obtain rfl : K103 = zK0 sl sx := q103.2
    suffices w103 : zLI (d + 5) tb_X13_powerOf 120 [some (vR 11 (some a0)), some (vI x1), some (vI v101)] [vI v103, vI v101] (I103, L103, (ra103, rb103, rc103, rd103), zK0 sl sx, c103) x M' (zK0 sl sx) from ⟨zR_call (rest := [vI v101]) 5 q103.1 (fun n => (if_neg g1).trans rfl) w103.1, w103.2⟩
    rcases zit h with ⟨g2, h⟩ | ⟨g2, h⟩
    · obtain ⟨rfl, rfl⟩ := zrI h
      exact ⟨zR_ret 8 ((if_pos g2).trans rfl), rfl⟩
    · obtain ⟨rfl, rfl⟩ := zrI h
      exact ⟨zR_ret 7 ((if_neg g2).trans rfl), rfl⟩
set_option maxRecDepth 20000 in
theorem L_Mo_powerOf_87 {N d sl : Nat} {sx : Nat → Int} {a0 : Nat} {x1 : Int} {b0 : Nat} {y1 : Int} {y2 : Int} {M : ZM} {x : Int} {M' : ZM} (h : Mo_powerOf_87 N a0 x1 b0 y1 y2 M = some (x, M')) (hK : mK M = zK0 sl sx) : zLI (d + 5) tb_X13_powerOf 87 [some (vR 11 (some a0)), some (vI x1), none] [vI y2, vI y1, vR 73 (some b0)] M x M' (zK0 sl sx) := by
  obtain ⟨I0, L0, ⟨ra0, rb0, rc0, rd0⟩, K0, c0⟩ := M
  obtain rfl : K0 = zK0 sl sx := hK
  obtain ⟨g1, h⟩ := zIx h
  replace h := zWx h
  obtain ⟨v102, M102, f102, h⟩ := zBx h
  have q102 := L_Mo_worked (d := (d + 2)) f102 rfl
  obtain ⟨I102, L102, ⟨ra102, rb102, rc102, rd102⟩, K102, c102⟩ := M102
  obtain rfl : K102 = zK0 sl sx := q102.2
  suffices w102 : zLI (d + 5) tb_X13_powerOf 93 [some (vR 11 (some a0)), some (vI x1), none] [vI v102] (I102, L102, (ra102, rb102, rc102, rd102), zK0 sl sx, c102) x M' (zK0 sl sx) from ⟨zR_call (rest := []) 4 q102.1 (fun n => (if_pos g1).trans rfl) w102.1, w102.2⟩
  have q := L_Mo_powerOf_94 (d := d) h rfl
  exact ⟨zR_go 1 q.1 (fun n => rfl), q.2⟩
set_option maxRecDepth 20000 in
theorem L_Mo_powerOf {N d sl : Nat} {sx : Nat → Int} {a0 : Nat} {x1 : Int} {M : ZM} {x : Int} {M' : ZM} (h : Mo_powerOf N a0 x1 M = some (x, M')) (hK : mK M = zK0 sl sx) : zLI (d + 5) tb_X13_powerOf 0 [some (vR 11 (some a0)), some (vI x1), none] [] M x M' (zK0 sl sx) := by
  obtain ⟨I0, L0, ⟨ra0, rb0, rc0, rd0⟩, K0, c0⟩ := M
  obtain rfl : K0 = zK0 sl sx := hK
  obtain ⟨v101, M101, f101, h⟩ := zBx h
  have q101 := L_Mo_runs (d := (d + 3)) f101 rfl
  obtain ⟨I101, L101, ⟨ra101, rb101, rc101, rd101⟩, K101, c101⟩ := M101
  obtain rfl : K101 = zK0 sl sx := q101.2
  suffices w101 : zLI (d + 5) tb_X13_powerOf 5 [some (vR 11 (some a0)), some (vI x1), none] [vI v101] (I101, L101, (ra101, rb101, rc101, rd101), zK0 sl sx, c101) x M' (zK0 sl sx) from ⟨zR_call (rest := []) 3 q101.1 (fun n => rfl) w101.1, w101.2⟩
  rcases zit h with ⟨g1, h⟩ | ⟨g1, h⟩
  · obtain ⟨rfl, rfl⟩ := zrI h
    exact ⟨zR_ret 3 ((if_pos g1).trans rfl), rfl⟩
  · obtain ⟨v102, M102, f102, h⟩ := zBx h
    have q102 := L_Mo_windOf (d := d) f102 rfl
    obtain ⟨I102, L102, ⟨ra102, rb102, rc102, rd102⟩, K102, c102⟩ := M102
    obtain rfl : K102 = zK0 sl sx := q102.2
    suffices w102 : zLI (d + 5) tb_X13_powerOf 15 [some (vR 11 (some a0)), some (vI x1), none] [vI v102] (I102, L102, (ra102, rb102, rc102, rd102), zK0 sl sx, c102) x M' (zK0 sl sx) from ⟨zR_call (rest := []) 4 q102.1 (fun n => (if_neg g1).trans rfl) w102.1, w102.2⟩
    rcases zit h with ⟨g2, h⟩ | ⟨g2, h⟩
    · replace h := zWx h
      obtain ⟨g3, h⟩ := zIx h
      replace h := zWx h
      obtain ⟨v105, M105, f105, h⟩ := zBx h
      have q105 := L_Mo_turnedOf (d := (d + 4)) f105 rfl
      obtain ⟨I105, L105, ⟨ra105, rb105, rc105, rd105⟩, K105, c105⟩ := M105
      obtain rfl : K105 = zK0 sl sx := q105.2
      suffices w105 : zLI (d + 5) tb_X13_powerOf 63 [some (vR 11 (some a0)), some (vI x1), some (vI v102)] [vI v105, vI 3, vR 73 (some a0)] (I105, L105, (ra105, rb105, rc105, rd105), zK0 sl sx, c105) x M' (zK0 sl sx) from ⟨zR_call (rest := [vI 3, vR 73 (some a0)]) 31 q105.1 (fun n => (if_pos g2).trans ((if_pos g3).trans rfl)) w105.1, w105.2⟩
      replace h := zWx h
      rcases zit h with ⟨g4, h⟩ | ⟨g4, h⟩
      · have q := L_Mo_powerOf_87 (d := d) h rfl
        exact ⟨zR_go 14 (zR_up (ls' := [some (vR 11 (some a0)), some (vI x1), some (vI v102)]) q.1 ⟨.inr rfl, .inr rfl, .inl rfl, trivial⟩) (fun n => (if_pos g4).trans rfl), q.2⟩
      · have q := L_Mo_powerOf_87 (d := d) h rfl
        exact ⟨zR_go 13 (zR_up (ls' := [some (vR 11 (some a0)), some (vI x1), some (vI v102)]) q.1 ⟨.inr rfl, .inr rfl, .inl rfl, trivial⟩) (fun n => (if_neg g4).trans rfl), q.2⟩
    · have q := L_Mo_powerOf_94 (d := d) h rfl
      exact ⟨zR_go 10 q.1 (fun n => (if_neg g2).trans rfl), q.2⟩
set_option maxRecDepth 20000 in
theorem L_Mo_hopsOf_4 {N d sl : Nat} {sx : Nat → Int} : ∀ {n : Nat} {a0 : Nat} {x2 : Int} {x3 : Int} {M : ZM} {x : Int} {M' : ZM}, Mo_hopsOf_4 N n a0 x2 x3 M = some (x, M') → mK M = zK0 sl sx → zLI (d + 0) tb_X13_hopsOf 4 [some (vR 11 (some a0)), none, some (vI x2), some (vI x3)] [] M x M' (zK0 sl sx) := by
  intro n
  induction n with
  | zero => intros; rename_i h _; cases h
  | succ n ih =>
    intro a0 x2 x3 M x M' h hK
    obtain ⟨I0, L0, ⟨ra0, rb0, rc0, rd0⟩, K0, c0⟩ := M
    obtain rfl : K0 = zK0 sl sx := hK
    rcases zit h with ⟨g1, h⟩ | ⟨g1, h⟩
    · obtain ⟨rfl, rfl⟩ := zrI h
      exact ⟨zR_ret 5 ((if_pos g1).trans rfl), rfl⟩
    · obtain ⟨g2, h⟩ := zIx h
      rcases zit h with ⟨g3, h⟩ | ⟨g3, h⟩
      · obtain ⟨rfl, rfl⟩ := zrI h
        exact ⟨zR_ret 10 ((if_neg g1).trans ((if_pos g2).trans ((if_pos g3).trans rfl))), rfl⟩
      · replace h := zWx h
        obtain ⟨g4, h⟩ := zIx h
        replace h := zWx h
        have q := ih h rfl
        exact ⟨zR_go 15 q.1 (fun n => (if_neg g1).trans ((if_pos g2).trans ((if_neg g3).trans ((if_pos g4).trans rfl)))), q.2⟩
set_option maxRecDepth 20000 in
theorem L_Mo_hopsOf {N d sl : Nat} {sx : Nat → Int} {a0 : Nat} {x1 : Int} {M : ZM} {x : Int} {M' : ZM} (h : Mo_hopsOf N a0 x1 M = some (x, M')) (hK : mK M = zK0 sl sx) : zLI (d + 0) tb_X13_hopsOf 0 [some (vR 11 (some a0)), some (vI x1), none, none] [] M x M' (zK0 sl sx) := by
  obtain ⟨I0, L0, ⟨ra0, rb0, rc0, rd0⟩, K0, c0⟩ := M
  obtain rfl : K0 = zK0 sl sx := hK
  have q := L_Mo_hopsOf_4 (d := d) h rfl
  exact ⟨zR_go 4 (zR_up (ls' := [some (vR 11 (some a0)), some (vI x1), some (vI 0), some (vI x1)]) q.1 ⟨.inr rfl, .inl rfl, .inr rfl, .inr rfl, trivial⟩) (fun n => rfl), q.2⟩
set_option maxRecDepth 20000 in
theorem L_Mo_homeBy_99 {N d sl : Nat} {sx : Nat → Int} {rec35 : Nat → Int → Int → Int → ZM → Option (Int × ZM)} {rec42 : Nat → Int → Int → Int → Int → ZM → Option (Int × ZM)} (hrec35 : ∀ {a0 : Nat} {x1 : Int} {x2 : Int} {x3 : Int} {M : ZM} {x : Int} {M' : ZM}, rec35 a0 x1 x2 x3 M = some (x, M') → mK M = zK0 sl sx → zLI (d + 1) tb_X13_homeBy 35 [some (vR 11 (some a0)), some (vI x1), some (vI x2), some (vI x3), none] [] M x M' (zK0 sl sx)) (hrec42 : ∀ {a0 : Nat} {x1 : Int} {x2 : Int} {x3 : Int} {x4 : Int} {M : ZM} {x : Int} {M' : ZM}, rec42 a0 x1 x2 x3 x4 M = some (x, M') → mK M = zK0 sl sx → zLI (d + 1) tb_X13_homeBy 42 [some (vR 11 (some a0)), some (vI x1), some (vI x2), some (vI x3), some (vI x4)] [] M x M' (zK0 sl sx)) {a0 : Nat} {x1 : Int} {x2 : Int} {x3 : Int} {x4 : Int} {b0 : Nat} {y1 : Int} {y2 : Int} {M : ZM} {x : Int} {M' : ZM} (h : Mo_homeBy_99 N rec35 rec42 a0 x1 x2 x3 x4 b0 y1 y2 M = some (x, M')) (hK : mK M = zK0 sl sx) : zLI (d + 1) tb_X13_homeBy 99 [some (vR 11 (some a0)), some (vI x1), some (vI x2), some (vI x3), some (vI x4)] [vI y2, vI y1, vR 88 (some b0)] M x M' (zK0 sl sx) := by
  obtain ⟨I0, L0, ⟨ra0, rb0, rc0, rd0⟩, K0, c0⟩ := M
  obtain rfl : K0 = zK0 sl sx := hK
  obtain ⟨g1, h⟩ := zIx h
  replace h := zWx h
  obtain ⟨g2, h⟩ := zIx h
  rcases zit h with ⟨g3, h⟩ | ⟨g3, h⟩
  · obtain ⟨g4, h⟩ := zIx h
    replace h := zWx h
    replace h := zWx h
    have q := hrec42 h rfl
    exact ⟨zR_go 17 q.1 (fun n => (if_pos g1).trans ((if_pos g2).trans ((if_pos g3).trans ((if_pos g4).trans rfl)))), q.2⟩
  · obtain ⟨g5, h⟩ := zIx h
    obtain ⟨g6, h⟩ := zIx h
    obtain ⟨g7, h⟩ := zIx h
    obtain ⟨g8, h⟩ := zIx h
    replace h := zWx h
    replace h := zWx h
    have q := hrec42 h rfl
    exact ⟨zR_go 23 q.1 (fun n => (if_pos g1).trans ((if_pos g2).trans ((if_neg g3).trans ((if_pos g5).trans ((if_pos g6).trans ((if_pos g7).trans ((if_pos g8).trans rfl))))))), q.2⟩
set_option maxRecDepth 20000 in
theorem L_Mo_homeBy_42 {N d sl : Nat} {sx : Nat → Int} {rec35 : Nat → Int → Int → Int → ZM → Option (Int × ZM)} (hrec35 : ∀ {a0 : Nat} {x1 : Int} {x2 : Int} {x3 : Int} {M : ZM} {x : Int} {M' : ZM}, rec35 a0 x1 x2 x3 M = some (x, M') → mK M = zK0 sl sx → zLI (d + 1) tb_X13_homeBy 35 [some (vR 11 (some a0)), some (vI x1), some (vI x2), some (vI x3), none] [] M x M' (zK0 sl sx)) : ∀ {n : Nat} {a0 : Nat} {x1 : Int} {x2 : Int} {x3 : Int} {x4 : Int} {M : ZM} {x : Int} {M' : ZM}, Mo_homeBy_42 N rec35 n a0 x1 x2 x3 x4 M = some (x, M') → mK M = zK0 sl sx → zLI (d + 1) tb_X13_homeBy 42 [some (vR 11 (some a0)), some (vI x1), some (vI x2), some (vI x3), some (vI x4)] [] M x M' (zK0 sl sx) := by
  intro n
  induction n with
  | zero => intros; rename_i h _; cases h
  | succ n ih =>
    intro a0 x1 x2 x3 x4 M x M' h hK
    obtain ⟨I0, L0, ⟨ra0, rb0, rc0, rd0⟩, K0, c0⟩ := M
    obtain rfl : K0 = zK0 sl sx := hK
    rcases zit h with ⟨g1, h⟩ | ⟨g1, h⟩
    · obtain ⟨v101, M101, f101, h⟩ := zBx h
      have q101 := L_Mo_hopsOf (d := d) f101 rfl
      obtain ⟨I101, L101, ⟨ra101, rb101, rc101, rd101⟩, K101, c101⟩ := M101
      obtain rfl : K101 = zK0 sl sx := q101.2
      suffices w101 : zLI (d + 1) tb_X13_homeBy 59 [some (vR 11 (some a0)), some (vI x1), some (vI x2), some (vI x3), some (vI x4)] [vI v101] (I101, L101, (ra101, rb101, rc101, rd101), zK0 sl sx, c101) x M' (zK0 sl sx) from ⟨zR_call (rest := []) 9 q101.1 (fun n => (if_pos g1).trans rfl) w101.1, w101.2⟩
      rcases zit h with ⟨g2, h⟩ | ⟨g2, h⟩
      · rcases zit h with ⟨g3, h⟩ | ⟨g3, h⟩
        · have q := L_Mo_homeBy_99 (d := d) hrec35 ih h rfl
          exact ⟨zR_go 10 q.1 (fun n => (if_pos g2).trans ((if_pos g3).trans rfl)), q.2⟩
        · obtain ⟨g4, h⟩ := zIx h
          obtain ⟨g5, h⟩ := zIx h
          have q := L_Mo_homeBy_99 (d := d) hrec35 ih h rfl
          exact ⟨zR_go 17 q.1 (fun n => (if_pos g2).trans ((if_neg g3).trans ((if_pos g4).trans ((if_pos g5).trans rfl)))), q.2⟩
      · replace h := zWx h
        have q := ih h rfl
        exact ⟨zR_go 5 q.1 (fun n => (if_neg g2).trans rfl), q.2⟩
    · replace h := zWx h
      have q := hrec35 h rfl
      exact ⟨zR_go 8 (zR_up (ls' := [some (vR 11 (some a0)), some (vI x1), some (vI x2), some (vI (z32 (x3 + (-1)))), some (vI x4)]) q.1 ⟨.inr rfl, .inr rfl, .inr rfl, .inr rfl, .inl rfl, trivial⟩) (fun n => (if_neg g1).trans rfl), q.2⟩
set_option maxRecDepth 20000 in
theorem L_Mo_homeBy_35 {N d sl : Nat} {sx : Nat → Int} : ∀ {n : Nat} {a0 : Nat} {x1 : Int} {x2 : Int} {x3 : Int} {M : ZM} {x : Int} {M' : ZM}, Mo_homeBy_35 N n a0 x1 x2 x3 M = some (x, M') → mK M = zK0 sl sx → zLI (d + 1) tb_X13_homeBy 35 [some (vR 11 (some a0)), some (vI x1), some (vI x2), some (vI x3), none] [] M x M' (zK0 sl sx) := by
  intro n
  induction n with
  | zero => intros; rename_i h _; cases h
  | succ n ih =>
    intro a0 x1 x2 x3 M x M' h hK
    obtain ⟨I0, L0, ⟨ra0, rb0, rc0, rd0⟩, K0, c0⟩ := M
    obtain rfl : K0 = zK0 sl sx := hK
    rcases zit h with ⟨g1, h⟩ | ⟨g1, h⟩
    · have q := L_Mo_homeBy_42 (d := d) ih h rfl
      exact ⟨zR_go 4 q.1 (fun n => (if_pos g1).trans rfl), q.2⟩
    · obtain ⟨rfl, rfl⟩ := zrI h
      exact ⟨zR_ret 4 ((if_neg g1).trans rfl), rfl⟩
set_option maxRecDepth 20000 in
theorem L_Mo_homeBy_4 {N d sl : Nat} {sx : Nat → Int} : ∀ {n : Nat} {a0 : Nat} {x1 : Int} {x2 : Int} {x3 : Int} {M : ZM} {x : Int} {M' : ZM}, Mo_homeBy_4 N n a0 x1 x2 x3 M = some (x, M') → mK M = zK0 sl sx → zLI (d + 1) tb_X13_homeBy 4 [some (vR 11 (some a0)), some (vI x1), some (vI x2), some (vI x3), none] [] M x M' (zK0 sl sx) := by
  intro n
  induction n with
  | zero => intros; rename_i h _; cases h
  | succ n ih =>
    intro a0 x1 x2 x3 M x M' h hK
    obtain ⟨I0, L0, ⟨ra0, rb0, rc0, rd0⟩, K0, c0⟩ := M
    obtain rfl : K0 = zK0 sl sx := hK
    rcases zit h with ⟨g1, h⟩ | ⟨g1, h⟩
    · obtain ⟨g2, h⟩ := zIx h
      obtain ⟨g3, h⟩ := zIx h
      replace h := zWx h
      replace h := zWx h
      have q := ih h rfl
      exact ⟨zR_go 16 q.1 (fun n => (if_pos g1).trans ((if_pos g2).trans ((if_pos g3).trans rfl))), q.2⟩
    · have q := L_Mo_homeBy_35 (d := d) h rfl
      exact ⟨zR_go 8 q.1 (fun n => (if_neg g1).trans rfl), q.2⟩
set_option maxRecDepth 20000 in
theorem L_Mo_homeBy {N d sl : Nat} {sx : Nat → Int} {a0 : Nat} {x1 : Int} {M : ZM} {x : Int} {M' : ZM} (h : Mo_homeBy N a0 x1 M = some (x, M')) (hK : mK M = zK0 sl sx) : zLI (d + 1) tb_X13_homeBy 0 [some (vR 11 (some a0)), some (vI x1), none, none, none] [] M x M' (zK0 sl sx) := by
  obtain ⟨I0, L0, ⟨ra0, rb0, rc0, rd0⟩, K0, c0⟩ := M
  obtain rfl : K0 = zK0 sl sx := hK
  have q := L_Mo_homeBy_4 (d := d) h rfl
  exact ⟨zR_go 4 q.1 (fun n => rfl), q.2⟩
set_option maxRecDepth 20000 in
theorem L_Mo_laysPowers_2 {N d sl : Nat} {sx : Nat → Int} : ∀ {n : Nat} {a0 : Nat} {x1 : Int} {M : ZM} {M' : ZM}, Mo_laysPowers_2 N n a0 x1 M = some M' → mK M = zK0 sl sx → zLV (d + 6) tb_X13_laysPowers 2 [some (vR 11 (some a0)), some (vI x1)] [] M M' (zK0 sl sx) := by
  intro n
  induction n with
  | zero => intros; rename_i h _; cases h
  | succ n ih =>
    intro a0 x1 M M' h hK
    obtain ⟨I0, L0, ⟨ra0, rb0, rc0, rd0⟩, K0, c0⟩ := M
    obtain rfl : K0 = zK0 sl sx := hK
    rcases zit h with ⟨g1, h⟩ | ⟨g1, h⟩
    · obtain ⟨v101, M101, f101, h⟩ := zBx h
      have q101 := L_Mo_powerOf (d := d) f101 rfl
      obtain ⟨I101, L101, ⟨ra101, rb101, rc101, rd101⟩, K101, c101⟩ := M101
      obtain rfl : K101 = zK0 sl sx := q101.2
      suffices w101 : zLV (d + 6) tb_X13_laysPowers 22 [some (vR 11 (some a0)), some (vI x1)] [vI v101, vI x1, vR 87 (some a0)] (I101, L101, (ra101, rb101, rc101, rd101), zK0 sl sx, c101) M' (zK0 sl sx) from ⟨zR_call (rest := [vI x1, vR 87 (some a0)]) 12 q101.1 (fun n => (if_pos g1).trans rfl) w101.1, w101.2⟩
      obtain ⟨g2, h⟩ := zIx h
      replace h := zWx h
      replace h := zWx h
      have q := ih h rfl
      exact ⟨zR_go 3 q.1 (fun n => (if_pos g2).trans rfl), q.2⟩
    · obtain rfl := zrV h
      exact ⟨zR_ret 7 ((if_neg g1).trans rfl), rfl⟩
set_option maxRecDepth 20000 in
theorem L_Mo_laysPowers {N d sl : Nat} {sx : Nat → Int} {a0 : Nat} {M : ZM} {M' : ZM} (h : Mo_laysPowers N a0 M = some M') (hK : mK M = zK0 sl sx) : zLV (d + 6) tb_X13_laysPowers 0 [some (vR 11 (some a0)), none] [] M M' (zK0 sl sx) := by
  obtain ⟨I0, L0, ⟨ra0, rb0, rc0, rd0⟩, K0, c0⟩ := M
  obtain rfl : K0 = zK0 sl sx := hK
  have q := L_Mo_laysPowers_2 (d := d) h rfl
  exact ⟨zR_go 2 q.1 (fun n => rfl), q.2⟩
set_option maxRecDepth 20000 in
theorem L_Mo_homeNow {N d sl : Nat} {sx : Nat → Int} {a0 : Nat} {M : ZM} {x : Int} {M' : ZM} (h : Mo_homeNow N a0 M = some (x, M')) (hK : mK M = zK0 sl sx) : zLI (d + 7) tb_X13_homeNow 0 [some (vR 11 (some a0))] [] M x M' (zK0 sl sx) := by
  obtain ⟨I0, L0, ⟨ra0, rb0, rc0, rd0⟩, K0, c0⟩ := M
  obtain rfl : K0 = zK0 sl sx := hK
  obtain ⟨M101, f101, h⟩ := zBvx h
  have q101 := L_Mo_looks (d := (d + 5)) f101 rfl
  obtain ⟨I101, L101, ⟨ra101, rb101, rc101, rd101⟩, K101, c101⟩ := M101
  obtain rfl : K101 = zK0 sl sx := q101.2
  suffices w101 : zLI (d + 7) tb_X13_homeNow 4 [some (vR 11 (some a0))] [] (I101, L101, (ra101, rb101, rc101, rd101), zK0 sl sx, c101) x M' (zK0 sl sx) from ⟨zR_call (rest := []) 2 q101.1 (fun n => rfl) w101.1, w101.2⟩
  obtain ⟨M102, f102, h⟩ := zBvx h
  have q102 := L_Mo_laysPowers (d := d) f102 rfl
  obtain ⟨I102, L102, ⟨ra102, rb102, rc102, rd102⟩, K102, c102⟩ := M102
  obtain rfl : K102 = zK0 sl sx := q102.2
  suffices w102 : zLI (d + 7) tb_X13_homeNow 8 [some (vR 11 (some a0))] [] (I102, L102, (ra102, rb102, rc102, rd102), zK0 sl sx, c102) x M' (zK0 sl sx) from ⟨zR_call (rest := []) 2 q102.1 (fun n => rfl) w102.1, w102.2⟩
  obtain ⟨v103, M103, f103, h⟩ := zBx h
  have q103 := L_Mo_homeBy (d := (d + 5)) f103 rfl
  obtain ⟨I103, L103, ⟨ra103, rb103, rc103, rd103⟩, K103, c103⟩ := M103
  obtain rfl : K103 = zK0 sl sx := q103.2
  suffices w103 : zLI (d + 7) tb_X13_homeNow 13 [some (vR 11 (some a0))] [vI v103] (I103, L103, (ra103, rb103, rc103, rd103), zK0 sl sx, c103) x M' (zK0 sl sx) from ⟨zR_call (rest := []) 3 q103.1 (fun n => rfl) w103.1, w103.2⟩
  obtain ⟨rfl, rfl⟩ := zrI h
  exact ⟨zR_ret 1 (rfl), rfl⟩
set_option maxRecDepth 20000 in
theorem L_Mo_powersNow_12 {N d sl : Nat} {sx : Nat → Int} : ∀ {n : Nat} {a0 : Nat} {x1 : Int} {x2 : Int} {M : ZM} {x : Int} {M' : ZM}, Mo_powersNow_12 N n a0 x1 x2 M = some (x, M') → mK M = zK0 sl sx → zLI (d + 7) tb_X13_powersNow 12 [some (vR 11 (some a0)), some (vI x1), some (vI x2)] [] M x M' (zK0 sl sx) := by
  intro n
  induction n with
  | zero => intros; rename_i h _; cases h
  | succ n ih =>
    intro a0 x1 x2 M x M' h hK
    obtain ⟨I0, L0, ⟨ra0, rb0, rc0, rd0⟩, K0, c0⟩ := M
    obtain rfl : K0 = zK0 sl sx := hK
    rcases zit h with ⟨g1, h⟩ | ⟨g1, h⟩
    · obtain ⟨g2, h⟩ := zIx h
      replace h := zWx h
      replace h := zWx h
      have q := ih h rfl
      exact ⟨zR_go 15 q.1 (fun n => (if_pos g1).trans ((if_pos g2).trans rfl)), q.2⟩
    · obtain ⟨rfl, rfl⟩ := zrI h
      exact ⟨zR_ret 8 ((if_neg g1).trans rfl), rfl⟩
set_option maxRecDepth 20000 in
theorem L_Mo_powersNow {N d sl : Nat} {sx : Nat → Int} {a0 : Nat} {M : ZM} {x : Int} {M' : ZM} (h : Mo_powersNow N a0 M = some (x, M')) (hK : mK M = zK0 sl sx) : zLI (d + 7) tb_X13_powersNow 0 [some (vR 11 (some a0)), none, none] [] M x M' (zK0 sl sx) := by
  obtain ⟨I0, L0, ⟨ra0, rb0, rc0, rd0⟩, K0, c0⟩ := M
  obtain rfl : K0 = zK0 sl sx := hK
  obtain ⟨M101, f101, h⟩ := zBvx h
  have q101 := L_Mo_looks (d := (d + 5)) f101 rfl
  obtain ⟨I101, L101, ⟨ra101, rb101, rc101, rd101⟩, K101, c101⟩ := M101
  obtain rfl : K101 = zK0 sl sx := q101.2
  suffices w101 : zLI (d + 7) tb_X13_powersNow 4 [some (vR 11 (some a0)), none, none] [] (I101, L101, (ra101, rb101, rc101, rd101), zK0 sl sx, c101) x M' (zK0 sl sx) from ⟨zR_call (rest := []) 2 q101.1 (fun n => rfl) w101.1, w101.2⟩
  obtain ⟨M102, f102, h⟩ := zBvx h
  have q102 := L_Mo_laysPowers (d := d) f102 rfl
  obtain ⟨I102, L102, ⟨ra102, rb102, rc102, rd102⟩, K102, c102⟩ := M102
  obtain rfl : K102 = zK0 sl sx := q102.2
  suffices w102 : zLI (d + 7) tb_X13_powersNow 8 [some (vR 11 (some a0)), none, none] [] (I102, L102, (ra102, rb102, rc102, rd102), zK0 sl sx, c102) x M' (zK0 sl sx) from ⟨zR_call (rest := []) 2 q102.1 (fun n => rfl) w102.1, w102.2⟩
  have q := L_Mo_powersNow_12 (d := d) h rfl
  exact ⟨zR_go 4 q.1 (fun n => rfl), q.2⟩
set_option maxRecDepth 20000 in
theorem L_Mo_soldNow {N d sl : Nat} {sx : Nat → Int} {a0 : Nat} {M : ZM} {x : Int} {M' : ZM} (h : Mo_soldNow N a0 M = some (x, M')) (hK : mK M = zK0 sl sx) : zLI (d + 8) tb_X13_soldNow 0 [some (vR 11 (some a0))] [] M x M' (zK0 sl sx) := by
  obtain ⟨I0, L0, ⟨ra0, rb0, rc0, rd0⟩, K0, c0⟩ := M
  obtain rfl : K0 = zK0 sl sx := hK
  obtain ⟨v101, M101, f101, h⟩ := zBx h
  have q101 := L_Mo_homeNow (d := d) f101 rfl
  obtain ⟨I101, L101, ⟨ra101, rb101, rc101, rd101⟩, K101, c101⟩ := M101
  obtain rfl : K101 = zK0 sl sx := q101.2
  suffices w101 : zLI (d + 8) tb_X13_soldNow 4 [some (vR 11 (some a0))] [vI v101] (I101, L101, (ra101, rb101, rc101, rd101), zK0 sl sx, c101) x M' (zK0 sl sx) from ⟨zR_call (rest := []) 2 q101.1 (fun n => rfl) w101.1, w101.2⟩
  obtain ⟨v102, M102, f102, h⟩ := zBx h
  have q102 := L_Mo_priceNow (d := (d + 6)) f102 rfl
  obtain ⟨I102, L102, ⟨ra102, rb102, rc102, rd102⟩, K102, c102⟩ := M102
  obtain rfl : K102 = zK0 sl sx := q102.2
  suffices w102 : zLI (d + 8) tb_X13_soldNow 8 [some (vR 11 (some a0))] [vI v102, vI v101] (I102, L102, (ra102, rb102, rc102, rd102), zK0 sl sx, c102) x M' (zK0 sl sx) from ⟨zR_call (rest := [vI v101]) 2 q102.1 (fun n => rfl) w102.1, w102.2⟩
  obtain ⟨rfl, rfl⟩ := zrI h
  exact ⟨zR_ret 2 (rfl), rfl⟩
set_option maxRecDepth 20000 in
theorem L_Mo_passes_90 {N d sl : Nat} {sx : Nat → Int} {rec19 : Nat → Int → Int → Int → ZM → Option (Int × ZM)} (hrec19 : ∀ {a0 : Nat} {x1 : Int} {x2 : Int} {x3 : Int} {M : ZM} {x : Int} {M' : ZM}, rec19 a0 x1 x2 x3 M = some (x, M') → mK M = zK0 sl sx → zLI (d + 9) tb_X13_passes 19 [some (vR 11 (some a0)), some (vI x1), some (vI x2), some (vI x3), none] [] M x M' (zK0 sl sx)) {a0 : Nat} {x1 : Int} {x2 : Int} {x3 : Int} {b0 : Nat} {y1 : Int} {y2 : Int} {y3 : Int} {M : ZM} {x : Int} {M' : ZM} (h : Mo_passes_90 N rec19 a0 x1 x2 x3 b0 y1 y2 y3 M = some (x, M')) (hK : mK M = zK0 sl sx) : zLI (d + 9) tb_X13_passes 90 [some (vR 11 (some a0)), some (vI x1), some (vI x2), some (vI x3), none] [vI y3, vI y2, vI y1, vR 81 (some b0)] M x M' (zK0 sl sx) := by
  obtain ⟨I0, L0, ⟨ra0, rb0, rc0, rd0⟩, K0, c0⟩ := M
  obtain rfl : K0 = zK0 sl sx := hK
  obtain ⟨g1, h⟩ := zIx h
  replace h := zWx h
  obtain ⟨g2, h⟩ := zIx h
  rcases zit h with ⟨g3, h⟩ | ⟨g3, h⟩
  · replace h := zWx h
    replace h := zWx h
    have q := hrec19 h rfl
    exact ⟨zR_go 19 q.1 (fun n => (if_pos g1).trans ((if_pos g2).trans ((if_pos g3).trans rfl))), q.2⟩
  · replace h := zWx h
    replace h := zWx h
    have q := hrec19 h rfl
    exact ⟨zR_go 22 q.1 (fun n => (if_pos g1).trans ((if_pos g2).trans ((if_neg g3).trans rfl))), q.2⟩
set_option maxRecDepth 20000 in
theorem L_Mo_passes_58 {N d sl : Nat} {sx : Nat → Int} {rec19 : Nat → Int → Int → Int → ZM → Option (Int × ZM)} (hrec19 : ∀ {a0 : Nat} {x1 : Int} {x2 : Int} {x3 : Int} {M : ZM} {x : Int} {M' : ZM}, rec19 a0 x1 x2 x3 M = some (x, M') → mK M = zK0 sl sx → zLI (d + 9) tb_X13_passes 19 [some (vR 11 (some a0)), some (vI x1), some (vI x2), some (vI x3), none] [] M x M' (zK0 sl sx)) {a0 : Nat} {x1 : Int} {x2 : Int} {x3 : Int} {y0 : Int} {y1 : Int} {M : ZM} {x : Int} {M' : ZM} (h : Mo_passes_58 N rec19 a0 x1 x2 x3 y0 y1 M = some (x, M')) (hK : mK M = zK0 sl sx) : zLI (d + 9) tb_X13_passes 58 [some (vR 11 (some a0)), some (vI x1), some (vI x2), some (vI x3), none] [vI y1, vI y0] M x M' (zK0 sl sx) := by
  obtain ⟨I0, L0, ⟨ra0, rb0, rc0, rd0⟩, K0, c0⟩ := M
  obtain rfl : K0 = zK0 sl sx := hK
  replace h := zWx h
  obtain ⟨g1, h⟩ := zIx h
  obtain ⟨g2, h⟩ := zIx h
  rcases zit h with ⟨g3, h⟩ | ⟨g3, h⟩
  · have q := L_Mo_passes_90 (d := d) hrec19 h rfl
    exact ⟨zR_go 19 (zR_up (ls' := [some (vR 11 (some a0)), some (vI x1), some (vI x2), some (vI x3), some (vI (z32 (y0 + y1)))]) q.1 ⟨.inr rfl, .inr rfl, .inr rfl, .inr rfl, .inl rfl, trivial⟩) (fun n => (if_pos g1).trans ((if_pos g2).trans ((if_pos g3).trans rfl))), q.2⟩
  · have q := L_Mo_passes_90 (d := d) hrec19 h rfl
    exact ⟨zR_go 16 (zR_up (ls' := [some (vR 11 (some a0)), some (vI x1), some (vI x2), some (vI x3), some (vI (z32 (y0 + y1)))]) q.1 ⟨.inr rfl, .inr rfl, .inr rfl, .inr rfl, .inl rfl, trivial⟩) (fun n => (if_pos g1).trans ((if_pos g2).trans ((if_neg g3).trans rfl))), q.2⟩
set_option maxRecDepth 20000 in
theorem L_Mo_passes_19 {N d sl : Nat} {sx : Nat → Int} : ∀ {n : Nat} {a0 : Nat} {x1 : Int} {x2 : Int} {x3 : Int} {M : ZM} {x : Int} {M' : ZM}, Mo_passes_19 N n a0 x1 x2 x3 M = some (x, M') → mK M = zK0 sl sx → zLI (d + 9) tb_X13_passes 19 [some (vR 11 (some a0)), some (vI x1), some (vI x2), some (vI x3), none] [] M x M' (zK0 sl sx) := by
  intro n
  induction n with
  | zero => intros; rename_i h _; cases h
  | succ n ih =>
    intro a0 x1 x2 x3 M x M' h hK
    obtain ⟨I0, L0, ⟨ra0, rb0, rc0, rd0⟩, K0, c0⟩ := M
    obtain rfl : K0 = zK0 sl sx := hK
    rcases zit h with ⟨g1, h⟩ | ⟨g1, h⟩
    · obtain ⟨v101, M101, f101, h⟩ := zBx h
      have q101 := L_Mo_runs (d := (d + 7)) f101 rfl
      obtain ⟨I101, L101, ⟨ra101, rb101, rc101, rd101⟩, K101, c101⟩ := M101
      obtain rfl : K101 = zK0 sl sx := q101.2
      suffices w101 : zLI (d + 9) tb_X13_passes 34 [some (vR 11 (some a0)), some (vI x1), some (vI x2), some (vI x3), none] [vI v101] (I101, L101, (ra101, rb101, rc101, rd101), zK0 sl sx, c101) x M' (zK0 sl sx) from ⟨zR_call (rest := []) 9 q101.1 (fun n => (if_pos g1).trans rfl) w101.1, w101.2⟩
      rcases zit h with ⟨g2, h⟩ | ⟨g2, h⟩
      · replace h := zWx h
        have q := ih h rfl
        exact ⟨zR_go 4 q.1 (fun n => (if_pos g2).trans rfl), q.2⟩
      · obtain ⟨v103, M103, f103, h⟩ := zBx h
        have q103 := L_Mo_turnedOf (d := (d + 8)) f103 rfl
        obtain ⟨I103, L103, ⟨ra103, rb103, rc103, rd103⟩, K103, c103⟩ := M103
        obtain rfl : K103 = zK0 sl sx := q103.2
        suffices w103 : zLI (d + 9) tb_X13_passes 45 [some (vR 11 (some a0)), some (vI x1), some (vI x2), some (vI x3), none] [vI v103] (I103, L103, (ra103, rb103, rc103, rd103), zK0 sl sx, c103) x M' (zK0 sl sx) from ⟨zR_call (rest := []) 4 q103.1 (fun n => (if_neg g2).trans rfl) w103.1, w103.2⟩
        obtain ⟨v104, M104, f104, h⟩ := zBx h
        have q104 := L_Mo_takenOf (d := (d + 5)) f104 rfl
        obtain ⟨I104, L104, ⟨ra104, rb104, rc104, rd104⟩, K104, c104⟩ := M104
        obtain rfl : K104 = zK0 sl sx := q104.2
        suffices w104 : zLI (d + 9) tb_X13_passes 50 [some (vR 11 (some a0)), some (vI x1), some (vI x2), some (vI x3), none] [vI v104, vI v103] (I104, L104, (ra104, rb104, rc104, rd104), zK0 sl sx, c104) x M' (zK0 sl sx) from ⟨zR_call (rest := [vI v103]) 3 q104.1 (fun n => rfl) w104.1, w104.2⟩
        rcases zit h with ⟨g3, h⟩ | ⟨g3, h⟩
        · have q := L_Mo_passes_58 (d := d) ih h rfl
          exact ⟨zR_go 3 q.1 (fun n => (if_pos g3).trans rfl), q.2⟩
        · have q := L_Mo_passes_58 (d := d) ih h rfl
          exact ⟨zR_go 2 q.1 (fun n => (if_neg g3).trans rfl), q.2⟩
    · replace h := zWx h
      replace h := zWx h
      obtain ⟨rfl, rfl⟩ := zrI h
      exact ⟨zR_ret 24 ((if_neg g1).trans rfl), rfl⟩
set_option maxRecDepth 20000 in
theorem L_Mo_passes {N d sl : Nat} {sx : Nat → Int} {a0 : Nat} {M : ZM} {x : Int} {M' : ZM} (h : Mo_passes N a0 M = some (x, M')) (hK : mK M = zK0 sl sx) : zLI (d + 9) tb_X13_passes 0 [some (vR 11 (some a0)), none, none, none, none] [] M x M' (zK0 sl sx) := by
  obtain ⟨I0, L0, ⟨ra0, rb0, rc0, rd0⟩, K0, c0⟩ := M
  obtain rfl : K0 = zK0 sl sx := hK
  obtain ⟨v101, M101, f101, h⟩ := zBx h
  have q101 := L_Mo_soldNow (d := d) f101 rfl
  obtain ⟨I101, L101, ⟨ra101, rb101, rc101, rd101⟩, K101, c101⟩ := M101
  obtain rfl : K101 = zK0 sl sx := q101.2
  suffices w101 : zLI (d + 9) tb_X13_passes 4 [some (vR 11 (some a0)), none, none, none, none] [vI v101] (I101, L101, (ra101, rb101, rc101, rd101), zK0 sl sx, c101) x M' (zK0 sl sx) from ⟨zR_call (rest := []) 2 q101.1 (fun n => rfl) w101.1, w101.2⟩
  replace h := zWx h
  have q := L_Mo_passes_19 (d := d) h rfl
  exact ⟨zR_go 13 q.1 (fun n => rfl), q.2⟩
set_option maxRecDepth 20000 in
theorem L_Mo_turbine {N d sl : Nat} {sx : Nat → Int} {a0 : Nat} {x1 : Int} {x2 : Int} {M : ZM} {x : Int} {M' : ZM} (h : Mo_turbine N a0 x1 x2 M = some (x, M')) (hK : mK M = zK0 sl sx) : zLI (d + 1) tb_X13_turbine 0 [some (vR 11 (some a0)), some (vI x1), some (vI x2)] [] M x M' (zK0 sl sx) := by
  obtain ⟨I0, L0, ⟨ra0, rb0, rc0, rd0⟩, K0, c0⟩ := M
  obtain rfl : K0 = zK0 sl sx := hK
  replace h := zWx h
  obtain ⟨v102, M102, f102, h⟩ := zBx h
  have q102 := L_Mo_isTurbine (d := d) f102 rfl
  obtain ⟨I102, L102, ⟨ra102, rb102, rc102, rd102⟩, K102, c102⟩ := M102
  obtain rfl : K102 = zK0 sl sx := q102.2
  suffices w102 : zLI (d + 1) tb_X13_turbine 10 [some (vR 11 (some a0)), some (vI x1), some (vI x2)] [vI v102] (I102, L102, (ra102, rb102, rc102, rd102), zK0 sl sx, c102) x M' (zK0 sl sx) from ⟨zR_call (rest := []) 6 q102.1 (fun n => rfl) w102.1, w102.2⟩
  rcases zit h with ⟨g1, h⟩ | ⟨g1, h⟩
  · obtain ⟨rfl, rfl⟩ := zrI h
    exact ⟨zR_ret 3 ((if_pos g1).trans rfl), rfl⟩
  · obtain ⟨v103, M103, f103, h⟩ := zBx h
    have q103 := L_Mo_within (d := d) f103 rfl
    obtain ⟨I103, L103, ⟨ra103, rb103, rc103, rd103⟩, K103, c103⟩ := M103
    obtain rfl : K103 = zK0 sl sx := q103.2
    suffices w103 : zLI (d + 1) tb_X13_turbine 20 [some (vR 11 (some a0)), some (vI x1), some (vI x2)] [vI v103] (I103, L103, (ra103, rb103, rc103, rd103), zK0 sl sx, c103) x M' (zK0 sl sx) from ⟨zR_call (rest := []) 5 q103.1 (fun n => (if_neg g1).trans rfl) w103.1, w103.2⟩
    rcases zit h with ⟨g2, h⟩ | ⟨g2, h⟩
    · obtain ⟨rfl, rfl⟩ := zrI h
      exact ⟨zR_ret 3 ((if_pos g2).trans rfl), rfl⟩
    · rcases zit h with ⟨g3, h⟩ | ⟨g3, h⟩
      · rcases zit h with ⟨g4, h⟩ | ⟨g4, h⟩
        · obtain ⟨g5, h⟩ := zIx h
          obtain ⟨rfl, rfl⟩ := zrI h
          exact ⟨zR_ret 12 ((if_neg g2).trans ((if_pos g3).trans ((if_pos g4).trans ((if_pos g5).trans rfl)))), rfl⟩
        · rcases zit h with ⟨g6, h⟩ | ⟨g6, h⟩
          · obtain ⟨g7, h⟩ := zIx h
            obtain ⟨rfl, rfl⟩ := zrI h
            exact ⟨zR_ret 15 ((if_neg g2).trans ((if_pos g3).trans ((if_neg g4).trans ((if_pos g6).trans ((if_pos g7).trans rfl))))), rfl⟩
          · obtain ⟨g8, h⟩ := zIx h
            obtain ⟨rfl, rfl⟩ := zrI h
            exact ⟨zR_ret 14 ((if_neg g2).trans ((if_pos g3).trans ((if_neg g4).trans ((if_neg g6).trans ((if_pos g8).trans rfl))))), rfl⟩
      · rcases zit h with ⟨g9, h⟩ | ⟨g9, h⟩
        · rcases zit h with ⟨g10, h⟩ | ⟨g10, h⟩
          · obtain ⟨g11, h⟩ := zIx h
            obtain ⟨rfl, rfl⟩ := zrI h
            exact ⟨zR_ret 18 ((if_neg g2).trans ((if_neg g3).trans ((if_pos g9).trans ((if_pos g10).trans ((if_pos g11).trans rfl))))), rfl⟩
          · rcases zit h with ⟨g12, h⟩ | ⟨g12, h⟩
            · obtain ⟨v104, M104, f104, h⟩ := zBx h
              have q104 := L_Mo_isShut (d := d) f104 rfl
              obtain ⟨I104, L104, ⟨ra104, rb104, rc104, rd104⟩, K104, c104⟩ := M104
              obtain rfl : K104 = zK0 sl sx := q104.2
              suffices w104 : zLI (d + 1) tb_X13_turbine 97 [some (vR 11 (some a0)), some (vI x1), some (vI x2)] [vI v104] (I104, L104, (ra104, rb104, rc104, rd104), zK0 sl sx, c104) x M' (zK0 sl sx) from ⟨zR_call (rest := []) 16 q104.1 (fun n => (if_neg g2).trans ((if_neg g3).trans ((if_pos g9).trans ((if_neg g10).trans ((if_pos g12).trans rfl))))) w104.1, w104.2⟩
              rcases zit h with ⟨g13, h⟩ | ⟨g13, h⟩
              · obtain ⟨rfl, rfl⟩ := zrI h
                exact ⟨zR_ret 4 ((if_pos g13).trans rfl), rfl⟩
              · obtain ⟨rfl, rfl⟩ := zrI h
                exact ⟨zR_ret 4 ((if_neg g13).trans rfl), rfl⟩
            · obtain ⟨v105, M105, f105, h⟩ := zBx h
              have q105 := L_Mo_isBroken (d := d) f105 rfl
              obtain ⟨I105, L105, ⟨ra105, rb105, rc105, rd105⟩, K105, c105⟩ := M105
              obtain rfl : K105 = zK0 sl sx := q105.2
              suffices w105 : zLI (d + 1) tb_X13_turbine 113 [some (vR 11 (some a0)), some (vI x1), some (vI x2)] [vI v105] (I105, L105, (ra105, rb105, rc105, rd105), zK0 sl sx, c105) x M' (zK0 sl sx) from ⟨zR_call (rest := []) 16 q105.1 (fun n => (if_neg g2).trans ((if_neg g3).trans ((if_pos g9).trans ((if_neg g10).trans ((if_neg g12).trans rfl))))) w105.1, w105.2⟩
              rcases zit h with ⟨g14, h⟩ | ⟨g14, h⟩
              · obtain ⟨rfl, rfl⟩ := zrI h
                exact ⟨zR_ret 3 ((if_pos g14).trans rfl), rfl⟩
              · obtain ⟨rfl, rfl⟩ := zrI h
                exact ⟨zR_ret 4 ((if_neg g14).trans rfl), rfl⟩
        · rcases zit h with ⟨g15, h⟩ | ⟨g15, h⟩
          · obtain ⟨g16, h⟩ := zIx h
            obtain ⟨rfl, rfl⟩ := zrI h
            exact ⟨zR_ret 18 ((if_neg g2).trans ((if_neg g3).trans ((if_neg g9).trans ((if_pos g15).trans ((if_pos g16).trans rfl))))), rfl⟩
          · rcases zit h with ⟨g17, h⟩ | ⟨g17, h⟩
            · obtain ⟨g18, h⟩ := zIx h
              obtain ⟨rfl, rfl⟩ := zrI h
              exact ⟨zR_ret 19 ((if_neg g2).trans ((if_neg g3).trans ((if_neg g9).trans ((if_neg g15).trans ((if_pos g17).trans ((if_pos g18).trans rfl)))))), rfl⟩
            · obtain ⟨g19, h⟩ := zIx h
              obtain ⟨rfl, rfl⟩ := zrI h
              exact ⟨zR_ret 18 ((if_neg g2).trans ((if_neg g3).trans ((if_neg g9).trans ((if_neg g15).trans ((if_neg g17).trans ((if_pos g19).trans rfl)))))), rfl⟩
set_option maxRecDepth 20000 in
theorem L_Mo_wind {N d sl : Nat} {sx : Nat → Int} {a0 : Nat} {x1 : Int} {M : ZM} {x : Int} {M' : ZM} (h : Mo_wind N a0 x1 M = some (x, M')) (hK : mK M = zK0 sl sx) : zLI (d + 5) tb_X13_wind 0 [some (vR 11 (some a0)), some (vI x1)] [] M x M' (zK0 sl sx) := by
  obtain ⟨I0, L0, ⟨ra0, rb0, rc0, rd0⟩, K0, c0⟩ := M
  obtain rfl : K0 = zK0 sl sx := hK
  replace h := zWx h
  obtain ⟨M102, f102, h⟩ := zBvx h
  have q102 := L_Mo_looks (d := (d + 3)) f102 rfl
  obtain ⟨I102, L102, ⟨ra102, rb102, rc102, rd102⟩, K102, c102⟩ := M102
  obtain rfl : K102 = zK0 sl sx := q102.2
  suffices w102 : zLI (d + 5) tb_X13_wind 9 [some (vR 11 (some a0)), some (vI x1)] [] (I102, L102, (ra102, rb102, rc102, rd102), zK0 sl sx, c102) x M' (zK0 sl sx) from ⟨zR_call (rest := []) 5 q102.1 (fun n => rfl) w102.1, w102.2⟩
  obtain ⟨v103, M103, f103, h⟩ := zBx h
  have q103 := L_Mo_isTurbine (d := (d + 4)) f103 rfl
  obtain ⟨I103, L103, ⟨ra103, rb103, rc103, rd103⟩, K103, c103⟩ := M103
  obtain rfl : K103 = zK0 sl sx := q103.2
  suffices w103 : zLI (d + 5) tb_X13_wind 14 [some (vR 11 (some a0)), some (vI x1)] [vI v103] (I103, L103, (ra103, rb103, rc103, rd103), zK0 sl sx, c103) x M' (zK0 sl sx) from ⟨zR_call (rest := []) 3 q103.1 (fun n => rfl) w103.1, w103.2⟩
  rcases zit h with ⟨g1, h⟩ | ⟨g1, h⟩
  · obtain ⟨rfl, rfl⟩ := zrI h
    exact ⟨zR_ret 3 ((if_pos g1).trans rfl), rfl⟩
  · obtain ⟨v104, M104, f104, h⟩ := zBx h
    have q104 := L_Mo_windOf (d := d) f104 rfl
    obtain ⟨I104, L104, ⟨ra104, rb104, rc104, rd104⟩, K104, c104⟩ := M104
    obtain rfl : K104 = zK0 sl sx := q104.2
    suffices w104 : zLI (d + 5) tb_X13_wind 22 [some (vR 11 (some a0)), some (vI x1)] [vI v104] (I104, L104, (ra104, rb104, rc104, rd104), zK0 sl sx, c104) x M' (zK0 sl sx) from ⟨zR_call (rest := []) 4 q104.1 (fun n => (if_neg g1).trans rfl) w104.1, w104.2⟩
    obtain ⟨rfl, rfl⟩ := zrI h
    exact ⟨zR_ret 2 (rfl), rfl⟩
set_option maxRecDepth 20000 in
theorem L_Mo_power {N d sl : Nat} {sx : Nat → Int} {a0 : Nat} {x1 : Int} {M : ZM} {x : Int} {M' : ZM} (h : Mo_power N a0 x1 M = some (x, M')) (hK : mK M = zK0 sl sx) : zLI (d + 6) tb_X13_power 0 [some (vR 11 (some a0)), some (vI x1)] [] M x M' (zK0 sl sx) := by
  obtain ⟨I0, L0, ⟨ra0, rb0, rc0, rd0⟩, K0, c0⟩ := M
  obtain rfl : K0 = zK0 sl sx := hK
  replace h := zWx h
  obtain ⟨M102, f102, h⟩ := zBvx h
  have q102 := L_Mo_looks (d := (d + 4)) f102 rfl
  obtain ⟨I102, L102, ⟨ra102, rb102, rc102, rd102⟩, K102, c102⟩ := M102
  obtain rfl : K102 = zK0 sl sx := q102.2
  suffices w102 : zLI (d + 6) tb_X13_power 9 [some (vR 11 (some a0)), some (vI x1)] [] (I102, L102, (ra102, rb102, rc102, rd102), zK0 sl sx, c102) x M' (zK0 sl sx) from ⟨zR_call (rest := []) 5 q102.1 (fun n => rfl) w102.1, w102.2⟩
  obtain ⟨v103, M103, f103, h⟩ := zBx h
  have q103 := L_Mo_isTurbine (d := (d + 5)) f103 rfl
  obtain ⟨I103, L103, ⟨ra103, rb103, rc103, rd103⟩, K103, c103⟩ := M103
  obtain rfl : K103 = zK0 sl sx := q103.2
  suffices w103 : zLI (d + 6) tb_X13_power 14 [some (vR 11 (some a0)), some (vI x1)] [vI v103] (I103, L103, (ra103, rb103, rc103, rd103), zK0 sl sx, c103) x M' (zK0 sl sx) from ⟨zR_call (rest := []) 3 q103.1 (fun n => rfl) w103.1, w103.2⟩
  rcases zit h with ⟨g1, h⟩ | ⟨g1, h⟩
  · obtain ⟨rfl, rfl⟩ := zrI h
    exact ⟨zR_ret 3 ((if_pos g1).trans rfl), rfl⟩
  · obtain ⟨v104, M104, f104, h⟩ := zBx h
    have q104 := L_Mo_powerOf (d := d) f104 rfl
    obtain ⟨I104, L104, ⟨ra104, rb104, rc104, rd104⟩, K104, c104⟩ := M104
    obtain rfl : K104 = zK0 sl sx := q104.2
    suffices w104 : zLI (d + 6) tb_X13_power 22 [some (vR 11 (some a0)), some (vI x1)] [vI v104] (I104, L104, (ra104, rb104, rc104, rd104), zK0 sl sx, c104) x M' (zK0 sl sx) from ⟨zR_call (rest := []) 4 q104.1 (fun n => (if_neg g1).trans rfl) w104.1, w104.2⟩
    obtain ⟨rfl, rfl⟩ := zrI h
    exact ⟨zR_ret 2 (rfl), rfl⟩
set_option maxRecDepth 20000 in
theorem L_Mo_carried {N d sl : Nat} {sx : Nat → Int} {a0 : Nat} {x1 : Int} {M : ZM} {x : Int} {M' : ZM} (h : Mo_carried N a0 x1 M = some (x, M')) (hK : mK M = zK0 sl sx) : zLI (d + 8) tb_X13_carried 0 [some (vR 11 (some a0)), some (vI x1)] [] M x M' (zK0 sl sx) := by
  obtain ⟨I0, L0, ⟨ra0, rb0, rc0, rd0⟩, K0, c0⟩ := M
  obtain rfl : K0 = zK0 sl sx := hK
  replace h := zWx h
  obtain ⟨v102, M102, f102, h⟩ := zBx h
  have q102 := L_Mo_isTurbine (d := (d + 7)) f102 rfl
  obtain ⟨I102, L102, ⟨ra102, rb102, rc102, rd102⟩, K102, c102⟩ := M102
  obtain rfl : K102 = zK0 sl sx := q102.2
  suffices w102 : zLI (d + 8) tb_X13_carried 10 [some (vR 11 (some a0)), some (vI x1)] [vI v102] (I102, L102, (ra102, rb102, rc102, rd102), zK0 sl sx, c102) x M' (zK0 sl sx) from ⟨zR_call (rest := []) 6 q102.1 (fun n => rfl) w102.1, w102.2⟩
  rcases zit h with ⟨g1, h⟩ | ⟨g1, h⟩
  · obtain ⟨rfl, rfl⟩ := zrI h
    exact ⟨zR_ret 3 ((if_pos g1).trans rfl), rfl⟩
  · obtain ⟨v103, M103, f103, h⟩ := zBx h
    have q103 := L_Mo_homeNow (d := d) f103 rfl
    obtain ⟨I103, L103, ⟨ra103, rb103, rc103, rd103⟩, K103, c103⟩ := M103
    obtain rfl : K103 = zK0 sl sx := q103.2
    suffices w103 : zLI (d + 8) tb_X13_carried 19 [some (vR 11 (some a0)), some (vI x1)] [vI v103] (I103, L103, (ra103, rb103, rc103, rd103), zK0 sl sx, c103) x M' (zK0 sl sx) from ⟨zR_call (rest := []) 3 q103.1 (fun n => (if_neg g1).trans rfl) w103.1, w103.2⟩
    obtain ⟨g2, h⟩ := zIx h
    rcases zit h with ⟨g3, h⟩ | ⟨g3, h⟩
    · obtain ⟨rfl, rfl⟩ := zrI h
      exact ⟨zR_ret 9 ((if_pos g2).trans ((if_pos g3).trans rfl)), rfl⟩
    · obtain ⟨g4, h⟩ := zIx h
      obtain ⟨rfl, rfl⟩ := zrI h
      exact ⟨zR_ret 11 ((if_pos g2).trans ((if_neg g3).trans ((if_pos g4).trans rfl))), rfl⟩
set_option maxRecDepth 20000 in
theorem L_Mo_home {N d sl : Nat} {sx : Nat → Int} {a0 : Nat} {M : ZM} {x : Int} {M' : ZM} (h : Mo_home N a0 M = some (x, M')) (hK : mK M = zK0 sl sx) : zLI (d + 8) tb_X13_home 0 [some (vR 11 (some a0))] [] M x M' (zK0 sl sx) := by
  obtain ⟨I0, L0, ⟨ra0, rb0, rc0, rd0⟩, K0, c0⟩ := M
  obtain rfl : K0 = zK0 sl sx := hK
  replace h := zWx h
  obtain ⟨v102, M102, f102, h⟩ := zBx h
  have q102 := L_Mo_homeNow (d := d) f102 rfl
  obtain ⟨I102, L102, ⟨ra102, rb102, rc102, rd102⟩, K102, c102⟩ := M102
  obtain rfl : K102 = zK0 sl sx := q102.2
  suffices w102 : zLI (d + 8) tb_X13_home 9 [some (vR 11 (some a0))] [vI v102] (I102, L102, (ra102, rb102, rc102, rd102), zK0 sl sx, c102) x M' (zK0 sl sx) from ⟨zR_call (rest := []) 5 q102.1 (fun n => rfl) w102.1, w102.2⟩
  obtain ⟨rfl, rfl⟩ := zrI h
  exact ⟨zR_ret 1 (rfl), rfl⟩
set_option maxRecDepth 20000 in
theorem L_Mo_keeps_49 {N d sl : Nat} {sx : Nat → Int} {a0 : Nat} {M : ZM} {M' : ZM} (h : Mo_keeps_49 N a0 M = some M') (hK : mK M = zK0 sl sx) : zLV (d + 1) tb_X13_keeps 49 [some (vR 11 (some a0)), none] [] M M' (zK0 sl sx) := by
  obtain ⟨I0, L0, ⟨ra0, rb0, rc0, rd0⟩, K0, c0⟩ := M
  obtain rfl : K0 = zK0 sl sx := hK
  obtain ⟨M101, f101, h⟩ := zBvx h
  have q101 := L_Mo_copies_81_85 (d := d) f101 rfl
  obtain ⟨I101, L101, ⟨ra101, rb101, rc101, rd101⟩, K101, c101⟩ := M101
  obtain rfl : K101 = zK0 sl sx := q101.2
  suffices w101 : zLV (d + 1) tb_X13_keeps 68 [some (vR 11 (some a0)), none] [] (I101, L101, (ra101, rb101, rc101, rd101), zK0 sl sx, c101) M' (zK0 sl sx) from ⟨zR_call (rest := []) 10 q101.1 (fun n => rfl) w101.1, w101.2⟩
  replace h := zWx h
  obtain rfl := zrV h
  exact ⟨zR_ret 7 (rfl), rfl⟩
set_option maxRecDepth 20000 in
theorem L_Mo_keeps_11 {N d sl : Nat} {sx : Nat → Int} : ∀ {n : Nat} {a0 : Nat} {x1 : Int} {M : ZM} {M' : ZM}, Mo_keeps_11 N n a0 x1 M = some M' → mK M = zK0 sl sx → zLV (d + 1) tb_X13_keeps 11 [some (vR 11 (some a0)), some (vI x1)] [] M M' (zK0 sl sx) := by
  intro n
  induction n with
  | zero => intros; rename_i h _; cases h
  | succ n ih =>
    intro a0 x1 M M' h hK
    obtain ⟨I0, L0, ⟨ra0, rb0, rc0, rd0⟩, K0, c0⟩ := M
    obtain rfl : K0 = zK0 sl sx := hK
    rcases zit h with ⟨g1, h⟩ | ⟨g1, h⟩
    · obtain ⟨g2, h⟩ := zIx h
      obtain ⟨g3, h⟩ := zIx h
      replace h := zWx h
      replace h := zWx h
      have q := ih h rfl
      exact ⟨zR_go 15 q.1 (fun n => (if_pos g1).trans ((if_pos g2).trans ((if_pos g3).trans rfl))), q.2⟩
    · replace h := zWx h
      have q := L_Mo_keeps_49 (d := d) h rfl
      exact ⟨zR_go 9 (zR_up (ls' := [some (vR 11 (some a0)), some (vI x1)]) q.1 ⟨.inr rfl, .inl rfl, trivial⟩) (fun n => (if_neg g1).trans rfl), q.2⟩
set_option maxRecDepth 20000 in
theorem L_Mo_keeps {N d sl : Nat} {sx : Nat → Int} {a0 : Nat} {M : ZM} {M' : ZM} (h : Mo_keeps N a0 M = some M') (hK : mK M = zK0 sl sx) : zLV (d + 1) tb_X13_keeps 0 [some (vR 11 (some a0)), none] [] M M' (zK0 sl sx) := by
  obtain ⟨I0, L0, ⟨ra0, rb0, rc0, rd0⟩, K0, c0⟩ := M
  obtain rfl : K0 = zK0 sl sx := hK
  rcases zit h with ⟨g1, h⟩ | ⟨g1, h⟩
  · have q := L_Mo_keeps_11 (d := d) h rfl
    exact ⟨zR_go 6 q.1 (fun n => (if_pos g1).trans rfl), q.2⟩
  · have q := L_Mo_keeps_49 (d := d) h rfl
    exact ⟨zR_go 4 q.1 (fun n => (if_neg g1).trans rfl), q.2⟩
set_option maxRecDepth 20000 in
theorem L_Mo_turn {N d sl : Nat} {sx : Nat → Int} {a0 : Nat} {x1 : Int} {x2 : Int} {M : ZM} {x : Int} {M' : ZM} (h : Mo_turn N a0 x1 x2 M = some (x, M')) (hK : mK M = zK0 sl sx) : zLI (d + 2) tb_X13_turn 0 [some (vR 11 (some a0)), some (vI x1), some (vI x2), none] [] M x M' (zK0 sl sx) := by
  obtain ⟨I0, L0, ⟨ra0, rb0, rc0, rd0⟩, K0, c0⟩ := M
  obtain rfl : K0 = zK0 sl sx := hK
  replace h := zWx h
  obtain ⟨v102, M102, f102, h⟩ := zBx h
  have q102 := L_Mo_isTurbine (d := (d + 1)) f102 rfl
  obtain ⟨I102, L102, ⟨ra102, rb102, rc102, rd102⟩, K102, c102⟩ := M102
  obtain rfl : K102 = zK0 sl sx := q102.2
  suffices w102 : zLI (d + 2) tb_X13_turn 10 [some (vR 11 (some a0)), some (vI x1), some (vI x2), none] [vI v102] (I102, L102, (ra102, rb102, rc102, rd102), zK0 sl sx, c102) x M' (zK0 sl sx) from ⟨zR_call (rest := []) 6 q102.1 (fun n => rfl) w102.1, w102.2⟩
  rcases zit h with ⟨g1, h⟩ | ⟨g1, h⟩
  · obtain ⟨rfl, rfl⟩ := zrI h
    exact ⟨zR_ret 3 ((if_pos g1).trans rfl), rfl⟩
  · obtain ⟨v103, M103, f103, h⟩ := zBx h
    have q103 := L_Mo_within (d := (d + 1)) f103 rfl
    obtain ⟨I103, L103, ⟨ra103, rb103, rc103, rd103⟩, K103, c103⟩ := M103
    obtain rfl : K103 = zK0 sl sx := q103.2
    suffices w103 : zLI (d + 2) tb_X13_turn 19 [some (vR 11 (some a0)), some (vI x1), some (vI x2), none] [vI v103] (I103, L103, (ra103, rb103, rc103, rd103), zK0 sl sx, c103) x M' (zK0 sl sx) from ⟨zR_call (rest := []) 5 q103.1 (fun n => (if_neg g1).trans rfl) w103.1, w103.2⟩
    rcases zit h with ⟨g2, h⟩ | ⟨g2, h⟩
    · obtain ⟨rfl, rfl⟩ := zrI h
      exact ⟨zR_ret 3 ((if_pos g2).trans rfl), rfl⟩
    · obtain ⟨M104, f104, h⟩ := zBvx h
      have q104 := L_Mo_keeps (d := d) f104 rfl
      obtain ⟨I104, L104, ⟨ra104, rb104, rc104, rd104⟩, K104, c104⟩ := M104
      obtain rfl : K104 = zK0 sl sx := q104.2
      suffices w104 : zLI (d + 2) tb_X13_turn 28 [some (vR 11 (some a0)), some (vI x1), some (vI x2), none] [] (I104, L104, (ra104, rb104, rc104, rd104), zK0 sl sx, c104) x M' (zK0 sl sx) from ⟨zR_call (rest := []) 3 q104.1 (fun n => (if_neg g2).trans rfl) w104.1, w104.2⟩
      obtain ⟨g3, h⟩ := zIx h
      replace h := zWx h
      obtain ⟨g4, h⟩ := zIx h
      replace h := zWx h
      obtain ⟨rfl, rfl⟩ := zrI h
      exact ⟨zR_ret 16 ((if_pos g3).trans ((if_pos g4).trans rfl)), rfl⟩
set_option maxRecDepth 20000 in
theorem L_Mo_canMend {N d sl : Nat} {sx : Nat → Int} {a0 : Nat} {x1 : Int} {M : ZM} {x : Int} {M' : ZM} (h : Mo_canMend N a0 x1 M = some (x, M')) (hK : mK M = zK0 sl sx) : zLI (d + 1) tb_X13_canMend 0 [some (vR 11 (some a0)), some (vI x1)] [] M x M' (zK0 sl sx) := by
  obtain ⟨I0, L0, ⟨ra0, rb0, rc0, rd0⟩, K0, c0⟩ := M
  obtain rfl : K0 = zK0 sl sx := hK
  obtain ⟨v101, M101, f101, h⟩ := zBx h
  have q101 := L_Mo_isBroken (d := d) f101 rfl
  obtain ⟨I101, L101, ⟨ra101, rb101, rc101, rd101⟩, K101, c101⟩ := M101
  obtain rfl : K101 = zK0 sl sx := q101.2
  suffices w101 : zLI (d + 1) tb_X13_canMend 5 [some (vR 11 (some a0)), some (vI x1)] [vI v101] (I101, L101, (ra101, rb101, rc101, rd101), zK0 sl sx, c101) x M' (zK0 sl sx) from ⟨zR_call (rest := []) 3 q101.1 (fun n => rfl) w101.1, w101.2⟩
  rcases zit h with ⟨g1, h⟩ | ⟨g1, h⟩
  · obtain ⟨rfl, rfl⟩ := zrI h
    exact ⟨zR_ret 3 ((if_pos g1).trans rfl), rfl⟩
  · obtain ⟨g2, h⟩ := zgn h
    rcases zit h with ⟨g3, h⟩ | ⟨g3, h⟩
    · obtain ⟨rfl, rfl⟩ := zrI h
      exact ⟨zR_ret 14 ((if_neg g1).trans ((if_neg g2).trans ((if_pos g3).trans rfl))), rfl⟩
    · obtain ⟨rfl, rfl⟩ := zrI h
      exact ⟨zR_ret 13 ((if_neg g1).trans ((if_neg g2).trans ((if_neg g3).trans rfl))), rfl⟩
set_option maxRecDepth 20000 in
theorem L_Mo_mends {N d sl : Nat} {sx : Nat → Int} {a0 : Nat} {x1 : Int} {M : ZM} {M' : ZM} (h : Mo_mends N a0 x1 M = some M') (hK : mK M = zK0 sl sx) : zLV (d + 0) tb_X13_mends 0 [some (vR 11 (some a0)), some (vI x1)] [] M M' (zK0 sl sx) := by
  obtain ⟨I0, L0, ⟨ra0, rb0, rc0, rd0⟩, K0, c0⟩ := M
  obtain rfl : K0 = zK0 sl sx := hK
  replace h := zWx h
  obtain ⟨g1, h⟩ := zIx h
  replace h := zWx h
  obtain rfl := zrV h
  exact ⟨zR_ret 20 ((if_pos g1).trans rfl), rfl⟩
set_option maxRecDepth 20000 in
theorem L_Mo_shut {N d sl : Nat} {sx : Nat → Int} {a0 : Nat} {x1 : Int} {M : ZM} {x : Int} {M' : ZM} (h : Mo_shut N a0 x1 M = some (x, M')) (hK : mK M = zK0 sl sx) : zLI (d + 2) tb_X13_shut 0 [some (vR 11 (some a0)), some (vI x1)] [] M x M' (zK0 sl sx) := by
  obtain ⟨I0, L0, ⟨ra0, rb0, rc0, rd0⟩, K0, c0⟩ := M
  obtain rfl : K0 = zK0 sl sx := hK
  replace h := zWx h
  obtain ⟨v102, M102, f102, h⟩ := zBx h
  have q102 := L_Mo_isTurbine (d := (d + 1)) f102 rfl
  obtain ⟨I102, L102, ⟨ra102, rb102, rc102, rd102⟩, K102, c102⟩ := M102
  obtain rfl : K102 = zK0 sl sx := q102.2
  suffices w102 : zLI (d + 2) tb_X13_shut 10 [some (vR 11 (some a0)), some (vI x1)] [vI v102] (I102, L102, (ra102, rb102, rc102, rd102), zK0 sl sx, c102) x M' (zK0 sl sx) from ⟨zR_call (rest := []) 6 q102.1 (fun n => rfl) w102.1, w102.2⟩
  rcases zit h with ⟨g1, h⟩ | ⟨g1, h⟩
  · obtain ⟨rfl, rfl⟩ := zrI h
    exact ⟨zR_ret 3 ((if_pos g1).trans rfl), rfl⟩
  · obtain ⟨v103, M103, f103, h⟩ := zBx h
    have q103 := L_Mo_isShut (d := (d + 1)) f103 rfl
    obtain ⟨I103, L103, ⟨ra103, rb103, rc103, rd103⟩, K103, c103⟩ := M103
    obtain rfl : K103 = zK0 sl sx := q103.2
    suffices w103 : zLI (d + 2) tb_X13_shut 18 [some (vR 11 (some a0)), some (vI x1)] [vI v103] (I103, L103, (ra103, rb103, rc103, rd103), zK0 sl sx, c103) x M' (zK0 sl sx) from ⟨zR_call (rest := []) 4 q103.1 (fun n => (if_neg g1).trans rfl) w103.1, w103.2⟩
    rcases zit h with ⟨g2, h⟩ | ⟨g2, h⟩
    · obtain ⟨M104, f104, h⟩ := zBvx h
      have q104 := L_Mo_keeps (d := d) f104 rfl
      obtain ⟨I104, L104, ⟨ra104, rb104, rc104, rd104⟩, K104, c104⟩ := M104
      obtain rfl : K104 = zK0 sl sx := q104.2
      suffices w104 : zLI (d + 2) tb_X13_shut 27 [some (vR 11 (some a0)), some (vI x1)] [] (I104, L104, (ra104, rb104, rc104, rd104), zK0 sl sx, c104) x M' (zK0 sl sx) from ⟨zR_call (rest := []) 3 q104.1 (fun n => (if_pos g2).trans rfl) w104.1, w104.2⟩
      replace h := zWx h
      obtain ⟨rfl, rfl⟩ := zrI h
      exact ⟨zR_ret 12 (rfl), rfl⟩
    · obtain ⟨rfl, rfl⟩ := zrI h
      exact ⟨zR_ret 3 ((if_neg g2).trans rfl), rfl⟩
set_option maxRecDepth 20000 in
theorem L_Mo_open {N d sl : Nat} {sx : Nat → Int} {a0 : Nat} {x1 : Int} {M : ZM} {x : Int} {M' : ZM} (h : Mo_open N a0 x1 M = some (x, M')) (hK : mK M = zK0 sl sx) : zLI (d + 2) tb_X13_open 0 [some (vR 11 (some a0)), some (vI x1)] [] M x M' (zK0 sl sx) := by
  obtain ⟨I0, L0, ⟨ra0, rb0, rc0, rd0⟩, K0, c0⟩ := M
  obtain rfl : K0 = zK0 sl sx := hK
  replace h := zWx h
  obtain ⟨v102, M102, f102, h⟩ := zBx h
  have q102 := L_Mo_isTurbine (d := (d + 1)) f102 rfl
  obtain ⟨I102, L102, ⟨ra102, rb102, rc102, rd102⟩, K102, c102⟩ := M102
  obtain rfl : K102 = zK0 sl sx := q102.2
  suffices w102 : zLI (d + 2) tb_X13_open 10 [some (vR 11 (some a0)), some (vI x1)] [vI v102] (I102, L102, (ra102, rb102, rc102, rd102), zK0 sl sx, c102) x M' (zK0 sl sx) from ⟨zR_call (rest := []) 6 q102.1 (fun n => rfl) w102.1, w102.2⟩
  rcases zit h with ⟨g1, h⟩ | ⟨g1, h⟩
  · obtain ⟨rfl, rfl⟩ := zrI h
    exact ⟨zR_ret 3 ((if_pos g1).trans rfl), rfl⟩
  · obtain ⟨v103, M103, f103, h⟩ := zBx h
    have q103 := L_Mo_isShut (d := (d + 1)) f103 rfl
    obtain ⟨I103, L103, ⟨ra103, rb103, rc103, rd103⟩, K103, c103⟩ := M103
    obtain rfl : K103 = zK0 sl sx := q103.2
    suffices w103 : zLI (d + 2) tb_X13_open 18 [some (vR 11 (some a0)), some (vI x1)] [vI v103] (I103, L103, (ra103, rb103, rc103, rd103), zK0 sl sx, c103) x M' (zK0 sl sx) from ⟨zR_call (rest := []) 4 q103.1 (fun n => (if_neg g1).trans rfl) w103.1, w103.2⟩
    rcases zit h with ⟨g2, h⟩ | ⟨g2, h⟩
    · obtain ⟨rfl, rfl⟩ := zrI h
      exact ⟨zR_ret 3 ((if_pos g2).trans rfl), rfl⟩
    · obtain ⟨M104, f104, h⟩ := zBvx h
      have q104 := L_Mo_keeps (d := d) f104 rfl
      obtain ⟨I104, L104, ⟨ra104, rb104, rc104, rd104⟩, K104, c104⟩ := M104
      obtain rfl : K104 = zK0 sl sx := q104.2
      suffices w104 : zLI (d + 2) tb_X13_open 27 [some (vR 11 (some a0)), some (vI x1)] [] (I104, L104, (ra104, rb104, rc104, rd104), zK0 sl sx, c104) x M' (zK0 sl sx) from ⟨zR_call (rest := []) 3 q104.1 (fun n => (if_neg g2).trans rfl) w104.1, w104.2⟩
      replace h := zWx h
      obtain ⟨rfl, rfl⟩ := zrI h
      exact ⟨zR_ret 14 (rfl), rfl⟩
set_option maxRecDepth 20000 in
theorem L_Mo_mend {N d sl : Nat} {sx : Nat → Int} {a0 : Nat} {x1 : Int} {M : ZM} {x : Int} {M' : ZM} (h : Mo_mend N a0 x1 M = some (x, M')) (hK : mK M = zK0 sl sx) : zLI (d + 2) tb_X13_mend 0 [some (vR 11 (some a0)), some (vI x1)] [] M x M' (zK0 sl sx) := by
  obtain ⟨I0, L0, ⟨ra0, rb0, rc0, rd0⟩, K0, c0⟩ := M
  obtain rfl : K0 = zK0 sl sx := hK
  replace h := zWx h
  obtain ⟨v102, M102, f102, h⟩ := zBx h
  have q102 := L_Mo_isTurbine (d := (d + 1)) f102 rfl
  obtain ⟨I102, L102, ⟨ra102, rb102, rc102, rd102⟩, K102, c102⟩ := M102
  obtain rfl : K102 = zK0 sl sx := q102.2
  suffices w102 : zLI (d + 2) tb_X13_mend 10 [some (vR 11 (some a0)), some (vI x1)] [vI v102] (I102, L102, (ra102, rb102, rc102, rd102), zK0 sl sx, c102) x M' (zK0 sl sx) from ⟨zR_call (rest := []) 6 q102.1 (fun n => rfl) w102.1, w102.2⟩
  rcases zit h with ⟨g1, h⟩ | ⟨g1, h⟩
  · obtain ⟨rfl, rfl⟩ := zrI h
    exact ⟨zR_ret 3 ((if_pos g1).trans rfl), rfl⟩
  · obtain ⟨v103, M103, f103, h⟩ := zBx h
    have q103 := L_Mo_canMend (d := d) f103 rfl
    obtain ⟨I103, L103, ⟨ra103, rb103, rc103, rd103⟩, K103, c103⟩ := M103
    obtain rfl : K103 = zK0 sl sx := q103.2
    suffices w103 : zLI (d + 2) tb_X13_mend 18 [some (vR 11 (some a0)), some (vI x1)] [vI v103] (I103, L103, (ra103, rb103, rc103, rd103), zK0 sl sx, c103) x M' (zK0 sl sx) from ⟨zR_call (rest := []) 4 q103.1 (fun n => (if_neg g1).trans rfl) w103.1, w103.2⟩
    rcases zit h with ⟨g2, h⟩ | ⟨g2, h⟩
    · obtain ⟨rfl, rfl⟩ := zrI h
      exact ⟨zR_ret 3 ((if_pos g2).trans rfl), rfl⟩
    · obtain ⟨M104, f104, h⟩ := zBvx h
      have q104 := L_Mo_keeps (d := d) f104 rfl
      obtain ⟨I104, L104, ⟨ra104, rb104, rc104, rd104⟩, K104, c104⟩ := M104
      obtain rfl : K104 = zK0 sl sx := q104.2
      suffices w104 : zLI (d + 2) tb_X13_mend 27 [some (vR 11 (some a0)), some (vI x1)] [] (I104, L104, (ra104, rb104, rc104, rd104), zK0 sl sx, c104) x M' (zK0 sl sx) from ⟨zR_call (rest := []) 3 q104.1 (fun n => (if_neg g2).trans rfl) w104.1, w104.2⟩
      obtain ⟨M105, f105, h⟩ := zBvx h
      have q105 := L_Mo_mends (d := (d + 1)) f105 rfl
      obtain ⟨I105, L105, ⟨ra105, rb105, rc105, rd105⟩, K105, c105⟩ := M105
      obtain rfl : K105 = zK0 sl sx := q105.2
      suffices w105 : zLI (d + 2) tb_X13_mend 32 [some (vR 11 (some a0)), some (vI x1)] [] (I105, L105, (ra105, rb105, rc105, rd105), zK0 sl sx, c105) x M' (zK0 sl sx) from ⟨zR_call (rest := []) 3 q105.1 (fun n => rfl) w105.1, w105.2⟩
      obtain ⟨rfl, rfl⟩ := zrI h
      exact ⟨zR_ret 2 (rfl), rfl⟩
set_option maxRecDepth 20000 in
theorem L_Mo_step {N d sl : Nat} {sx : Nat → Int} {a0 : Nat} {M : ZM} {x : Int} {M' : ZM} (h : Mo_step N a0 M = some (x, M')) (hK : mK M = zK0 sl sx) : zLI (d + 10) tb_X13_step 0 [some (vR 11 (some a0))] [] M x M' (zK0 sl sx) := by
  obtain ⟨I0, L0, ⟨ra0, rb0, rc0, rd0⟩, K0, c0⟩ := M
  obtain rfl : K0 = zK0 sl sx := hK
  replace h := zWx h
  obtain ⟨M102, f102, h⟩ := zBvx h
  have q102 := L_Mo_keeps (d := (d + 8)) f102 rfl
  obtain ⟨I102, L102, ⟨ra102, rb102, rc102, rd102⟩, K102, c102⟩ := M102
  obtain rfl : K102 = zK0 sl sx := q102.2
  suffices w102 : zLI (d + 10) tb_X13_step 9 [some (vR 11 (some a0))] [] (I102, L102, (ra102, rb102, rc102, rd102), zK0 sl sx, c102) x M' (zK0 sl sx) from ⟨zR_call (rest := []) 5 q102.1 (fun n => rfl) w102.1, w102.2⟩
  obtain ⟨v103, M103, f103, h⟩ := zBx h
  have q103 := L_Mo_passes (d := d) f103 rfl
  obtain ⟨I103, L103, ⟨ra103, rb103, rc103, rd103⟩, K103, c103⟩ := M103
  obtain rfl : K103 = zK0 sl sx := q103.2
  suffices w103 : zLI (d + 10) tb_X13_step 13 [some (vR 11 (some a0))] [vI v103] (I103, L103, (ra103, rb103, rc103, rd103), zK0 sl sx, c103) x M' (zK0 sl sx) from ⟨zR_call (rest := []) 2 q103.1 (fun n => rfl) w103.1, w103.2⟩
  obtain ⟨rfl, rfl⟩ := zrI h
  exact ⟨zR_ret 1 (rfl), rfl⟩
set_option maxRecDepth 20000 in
theorem L_Mo_undo {N d sl : Nat} {sx : Nat → Int} {a0 : Nat} {M : ZM} {x : Int} {M' : ZM} (h : Mo_undo N a0 M = some (x, M')) (hK : mK M = zK0 sl sx) : zLI (d + 1) tb_X13_undo 0 [some (vR 11 (some a0))] [] M x M' (zK0 sl sx) := by
  obtain ⟨I0, L0, ⟨ra0, rb0, rc0, rd0⟩, K0, c0⟩ := M
  obtain rfl : K0 = zK0 sl sx := hK
  replace h := zWx h
  rcases zit h with ⟨g1, h⟩ | ⟨g1, h⟩
  · obtain ⟨rfl, rfl⟩ := zrI h
    exact ⟨zR_ret 8 ((if_pos g1).trans rfl), rfl⟩
  · replace h := zWx h
    obtain ⟨M103, f103, h⟩ := zBvx h
    have q103 := L_Mo_copies_85_81 (d := d) f103 rfl
    obtain ⟨I103, L103, ⟨ra103, rb103, rc103, rd103⟩, K103, c103⟩ := M103
    obtain rfl : K103 = zK0 sl sx := q103.2
    suffices w103 : zLI (d + 1) tb_X13_undo 43 [some (vR 11 (some a0))] [] (I103, L103, (ra103, rb103, rc103, rd103), zK0 sl sx, c103) x M' (zK0 sl sx) from ⟨zR_call (rest := []) 22 q103.1 (fun n => (if_neg g1).trans rfl) w103.1, w103.2⟩
    obtain ⟨rfl, rfl⟩ := zrI h
    exact ⟨zR_ret 2 (rfl), rfl⟩
set_option maxRecDepth 20000 in
theorem L_Mo_isDone_60 {N d sl : Nat} {sx : Nat → Int} {a0 : Nat} {x2 : Int} {y0 : Int} {y1 : Int} {M : ZM} {x : Int} {M' : ZM} (h : Mo_isDone_60 N a0 x2 y0 y1 M = some (x, M')) (hK : mK M = zK0 sl sx) : zLI (d + 10) tb_X13_isDone 60 [some (vR 11 (some a0)), none, some (vI x2), none] [vI y1, vI y0] M x M' (zK0 sl sx) := by
  obtain ⟨I0, L0, ⟨ra0, rb0, rc0, rd0⟩, K0, c0⟩ := M
  obtain rfl : K0 = zK0 sl sx := hK
  rcases zit h with ⟨g1, h⟩ | ⟨g1, h⟩
  · obtain ⟨rfl, rfl⟩ := zrI h
    exact ⟨zR_ret 3 ((if_pos g1).trans rfl), rfl⟩
  · replace h := zWx h
    obtain ⟨rfl, rfl⟩ := zrI h
    exact ⟨zR_ret 14 ((if_neg g1).trans rfl), rfl⟩
set_option maxRecDepth 20000 in
theorem L_Mo_isDone_45 {N d sl : Nat} {sx : Nat → Int} {a0 : Nat} {x2 : Int} {x3 : Int} {M : ZM} {x : Int} {M' : ZM} (h : Mo_isDone_45 N a0 x2 x3 M = some (x, M')) (hK : mK M = zK0 sl sx) : zLI (d + 10) tb_X13_isDone 45 [some (vR 11 (some a0)), none, some (vI x2), some (vI x3)] [] M x M' (zK0 sl sx) := by
  obtain ⟨I0, L0, ⟨ra0, rb0, rc0, rd0⟩, K0, c0⟩ := M
  obtain rfl : K0 = zK0 sl sx := hK
  obtain ⟨v101, M101, f101, h⟩ := zBx h
  have q101 := L_Mo_isShut (d := (d + 9)) f101 rfl
  obtain ⟨I101, L101, ⟨ra101, rb101, rc101, rd101⟩, K101, c101⟩ := M101
  obtain rfl : K101 = zK0 sl sx := q101.2
  suffices w101 : zLI (d + 10) tb_X13_isDone 50 [some (vR 11 (some a0)), none, some (vI x2), some (vI x3)] [vI v101] (I101, L101, (ra101, rb101, rc101, rd101), zK0 sl sx, c101) x M' (zK0 sl sx) from ⟨zR_call (rest := []) 3 q101.1 (fun n => rfl) w101.1, w101.2⟩
  rcases zit h with ⟨g1, h⟩ | ⟨g1, h⟩
  · have q := L_Mo_isDone_60 (d := d) h rfl
    exact ⟨zR_go 5 (zR_up (ls' := [some (vR 11 (some a0)), none, some (vI x2), some (vI x3)]) q.1 ⟨.inr rfl, .inr rfl, .inr rfl, .inl rfl, trivial⟩) (fun n => (if_pos g1).trans rfl), q.2⟩
  · have q := L_Mo_isDone_60 (d := d) h rfl
    exact ⟨zR_go 4 (zR_up (ls' := [some (vR 11 (some a0)), none, some (vI x2), some (vI x3)]) q.1 ⟨.inr rfl, .inr rfl, .inr rfl, .inl rfl, trivial⟩) (fun n => (if_neg g1).trans rfl), q.2⟩
set_option maxRecDepth 20000 in
theorem L_Mo_isDone {N d sl : Nat} {sx : Nat → Int} {a0 : Nat} {x1 : Int} {M : ZM} {x : Int} {M' : ZM} (h : Mo_isDone N a0 x1 M = some (x, M')) (hK : mK M = zK0 sl sx) : zLI (d + 10) tb_X13_isDone 0 [some (vR 11 (some a0)), some (vI x1), none, none] [] M x M' (zK0 sl sx) := by
  obtain ⟨I0, L0, ⟨ra0, rb0, rc0, rd0⟩, K0, c0⟩ := M
  obtain rfl : K0 = zK0 sl sx := hK
  obtain ⟨g1, h⟩ := zIx h
  replace h := zWx h
  obtain ⟨g2, h⟩ := zIx h
  replace h := zWx h
  rcases zit h with ⟨g3, h⟩ | ⟨g3, h⟩
  · obtain ⟨g4, h⟩ := zIx h
    obtain ⟨g5, h⟩ := zIx h
    replace h := zWx h
    obtain ⟨rfl, rfl⟩ := zrI h
    exact ⟨zR_ret 25 ((if_pos g1).trans ((if_pos g2).trans ((if_pos g3).trans ((if_pos g4).trans ((if_pos g5).trans rfl))))), rfl⟩
  · rcases zit h with ⟨g6, h⟩ | ⟨g6, h⟩
    · have q := L_Mo_isDone_45 (d := d) h rfl
      exact ⟨zR_go 15 (zR_up (ls' := [some (vR 11 (some a0)), some (vI x1), some (vI (mI (I0, L0, (ra0, rb0, rc0, rd0), zK0 sl sx, c0) 76 a0 x1.toNat)), some (vI (mI (I0, L0, (ra0, rb0, rc0, rd0), zK0 sl sx, c0) 75 a0 x1.toNat))]) q.1 ⟨.inr rfl, .inl rfl, .inr rfl, .inr rfl, trivial⟩) (fun n => (if_pos g1).trans ((if_pos g2).trans ((if_neg g3).trans ((if_pos g6).trans rfl)))), q.2⟩
    · rcases zit h with ⟨g7, h⟩ | ⟨g7, h⟩
      · have q := L_Mo_isDone_45 (d := d) h rfl
        exact ⟨zR_go 18 (zR_up (ls' := [some (vR 11 (some a0)), some (vI x1), some (vI (mI (I0, L0, (ra0, rb0, rc0, rd0), zK0 sl sx, c0) 76 a0 x1.toNat)), some (vI (mI (I0, L0, (ra0, rb0, rc0, rd0), zK0 sl sx, c0) 75 a0 x1.toNat))]) q.1 ⟨.inr rfl, .inl rfl, .inr rfl, .inr rfl, trivial⟩) (fun n => (if_pos g1).trans ((if_pos g2).trans ((if_neg g3).trans ((if_neg g6).trans ((if_pos g7).trans rfl))))), q.2⟩
      · rcases zit h with ⟨g8, h⟩ | ⟨g8, h⟩
        · obtain ⟨v104, M104, f104, h⟩ := zBx h
          have q104 := L_Mo_canMend (d := (d + 8)) f104 rfl
          obtain ⟨I104, L104, ⟨ra104, rb104, rc104, rd104⟩, K104, c104⟩ := M104
          obtain rfl : K104 = zK0 sl sx := q104.2
          suffices w104 : zLI (d + 10) tb_X13_isDone 90 [some (vR 11 (some a0)), some (vI x1), some (vI (mI (I0, L0, (ra0, rb0, rc0, rd0), zK0 sl sx, c0) 76 a0 x1.toNat)), some (vI (mI (I0, L0, (ra0, rb0, rc0, rd0), zK0 sl sx, c0) 75 a0 x1.toNat))] [vI v104] (I104, L104, (ra104, rb104, rc104, rd104), zK0 sl sx, c104) x M' (zK0 sl sx) from ⟨zR_call (rest := []) 24 q104.1 (fun n => (if_pos g1).trans ((if_pos g2).trans ((if_neg g3).trans ((if_neg g6).trans ((if_neg g7).trans ((if_pos g8).trans rfl)))))) w104.1, w104.2⟩
          rcases zit h with ⟨g9, h⟩ | ⟨g9, h⟩
          · obtain ⟨rfl, rfl⟩ := zrI h
            exact ⟨zR_ret 3 ((if_pos g9).trans rfl), rfl⟩
          · obtain ⟨M105, f105, h⟩ := zBvx h
            have q105 := L_Mo_mends (d := (d + 9)) f105 rfl
            obtain ⟨I105, L105, ⟨ra105, rb105, rc105, rd105⟩, K105, c105⟩ := M105
            obtain rfl : K105 = zK0 sl sx := q105.2
            suffices w105 : zLI (d + 10) tb_X13_isDone 100 [some (vR 11 (some a0)), some (vI x1), some (vI (mI (I0, L0, (ra0, rb0, rc0, rd0), zK0 sl sx, c0) 76 a0 x1.toNat)), some (vI (mI (I0, L0, (ra0, rb0, rc0, rd0), zK0 sl sx, c0) 75 a0 x1.toNat))] [] (I105, L105, (ra105, rb105, rc105, rd105), zK0 sl sx, c105) x M' (zK0 sl sx) from ⟨zR_call (rest := []) 4 q105.1 (fun n => (if_neg g9).trans rfl) w105.1, w105.2⟩
            obtain ⟨rfl, rfl⟩ := zrI h
            exact ⟨zR_ret 3 (rfl), rfl⟩
        · obtain ⟨v106, M106, f106, h⟩ := zBx h
          have q106 := L_Mo_passes (d := d) f106 rfl
          obtain ⟨I106, L106, ⟨ra106, rb106, rc106, rd106⟩, K106, c106⟩ := M106
          obtain rfl : K106 = zK0 sl sx := q106.2
          suffices w106 : zLI (d + 10) tb_X13_isDone 107 [some (vR 11 (some a0)), some (vI x1), some (vI (mI (I0, L0, (ra0, rb0, rc0, rd0), zK0 sl sx, c0) 76 a0 x1.toNat)), some (vI (mI (I0, L0, (ra0, rb0, rc0, rd0), zK0 sl sx, c0) 75 a0 x1.toNat))] [vI v106] (I106, L106, (ra106, rb106, rc106, rd106), zK0 sl sx, c106) x M' (zK0 sl sx) from ⟨zR_call (rest := []) 23 q106.1 (fun n => (if_pos g1).trans ((if_pos g2).trans ((if_neg g3).trans ((if_neg g6).trans ((if_neg g7).trans ((if_neg g8).trans rfl)))))) w106.1, w106.2⟩
          obtain ⟨rfl, rfl⟩ := zrI h
          exact ⟨zR_ret 3 (rfl), rfl⟩
set_option maxRecDepth 20000 in
theorem L_Mo_judged_77 {N d sl : Nat} {sx : Nat → Int} {rec42 : Nat → Int → Int → Int → Int → ZM → Option (Int × ZM)} (hrec42 : ∀ {a0 : Nat} {x1 : Int} {x2 : Int} {x3 : Int} {x4 : Int} {M : ZM} {x : Int} {M' : ZM}, rec42 a0 x1 x2 x3 x4 M = some (x, M') → mK M = zK0 sl sx → zLI (d + 11) tb_X13_judged 42 [some (vR 11 (some a0)), some (vI x1), some (vI x2), some (vI x3), some (vI x4), none] [] M x M' (zK0 sl sx)) {a0 : Nat} {x1 : Int} {x2 : Int} {x3 : Int} {x4 : Int} {x5 : Int} {M : ZM} {x : Int} {M' : ZM} (h : Mo_judged_77 N rec42 a0 x1 x2 x3 x4 x5 M = some (x, M')) (hK : mK M = zK0 sl sx) : zLI (d + 11) tb_X13_judged 77 [some (vR 11 (some a0)), some (vI x1), some (vI x2), some (vI x3), some (vI x4), some (vI x5)] [] M x M' (zK0 sl sx) := by
  obtain ⟨I0, L0, ⟨ra0, rb0, rc0, rd0⟩, K0, c0⟩ := M
  obtain rfl : K0 = zK0 sl sx := hK
  rcases zit h with ⟨g1, h⟩ | ⟨g1, h⟩
  · replace h := zWx h
    have q := hrec42 h rfl
    exact ⟨zR_go 11 (zR_up (ls' := [some (vR 11 (some a0)), some (vI x1), some (vI x2), some (vI x3), some (vI (z32 (x4 + 1))), some (vI x5)]) q.1 ⟨.inr rfl, .inr rfl, .inr rfl, .inr rfl, .inr rfl, .inl rfl, trivial⟩) (fun n => (if_pos g1).trans rfl), q.2⟩
  · rcases zit h with ⟨g2, h⟩ | ⟨g2, h⟩
    · replace h := zWx h
      have q := hrec42 h rfl
      exact ⟨zR_go 15 (zR_up (ls' := [some (vR 11 (some a0)), some (vI x1), some (vI x2), some (vI x4), some (vI (z32 (x4 + 1))), some (vI x5)]) q.1 ⟨.inr rfl, .inr rfl, .inr rfl, .inr rfl, .inr rfl, .inl rfl, trivial⟩) (fun n => (if_neg g1).trans ((if_pos g2).trans rfl)), q.2⟩
    · replace h := zWx h
      have q := hrec42 h rfl
      exact ⟨zR_go 13 (zR_up (ls' := [some (vR 11 (some a0)), some (vI x1), some (vI x2), some (vI x3), some (vI (z32 (x4 + 1))), some (vI x5)]) q.1 ⟨.inr rfl, .inr rfl, .inr rfl, .inr rfl, .inr rfl, .inl rfl, trivial⟩) (fun n => (if_neg g1).trans ((if_neg g2).trans rfl)), q.2⟩
set_option maxRecDepth 20000 in
theorem L_Mo_judged_42 {N d sl : Nat} {sx : Nat → Int} : ∀ {n : Nat} {a0 : Nat} {x1 : Int} {x2 : Int} {x3 : Int} {x4 : Int} {M : ZM} {x : Int} {M' : ZM}, Mo_judged_42 N n a0 x1 x2 x3 x4 M = some (x, M') → mK M = zK0 sl sx → zLI (d + 11) tb_X13_judged 42 [some (vR 11 (some a0)), some (vI x1), some (vI x2), some (vI x3), some (vI x4), none] [] M x M' (zK0 sl sx) := by
  intro n
  induction n with
  | zero => intros; rename_i h _; cases h
  | succ n ih =>
    intro a0 x1 x2 x3 x4 M x M' h hK
    obtain ⟨I0, L0, ⟨ra0, rb0, rc0, rd0⟩, K0, c0⟩ := M
    obtain rfl : K0 = zK0 sl sx := hK
    rcases zit h with ⟨g1, h⟩ | ⟨g1, h⟩
    · replace h := zWx h
      obtain ⟨v102, M102, f102, h⟩ := zBx h
      have q102 := L_Mo_isDone (d := d) f102 rfl
      obtain ⟨I102, L102, ⟨ra102, rb102, rc102, rd102⟩, K102, c102⟩ := M102
      obtain rfl : K102 = zK0 sl sx := q102.2
      suffices w102 : zLI (d + 11) tb_X13_judged 67 [some (vR 11 (some a0)), some (vI x1), some (vI x2), some (vI x3), some (vI x4), some (vI (mI (I0, L0, (ra0, rb0, rc0, rd0), zK0 sl sx, c0) 81 a0 3))] [vI v102] (I102, L102, (ra102, rb102, rc102, rd102), zK0 sl sx, c102) x M' (zK0 sl sx) from ⟨zR_call (rest := []) 14 q102.1 (fun n => (if_pos g1).trans rfl) w102.1, w102.2⟩
      rcases zit h with ⟨g2, h⟩ | ⟨g2, h⟩
      · rcases zit h with ⟨g3, h⟩ | ⟨g3, h⟩
        · have q := L_Mo_judged_77 (d := d) ih h rfl
          exact ⟨zR_go 5 q.1 (fun n => (if_pos g2).trans ((if_pos g3).trans rfl)), q.2⟩
        · have q := L_Mo_judged_77 (d := d) ih h rfl
          exact ⟨zR_go 3 q.1 (fun n => (if_pos g2).trans ((if_neg g3).trans rfl)), q.2⟩
      · have q := L_Mo_judged_77 (d := d) ih h rfl
        exact ⟨zR_go 1 q.1 (fun n => (if_neg g2).trans rfl), q.2⟩
    · replace h := zWx h
      obtain ⟨M104, f104, h⟩ := zBvx h
      have q104 := L_Mo_copies_82_81 (d := (d + 10)) f104 rfl
      obtain ⟨I104, L104, ⟨ra104, rb104, rc104, rd104⟩, K104, c104⟩ := M104
      obtain rfl : K104 = zK0 sl sx := q104.2
      suffices w104 : zLI (d + 11) tb_X13_judged 125 [some (vR 11 (some a0)), some (vI x1), some (vI x2), some (vI x3), some (vI (mI (I0, L0, (ra0, rb0, rc0, rd0), zK0 sl sx, c0) 81 a0 1)), none] [] (I104, L104, (ra104, rb104, rc104, rd104), zK0 sl sx, c104) x M' (zK0 sl sx) from ⟨zR_call (rest := []) 18 q104.1 (fun n => (if_neg g1).trans rfl) w104.1, w104.2⟩
      rcases zit h with ⟨g4, h⟩ | ⟨g4, h⟩
      · obtain ⟨rfl, rfl⟩ := zrI h
        exact ⟨zR_ret 5 ((if_pos g4).trans rfl), rfl⟩
      · rcases zit h with ⟨g5, h⟩ | ⟨g5, h⟩
        · obtain ⟨rfl, rfl⟩ := zrI h
          exact ⟨zR_ret 8 ((if_neg g4).trans ((if_pos g5).trans rfl)), rfl⟩
        · obtain ⟨rfl, rfl⟩ := zrI h
          exact ⟨zR_ret 7 ((if_neg g4).trans ((if_neg g5).trans rfl)), rfl⟩
set_option maxRecDepth 20000 in
theorem L_Mo_judged {N d sl : Nat} {sx : Nat → Int} {a0 : Nat} {x1 : Int} {M : ZM} {x : Int} {M' : ZM} (h : Mo_judged N a0 x1 M = some (x, M')) (hK : mK M = zK0 sl sx) : zLI (d + 11) tb_X13_judged 0 [some (vR 11 (some a0)), some (vI x1), none, none, none, none] [] M x M' (zK0 sl sx) := by
  obtain ⟨I0, L0, ⟨ra0, rb0, rc0, rd0⟩, K0, c0⟩ := M
  obtain rfl : K0 = zK0 sl sx := hK
  replace h := zWx h
  obtain ⟨v102, M102, f102, h⟩ := zBx h
  have q102 := L_Mo_within (d := (d + 10)) f102 rfl
  obtain ⟨I102, L102, ⟨ra102, rb102, rc102, rd102⟩, K102, c102⟩ := M102
  obtain rfl : K102 = zK0 sl sx := q102.2
  suffices w102 : zLI (d + 11) tb_X13_judged 11 [some (vR 11 (some a0)), some (vI x1), none, none, none, none] [vI v102] (I102, L102, (ra102, rb102, rc102, rd102), zK0 sl sx, c102) x M' (zK0 sl sx) from ⟨zR_call (rest := []) 7 q102.1 (fun n => rfl) w102.1, w102.2⟩
  rcases zit h with ⟨g1, h⟩ | ⟨g1, h⟩
  · obtain ⟨rfl, rfl⟩ := zrI h
    exact ⟨zR_ret 3 ((if_pos g1).trans rfl), rfl⟩
  · obtain ⟨M103, f103, h⟩ := zBvx h
    have q103 := L_Mo_copies_81_82 (d := (d + 10)) f103 rfl
    obtain ⟨I103, L103, ⟨ra103, rb103, rc103, rd103⟩, K103, c103⟩ := M103
    obtain rfl : K103 = zK0 sl sx := q103.2
    suffices w103 : zLI (d + 11) tb_X13_judged 31 [some (vR 11 (some a0)), some (vI x1), none, none, none, none] [] (I103, L103, (ra103, rb103, rc103, rd103), zK0 sl sx, c103) x M' (zK0 sl sx) from ⟨zR_call (rest := []) 8 q103.1 (fun n => (if_neg g1).trans rfl) w103.1, w103.2⟩
    obtain ⟨M104, f104, h⟩ := zBvx h
    have q104 := L_Mo_fresh0 (d := (d + 10)) f104 rfl
    obtain ⟨I104, L104, ⟨ra104, rb104, rc104, rd104⟩, K104, c104⟩ := M104
    obtain rfl : K104 = zK0 sl sx := q104.2
    suffices w104 : zLI (d + 11) tb_X13_judged 35 [some (vR 11 (some a0)), some (vI x1), none, none, none, none] [] (I104, L104, (ra104, rb104, rc104, rd104), zK0 sl sx, c104) x M' (zK0 sl sx) from ⟨zR_call (rest := []) 2 q104.1 (fun n => rfl) w104.1, w104.2⟩
    have q := L_Mo_judged_42 (d := d) h rfl
    exact ⟨zR_go 6 q.1 (fun n => rfl), q.2⟩
set_option maxRecDepth 20000 in
theorem L_Mo_takes {N d sl : Nat} {sx : Nat → Int} {a0 : Nat} {x1 : Int} {x2 : Int} {M : ZM} {x : Int} {M' : ZM} (h : Mo_takes N a0 x1 x2 M = some (x, M')) (hK : mK M = zK0 sl sx) : zLI (d + 3) tb_X13_takes 0 [some (vR 11 (some a0)), some (vI x1), some (vI x2)] [] M x M' (zK0 sl sx) := by
  obtain ⟨I0, L0, ⟨ra0, rb0, rc0, rd0⟩, K0, c0⟩ := M
  obtain rfl : K0 = zK0 sl sx := hK
  replace h := zWx h
  obtain ⟨M102, f102, h⟩ := zBvx h
  have q102 := L_Mo_looks (d := (d + 1)) f102 rfl
  obtain ⟨I102, L102, ⟨ra102, rb102, rc102, rd102⟩, K102, c102⟩ := M102
  obtain rfl : K102 = zK0 sl sx := q102.2
  suffices w102 : zLI (d + 3) tb_X13_takes 9 [some (vR 11 (some a0)), some (vI x1), some (vI x2)] [] (I102, L102, (ra102, rb102, rc102, rd102), zK0 sl sx, c102) x M' (zK0 sl sx) from ⟨zR_call (rest := []) 5 q102.1 (fun n => rfl) w102.1, w102.2⟩
  obtain ⟨v103, M103, f103, h⟩ := zBx h
  have q103 := L_Mo_isTurbine (d := (d + 2)) f103 rfl
  obtain ⟨I103, L103, ⟨ra103, rb103, rc103, rd103⟩, K103, c103⟩ := M103
  obtain rfl : K103 = zK0 sl sx := q103.2
  suffices w103 : zLI (d + 3) tb_X13_takes 14 [some (vR 11 (some a0)), some (vI x1), some (vI x2)] [vI v103] (I103, L103, (ra103, rb103, rc103, rd103), zK0 sl sx, c103) x M' (zK0 sl sx) from ⟨zR_call (rest := []) 3 q103.1 (fun n => rfl) w103.1, w103.2⟩
  rcases zit h with ⟨g1, h⟩ | ⟨g1, h⟩
  · obtain ⟨rfl, rfl⟩ := zrI h
    exact ⟨zR_ret 3 ((if_pos g1).trans rfl), rfl⟩
  · obtain ⟨v104, M104, f104, h⟩ := zBx h
    have q104 := L_Mo_isTurbine (d := (d + 2)) f104 rfl
    obtain ⟨I104, L104, ⟨ra104, rb104, rc104, rd104⟩, K104, c104⟩ := M104
    obtain rfl : K104 = zK0 sl sx := q104.2
    suffices w104 : zLI (d + 3) tb_X13_takes 22 [some (vR 11 (some a0)), some (vI x1), some (vI x2)] [vI v104] (I104, L104, (ra104, rb104, rc104, rd104), zK0 sl sx, c104) x M' (zK0 sl sx) from ⟨zR_call (rest := []) 4 q104.1 (fun n => (if_neg g1).trans rfl) w104.1, w104.2⟩
    rcases zit h with ⟨g2, h⟩ | ⟨g2, h⟩
    · obtain ⟨rfl, rfl⟩ := zrI h
      exact ⟨zR_ret 3 ((if_pos g2).trans rfl), rfl⟩
    · rcases zit h with ⟨g3, h⟩ | ⟨g3, h⟩
      · obtain ⟨rfl, rfl⟩ := zrI h
        exact ⟨zR_ret 6 ((if_neg g2).trans ((if_pos g3).trans rfl)), rfl⟩
      · obtain ⟨v105, M105, f105, h⟩ := zBx h
        have q105 := L_Mo_takesOf (d := d) f105 rfl
        obtain ⟨I105, L105, ⟨ra105, rb105, rc105, rd105⟩, K105, c105⟩ := M105
        obtain rfl : K105 = zK0 sl sx := q105.2
        suffices w105 : zLI (d + 3) tb_X13_takes 36 [some (vR 11 (some a0)), some (vI x1), some (vI x2)] [vI v105] (I105, L105, (ra105, rb105, rc105, rd105), zK0 sl sx, c105) x M' (zK0 sl sx) from ⟨zR_call (rest := []) 8 q105.1 (fun n => (if_neg g2).trans ((if_neg g3).trans rfl)) w105.1, w105.2⟩
        obtain ⟨rfl, rfl⟩ := zrI h
        exact ⟨zR_ret 2 (rfl), rfl⟩
