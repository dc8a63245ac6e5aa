set_option maxRecDepth 20000 in
theorem L_Wp_dear_21 {N d sl : Nat} {sx : Nat → Int} : ∀ {n : Nat} {a0 : Nat} {x1 : Int} {x2 : Int} {x3 : Int} {M : ZM} {x : Int} {M' : ZM}, Wp_dear_21 N n a0 x1 x2 x3 M = some (x, M') → mK M = zK0 sl sx → zLI (d + 5) tb_X12_dear 21 [some (vR 10 (some a0)), some (vI x1), some (vI x2), some (vI x3)] [] M x M' (zK0 sl sx) := by
  intro n
  induction n with
  | zero => intros; rename_i h _; cases h
  | succ n ih =>
    intro a0 x1 x2 x3 M x M' h hK
    obtain ⟨I0, L0, ⟨ra0, rb0, rc0, rd0⟩, K0, c0⟩ := M
    obtain rfl : K0 = zK0 sl sx := hK
    obtain ⟨p101, g1, h⟩ := zOx h
    obtain rfl : ra0 = some p101 := g1
    rcases zit h with ⟨g2, h⟩ | ⟨g2, h⟩
    · obtain ⟨g3, h⟩ := zIx h
      rcases zit h with ⟨g4, h⟩ | ⟨g4, h⟩
      · replace h := zWx h
        have q := ih h rfl
        exact ⟨zR_go 14 q.1 (fun n => (if_pos g2).trans ((if_pos g3).trans ((if_pos g4).trans rfl))), q.2⟩
      · obtain ⟨M103, f103, h⟩ := zBvx h
        have q103 := L_Fl_bring (d := (d + 3)) f103 rfl
        obtain ⟨I103, L103, ⟨ra103, rb103, rc103, rd103⟩, K103, c103⟩ := M103
        obtain rfl : K103 = zK0 sl sx := q103.2
        suffices w103 : zLI (d + 5) tb_X12_dear 57 [some (vR 10 (some a0)), some (vI x1), some (vI x2), some (vI x3)] [] (I103, L103, (ra103, rb103, rc103, rd103), zK0 sl sx, c103) x M' (zK0 sl sx) from ⟨zR_call (rest := []) 18 q103.1 (fun n => (if_pos g2).trans ((if_pos g3).trans ((if_neg g4).trans rfl))) w103.1, w103.2⟩
        rcases zit h with ⟨g5, h⟩ | ⟨g5, h⟩
        · replace h := zWx h
          replace h := zWx h
          have q := ih h rfl
          exact ⟨zR_go 11 q.1 (fun n => (if_pos g5).trans rfl), q.2⟩
        · rcases zit h with ⟨g6, h⟩ | ⟨g6, h⟩
          · replace h := zWx h
            replace h := zWx h
            have q := ih h rfl
            exact ⟨zR_go 16 q.1 (fun n => (if_neg g5).trans ((if_pos g6).trans rfl)), q.2⟩
          · replace h := zWx h
            have q := ih h rfl
            exact ⟨zR_go 10 q.1 (fun n => (if_neg g5).trans ((if_neg g6).trans rfl)), q.2⟩
    · obtain ⟨rfl, rfl⟩ := zrI h
      exact ⟨zR_ret 7 ((if_neg g2).trans rfl), rfl⟩
set_option maxRecDepth 20000 in
theorem L_Wp_dear {N d sl : Nat} {sx : Nat → Int} {a0 : Nat} {M : ZM} {x : Int} {M' : ZM} (h : Wp_dear N a0 M = some (x, M')) (hK : mK M = zK0 sl sx) : zLI (d + 5) tb_X12_dear 0 [some (vR 10 (some a0)), none, none, none] [] M x M' (zK0 sl sx) := by
  obtain ⟨I0, L0, ⟨ra0, rb0, rc0, rd0⟩, K0, c0⟩ := M
  obtain rfl : K0 = zK0 sl sx := hK
  obtain ⟨p101, g1, h⟩ := zOx h
  obtain rfl : ra0 = some p101 := g1
  obtain ⟨M102, f102, h⟩ := zBvx h
  have q102 := L_Fl_measure (d := d) f102 rfl
  obtain ⟨I102, L102, ⟨ra102, rb102, rc102, rd102⟩, K102, c102⟩ := M102
  obtain rfl : K102 = zK0 sl sx := q102.2
  suffices w102 : zLI (d + 5) tb_X12_dear 19 [some (vR 10 (some a0)), some (vI (-1)), some (vI 0), none] [] (I102, L102, (ra102, rb102, rc102, rd102), zK0 sl sx, c102) x M' (zK0 sl sx) from ⟨zR_call (rest := []) 11 q102.1 (fun n => rfl) w102.1, w102.2⟩
  have q := L_Wp_dear_21 (d := d) h rfl
  exact ⟨zR_go 2 q.1 (fun n => rfl), q.2⟩
set_option maxRecDepth 20000 in
theorem L_Wp_fault {N d sl : Nat} {sx : Nat → Int} {a0 : Nat} {x1 : Int} {M : ZM} {x : Int} {M' : ZM} (h : Wp_fault N a0 x1 M = some (x, M')) (hK : mK M = zK0 sl sx) : zLI (d + 5) tb_X12_fault 0 [some (vR 10 (some a0)), some (vI x1)] [] M x M' (zK0 sl sx) := by
  obtain ⟨I0, L0, ⟨ra0, rb0, rc0, rd0⟩, K0, c0⟩ := M
  obtain rfl : K0 = zK0 sl sx := hK
  obtain ⟨v101, M101, f101, h⟩ := zBx h
  have q101 := L_Wp_stands (d := (d + 4)) f101 rfl
  obtain ⟨I101, L101, ⟨ra101, rb101, rc101, rd101⟩, K101, c101⟩ := M101
  obtain rfl : K101 = zK0 sl sx := q101.2
  suffices w101 : zLI (d + 5) tb_X12_fault 5 [some (vR 10 (some a0)), some (vI x1)] [vI v101] (I101, L101, (ra101, rb101, rc101, rd101), zK0 sl sx, c101) x M' (zK0 sl sx) from ⟨zR_call (rest := []) 3 q101.1 (fun n => rfl) w101.1, w101.2⟩
  rcases zit h with ⟨g1, h⟩ | ⟨g1, h⟩
  · obtain ⟨rfl, rfl⟩ := zrI h
    exact ⟨zR_ret 3 ((if_pos g1).trans rfl), rfl⟩
  · obtain ⟨p102, g2, h⟩ := zOx h
    obtain rfl : ra101 = some p102 := g2
    obtain ⟨g3, h⟩ := zIx h
    rcases zit h with ⟨g4, h⟩ | ⟨g4, h⟩
    · obtain ⟨rfl, rfl⟩ := zrI h
      exact ⟨zR_ret 10 ((if_neg g1).trans ((if_pos g3).trans ((if_pos g4).trans rfl))), rfl⟩
    · obtain ⟨M103, f103, h⟩ := zBvx h
      have q103 := L_Fl_measure (d := d) f103 rfl
      obtain ⟨I103, L103, ⟨ra103, rb103, rc103, rd103⟩, K103, c103⟩ := M103
      obtain rfl : K103 = zK0 sl sx := q103.2
      suffices w103 : zLI (d + 5) tb_X12_fault 38 [some (vR 10 (some a0)), some (vI x1)] [] (I103, L103, (ra103, rb103, rc103, rd103), zK0 sl sx, c103) x M' (zK0 sl sx) from ⟨zR_call (rest := []) 15 q103.1 (fun n => (if_neg g1).trans ((if_pos g3).trans ((if_neg g4).trans rfl))) w103.1, w103.2⟩
      obtain ⟨p104, g5, h⟩ := zOx h
      obtain rfl : ra103 = some p104 := g5
      obtain ⟨M105, f105, h⟩ := zBvx h
      have q105 := L_Fl_bring (d := (d + 3)) f105 rfl
      obtain ⟨I105, L105, ⟨ra105, rb105, rc105, rd105⟩, K105, c105⟩ := M105
      obtain rfl : K105 = zK0 sl sx := q105.2
      suffices w105 : zLI (d + 5) tb_X12_fault 50 [some (vR 10 (some a0)), some (vI x1)] [] (I105, L105, (ra105, rb105, rc105, rd105), zK0 sl sx, c105) x M' (zK0 sl sx) from ⟨zR_call (rest := []) 6 q105.1 (fun n => rfl) w105.1, w105.2⟩
      obtain ⟨rfl, rfl⟩ := zrI h
      exact ⟨zR_ret 4 (rfl), rfl⟩
set_option maxRecDepth 20000 in
theorem L_Wp_ownWind_17 {N d sl : Nat} {sx : Nat → Int} : ∀ {n : Nat} {a0 : Nat} {a1 : Nat} {x2 : Int} {x3 : Int} {x4 : Int} {M : ZM} {x : Int} {M' : ZM}, Wp_ownWind_17 N n a0 a1 x2 x3 x4 M = some (x, M') → mK M = zK0 sl sx → zLI (d + 5) tb_X12_ownWind 17 [some (vR 10 (some a0)), some (vR 7 (some a1)), some (vI x2), some (vI x3), some (vI x4)] [] M x M' (zK0 sl sx) := by
  intro n
  induction n with
  | zero => intros; rename_i h _; cases h
  | succ n ih =>
    intro a0 a1 x2 x3 x4 M x M' h hK
    obtain ⟨I0, L0, ⟨ra0, rb0, rc0, rd0⟩, K0, c0⟩ := M
    obtain rfl : K0 = zK0 sl sx := hK
    obtain ⟨p101, g1, h⟩ := zOx h
    obtain rfl : ra0 = some p101 := g1
    rcases zit h with ⟨g2, h⟩ | ⟨g2, h⟩
    · obtain ⟨g3, h⟩ := zIx h
      rcases zit h with ⟨g4, h⟩ | ⟨g4, h⟩
      · obtain ⟨v102, M102, f102, h⟩ := zBx h
        have q102 := L_St_runs (d := (d + 3)) f102 rfl
        obtain ⟨I102, L102, ⟨ra102, rb102, rc102, rd102⟩, K102, c102⟩ := M102
        obtain rfl : K102 = zK0 sl sx := q102.2
        suffices w102 : zLI (d + 5) tb_X12_ownWind 49 [some (vR 10 (some a0)), some (vR 7 (some a1)), some (vI x2), some (vI x3), some (vI x4)] [vI v102] (I102, L102, (ra102, rb102, rc102, rd102), zK0 sl sx, c102) x M' (zK0 sl sx) from ⟨zR_call (rest := []) 15 q102.1 (fun n => (if_pos g2).trans ((if_pos g3).trans ((if_pos g4).trans rfl))) w102.1, w102.2⟩
        rcases zit h with ⟨g5, h⟩ | ⟨g5, h⟩
        · replace h := zWx h
          have q := ih h rfl
          exact ⟨zR_go 3 q.1 (fun n => (if_pos g5).trans rfl), q.2⟩
        · obtain ⟨g6, h⟩ := zIx h
          replace h := zWx h
          replace h := zWx h
          have q := ih h rfl
          exact ⟨zR_go 11 q.1 (fun n => (if_neg g5).trans ((if_pos g6).trans rfl)), q.2⟩
      · replace h := zWx h
        have q := ih h rfl
        exact ⟨zR_go 14 q.1 (fun n => (if_pos g2).trans ((if_pos g3).trans ((if_neg g4).trans rfl))), q.2⟩
    · obtain ⟨rfl, rfl⟩ := zrI h
      exact ⟨zR_ret 7 ((if_neg g2).trans rfl), rfl⟩
set_option maxRecDepth 20000 in
theorem L_Wp_ownWind {N d sl : Nat} {sx : Nat → Int} {a0 : Nat} {a1 : Nat} {x2 : Int} {M : ZM} {x : Int} {M' : ZM} (h : Wp_ownWind N a0 a1 x2 M = some (x, M')) (hK : mK M = zK0 sl sx) : zLI (d + 5) tb_X12_ownWind 0 [some (vR 10 (some a0)), some (vR 7 (some a1)), some (vI x2), none, none] [] M x M' (zK0 sl sx) := by
  obtain ⟨I0, L0, ⟨ra0, rb0, rc0, rd0⟩, K0, c0⟩ := M
  obtain rfl : K0 = zK0 sl sx := hK
  obtain ⟨p101, g1, h⟩ := zOx h
  obtain rfl : ra0 = some p101 := g1
  obtain ⟨M102, f102, h⟩ := zBvx h
  have q102 := L_Fl_measure (d := d) f102 rfl
  obtain ⟨I102, L102, ⟨ra102, rb102, rc102, rd102⟩, K102, c102⟩ := M102
  obtain rfl : K102 = zK0 sl sx := q102.2
  suffices w102 : zLI (d + 5) tb_X12_ownWind 12 [some (vR 10 (some a0)), some (vR 7 (some a1)), some (vI x2), none, none] [] (I102, L102, (ra102, rb102, rc102, rd102), zK0 sl sx, c102) x M' (zK0 sl sx) from ⟨zR_call (rest := []) 6 q102.1 (fun n => rfl) w102.1, w102.2⟩
  have q := L_Wp_ownWind_17 (d := d) h rfl
  exact ⟨zR_go 4 q.1 (fun n => rfl), q.2⟩
set_option maxRecDepth 20000 in
theorem L_Wp_robbed_35 {N d sl : Nat} {sx : Nat → Int} : ∀ {n : Nat} {a0 : Nat} {x1 : Int} {x2 : Int} {x3 : Int} {M : ZM} {x : Int} {M' : ZM}, Wp_robbed_35 N n a0 x1 x2 x3 M = some (x, M') → mK M = zK0 sl sx → zLI (d + 6) tb_X12_robbed 35 [some (vR 10 (some a0)), some (vI x1), some (vI x2), some (vI x3)] [] M x M' (zK0 sl sx) := by
  intro n
  induction n with
  | zero => intros; rename_i h _; cases h
  | succ n ih =>
    intro a0 x1 x2 x3 M x M' h hK
    obtain ⟨I0, L0, ⟨ra0, rb0, rc0, rd0⟩, K0, c0⟩ := M
    obtain rfl : K0 = zK0 sl sx := hK
    obtain ⟨p101, g1, h⟩ := zOx h
    obtain rfl : ra0 = some p101 := g1
    rcases zit h with ⟨g2, h⟩ | ⟨g2, h⟩
    · obtain ⟨g3, h⟩ := zIx h
      rcases zit h with ⟨g4, h⟩ | ⟨g4, h⟩
      · replace h := zWx h
        have q := ih h rfl
        exact ⟨zR_go 14 q.1 (fun n => (if_pos g2).trans ((if_pos g3).trans ((if_pos g4).trans rfl))), q.2⟩
      · replace h := zWx h
        replace h := zWx h
        have q := ih h rfl
        exact ⟨zR_go 25 q.1 (fun n => (if_pos g2).trans ((if_pos g3).trans ((if_neg g4).trans rfl))), q.2⟩
    · obtain ⟨v105, M105, f105, h⟩ := zBx h
      have q105 := L_Wp_ownWind (d := d) f105 rfl
      obtain ⟨I105, L105, ⟨ra105, rb105, rc105, rd105⟩, K105, c105⟩ := M105
      obtain rfl : K105 = zK0 sl sx := q105.2
      suffices w105 : zLI (d + 6) tb_X12_robbed 91 [some (vR 10 (some a0)), some (vI x1), some (vI x2), some (vI x3)] [vI v105] (I105, L105, (ra105, rb105, rc105, rd105), zK0 sl sx, c105) x M' (zK0 sl sx) from ⟨zR_call (rest := []) 10 q105.1 (fun n => (if_neg g2).trans rfl) w105.1, w105.2⟩
      obtain ⟨rfl, rfl⟩ := zrI h
      exact ⟨zR_ret 3 (rfl), rfl⟩
set_option maxRecDepth 20000 in
theorem L_Wp_robbed {N d sl : Nat} {sx : Nat → Int} {a0 : Nat} {x1 : Int} {M : ZM} {x : Int} {M' : ZM} (h : Wp_robbed N a0 x1 M = some (x, M')) (hK : mK M = zK0 sl sx) : zLI (d + 6) tb_X12_robbed 0 [some (vR 10 (some a0)), some (vI x1), none, none] [] M x M' (zK0 sl sx) := by
  obtain ⟨I0, L0, ⟨ra0, rb0, rc0, rd0⟩, K0, c0⟩ := M
  obtain rfl : K0 = zK0 sl sx := hK
  rcases zit h with ⟨g1, h⟩ | ⟨g1, h⟩
  · obtain ⟨rfl, rfl⟩ := zrI h
    exact ⟨zR_ret 5 ((if_pos g1).trans rfl), rfl⟩
  · rcases zit h with ⟨g2, h⟩ | ⟨g2, h⟩
    · obtain ⟨rfl, rfl⟩ := zrI h
      exact ⟨zR_ret 8 ((if_neg g1).trans ((if_pos g2).trans rfl)), rfl⟩
    · obtain ⟨v101, M101, f101, h⟩ := zBx h
      have q101 := L_Wp_ownWind (d := d) f101 rfl
      obtain ⟨I101, L101, ⟨ra101, rb101, rc101, rd101⟩, K101, c101⟩ := M101
      obtain rfl : K101 = zK0 sl sx := q101.2
      suffices w101 : zLI (d + 6) tb_X12_robbed 21 [some (vR 10 (some a0)), some (vI x1), none, none] [vI v101] (I101, L101, (ra101, rb101, rc101, rd101), zK0 sl sx, c101) x M' (zK0 sl sx) from ⟨zR_call (rest := []) 11 q101.1 (fun n => (if_neg g1).trans ((if_neg g2).trans rfl)) w101.1, w101.2⟩
      obtain ⟨M102, f102, h⟩ := zBvx h
      have q102 := L_St_copy (d := (d + 5)) f102 rfl
      obtain ⟨I102, L102, ⟨ra102, rb102, rc102, rd102⟩, K102, c102⟩ := M102
      obtain rfl : K102 = zK0 sl sx := q102.2
      suffices w102 : zLI (d + 6) tb_X12_robbed 33 [some (vR 10 (some a0)), some (vI x1), some (vI v101), none] [] (I102, L102, (ra102, rb102, rc102, rd102), zK0 sl sx, c102) x M' (zK0 sl sx) from ⟨zR_call (rest := []) 6 q102.1 (fun n => rfl) w102.1, w102.2⟩
      have q := L_Wp_robbed_35 (d := d) h rfl
      exact ⟨zR_go 2 q.1 (fun n => rfl), q.2⟩
set_option maxRecDepth 20000 in
theorem L_Wp_front_19 {N d sl : Nat} {sx : Nat → Int} : ∀ {n : Nat} {a0 : Nat} {x1 : Int} {x2 : Int} {M : ZM} {x : Int} {M' : ZM}, Wp_front_19 N n a0 x1 x2 M = some (x, M') → mK M = zK0 sl sx → zLI (d + 5) tb_X12_front 19 [some (vR 10 (some a0)), some (vI x1), some (vI x2)] [] M x M' (zK0 sl sx) := by
  intro n
  induction n with
  | zero => intros; rename_i h _; cases h
  | succ n ih =>
    intro a0 x1 x2 M x M' h hK
    obtain ⟨I0, L0, ⟨ra0, rb0, rc0, rd0⟩, K0, c0⟩ := M
    obtain rfl : K0 = zK0 sl sx := hK
    obtain ⟨p101, g1, h⟩ := zOx h
    obtain rfl : ra0 = some p101 := g1
    rcases zit h with ⟨g2, h⟩ | ⟨g2, h⟩
    · obtain ⟨g3, h⟩ := zIx h
      rcases zit h with ⟨g4, h⟩ | ⟨g4, h⟩
      · replace h := zWx h
        replace h := zWx h
        have q := ih h rfl
        exact ⟨zR_go 19 q.1 (fun n => (if_pos g2).trans ((if_pos g3).trans ((if_pos g4).trans rfl))), q.2⟩
      · replace h := zWx h
        have q := ih h rfl
        exact ⟨zR_go 13 q.1 (fun n => (if_pos g2).trans ((if_pos g3).trans ((if_neg g4).trans rfl))), q.2⟩
    · obtain ⟨rfl, rfl⟩ := zrI h
      exact ⟨zR_ret 7 ((if_neg g2).trans rfl), rfl⟩
set_option maxRecDepth 20000 in
theorem L_Wp_front {N d sl : Nat} {sx : Nat → Int} {a0 : Nat} {M : ZM} {x : Int} {M' : ZM} (h : Wp_front N a0 M = some (x, M')) (hK : mK M = zK0 sl sx) : zLI (d + 5) tb_X12_front 0 [some (vR 10 (some a0)), none, none] [] M x M' (zK0 sl sx) := by
  obtain ⟨I0, L0, ⟨ra0, rb0, rc0, rd0⟩, K0, c0⟩ := M
  obtain rfl : K0 = zK0 sl sx := hK
  obtain ⟨p101, g1, h⟩ := zOx h
  obtain rfl : ra0 = some p101 := g1
  obtain ⟨M102, f102, h⟩ := zBvx h
  have q102 := L_Fl_measure (d := d) f102 rfl
  obtain ⟨I102, L102, ⟨ra102, rb102, rc102, rd102⟩, K102, c102⟩ := M102
  obtain rfl : K102 = zK0 sl sx := q102.2
  suffices w102 : zLI (d + 5) tb_X12_front 15 [some (vR 10 (some a0)), none, none] [] (I102, L102, (ra102, rb102, rc102, rd102), zK0 sl sx, c102) x M' (zK0 sl sx) from ⟨zR_call (rest := []) 7 q102.1 (fun n => rfl) w102.1, w102.2⟩
  have q := L_Wp_front_19 (d := d) h rfl
  exact ⟨zR_go 4 q.1 (fun n => rfl), q.2⟩
set_option maxRecDepth 20000 in
theorem L_Wp_shade_14 {N d sl : Nat} {sx : Nat → Int} : ∀ {n : Nat} {a0 : Nat} {x1 : Int} {x2 : Int} {x3 : Int} {M : ZM} {x : Int} {M' : ZM}, Wp_shade_14 N n a0 x1 x2 x3 M = some (x, M') → mK M = zK0 sl sx → zLI (d + 4) tb_X12_shade 14 [some (vR 10 (some a0)), some (vI x1), some (vI x2), some (vI x3)] [] M x M' (zK0 sl sx) := by
  intro n
  induction n with
  | zero => intros; rename_i h _; cases h
  | succ n ih =>
    intro a0 x1 x2 x3 M x M' h hK
    obtain ⟨I0, L0, ⟨ra0, rb0, rc0, rd0⟩, K0, c0⟩ := M
    obtain rfl : K0 = zK0 sl sx := hK
    obtain ⟨p101, g1, h⟩ := zOx h
    obtain rfl : ra0 = some p101 := g1
    rcases zit h with ⟨g2, h⟩ | ⟨g2, h⟩
    · rcases zit h with ⟨g3, h⟩ | ⟨g3, h⟩
      · replace h := zWx h
        have q := ih h rfl
        exact ⟨zR_go 10 q.1 (fun n => (if_pos g2).trans ((if_pos g3).trans rfl)), q.2⟩
      · obtain ⟨v103, M103, f103, h⟩ := zBx h
        have q103 := L_Wp_takenNow (d := d) f103 rfl
        obtain ⟨I103, L103, ⟨ra103, rb103, rc103, rd103⟩, K103, c103⟩ := M103
        obtain rfl : K103 = zK0 sl sx := q103.2
        suffices w103 : zLI (d + 4) tb_X12_shade 36 [some (vR 10 (some a0)), some (vI x1), some (vI x2), some (vI x3)] [vI v103] (I103, L103, (ra103, rb103, rc103, rd103), zK0 sl sx, c103) x M' (zK0 sl sx) from ⟨zR_call (rest := []) 12 q103.1 (fun n => (if_pos g2).trans ((if_neg g3).trans rfl)) w103.1, w103.2⟩
        rcases zit h with ⟨g4, h⟩ | ⟨g4, h⟩
        · replace h := zWx h
          replace h := zWx h
          have q := ih h rfl
          exact ⟨zR_go 9 q.1 (fun n => (if_pos g4).trans rfl), q.2⟩
        · replace h := zWx h
          have q := ih h rfl
          exact ⟨zR_go 3 q.1 (fun n => (if_neg g4).trans rfl), q.2⟩
    · obtain ⟨rfl, rfl⟩ := zrI h
      exact ⟨zR_ret 7 ((if_neg g2).trans rfl), rfl⟩
set_option maxRecDepth 20000 in
theorem L_Wp_shade {N d sl : Nat} {sx : Nat → Int} {a0 : Nat} {x1 : Int} {M : ZM} {x : Int} {M' : ZM} (h : Wp_shade N a0 x1 M = some (x, M')) (hK : mK M = zK0 sl sx) : zLI (d + 4) tb_X12_shade 0 [some (vR 10 (some a0)), some (vI x1), none, none] [] M x M' (zK0 sl sx) := by
  obtain ⟨I0, L0, ⟨ra0, rb0, rc0, rd0⟩, K0, c0⟩ := M
  obtain rfl : K0 = zK0 sl sx := hK
  obtain ⟨v101, M101, f101, h⟩ := zBx h
  have q101 := L_Wp_stands (d := (d + 3)) f101 rfl
  obtain ⟨I101, L101, ⟨ra101, rb101, rc101, rd101⟩, K101, c101⟩ := M101
  obtain rfl : K101 = zK0 sl sx := q101.2
  suffices w101 : zLI (d + 4) tb_X12_shade 5 [some (vR 10 (some a0)), some (vI x1), none, none] [vI v101] (I101, L101, (ra101, rb101, rc101, rd101), zK0 sl sx, c101) x M' (zK0 sl sx) from ⟨zR_call (rest := []) 3 q101.1 (fun n => rfl) w101.1, w101.2⟩
  rcases zit h with ⟨g1, h⟩ | ⟨g1, h⟩
  · obtain ⟨rfl, rfl⟩ := zrI h
    exact ⟨zR_ret 3 ((if_pos g1).trans rfl), rfl⟩
  · have q := L_Wp_shade_14 (d := d) h rfl
    exact ⟨zR_go 5 q.1 (fun n => (if_neg g1).trans rfl), q.2⟩
set_option maxRecDepth 20000 in
theorem L_Wp_hops_17 {N d sl : Nat} {sx : Nat → Int} : ∀ {n : Nat} {a0 : Nat} {x2 : Int} {x3 : Int} {x4 : Int} {M : ZM} {x : Int} {M' : ZM}, Wp_hops_17 N n a0 x2 x3 x4 M = some (x, M') → mK M = zK0 sl sx → zLI (d + 1) tb_X12_hops 17 [some (vR 10 (some a0)), none, some (vI x2), some (vI x3), some (vI x4)] [] M x M' (zK0 sl sx) := by
  intro n
  induction n with
  | zero => intros; rename_i h _; cases h
  | succ n ih =>
    intro a0 x2 x3 x4 M x M' h hK
    obtain ⟨I0, L0, ⟨ra0, rb0, rc0, rd0⟩, K0, c0⟩ := M
    obtain rfl : K0 = zK0 sl sx := hK
    rcases zit h with ⟨g1, h⟩ | ⟨g1, h⟩
    · obtain ⟨v101, M101, f101, h⟩ := zBx h
      have q101 := L_Wp_stands (d := d) f101 rfl
      obtain ⟨I101, L101, ⟨ra101, rb101, rc101, rd101⟩, K101, c101⟩ := M101
      obtain rfl : K101 = zK0 sl sx := q101.2
      suffices w101 : zLI (d + 1) tb_X12_hops 29 [some (vR 10 (some a0)), none, some (vI x2), some (vI x3), some (vI x4)] [vI v101] (I101, L101, (ra101, rb101, rc101, rd101), zK0 sl sx, c101) x M' (zK0 sl sx) from ⟨zR_call (rest := []) 6 q101.1 (fun n => (if_pos g1).trans rfl) w101.1, w101.2⟩
      rcases zit h with ⟨g2, h⟩ | ⟨g2, h⟩
      · obtain ⟨rfl, rfl⟩ := zrI h
        exact ⟨zR_ret 3 ((if_pos g2).trans rfl), rfl⟩
      · obtain ⟨p102, g3, h⟩ := zOx h
        obtain rfl : ra101 = some p102 := g3
        obtain ⟨g4, h⟩ := zIx h
        rcases zit h with ⟨g5, h⟩ | ⟨g5, h⟩
        · obtain ⟨rfl, rfl⟩ := zrI h
          exact ⟨zR_ret 10 ((if_neg g2).trans ((if_pos g4).trans ((if_pos g5).trans rfl))), rfl⟩
        · replace h := zWx h
          obtain ⟨g6, h⟩ := zIx h
          replace h := zWx h
          replace h := zWx h
          have q := ih h rfl
          exact ⟨zR_go 17 q.1 (fun n => (if_neg g2).trans ((if_pos g4).trans ((if_neg g5).trans ((if_pos g6).trans rfl)))), q.2⟩
    · obtain ⟨rfl, rfl⟩ := zrI h
      exact ⟨zR_ret 5 ((if_neg g1).trans rfl), rfl⟩
set_option maxRecDepth 20000 in
theorem L_Wp_hops {N d sl : Nat} {sx : Nat → Int} {a0 : Nat} {x1 : Int} {M : ZM} {x : Int} {M' : ZM} (h : Wp_hops N a0 x1 M = some (x, M')) (hK : mK M = zK0 sl sx) : zLI (d + 1) tb_X12_hops 0 [some (vR 10 (some a0)), some (vI x1), none, none, none] [] M x M' (zK0 sl sx) := by
  obtain ⟨I0, L0, ⟨ra0, rb0, rc0, rd0⟩, K0, c0⟩ := M
  obtain rfl : K0 = zK0 sl sx := hK
  obtain ⟨v101, M101, f101, h⟩ := zBx h
  have q101 := L_Wp_stands (d := d) f101 rfl
  obtain ⟨I101, L101, ⟨ra101, rb101, rc101, rd101⟩, K101, c101⟩ := M101
  obtain rfl : K101 = zK0 sl sx := q101.2
  suffices w101 : zLI (d + 1) tb_X12_hops 5 [some (vR 10 (some a0)), some (vI x1), none, none, none] [vI v101] (I101, L101, (ra101, rb101, rc101, rd101), zK0 sl sx, c101) x M' (zK0 sl sx) from ⟨zR_call (rest := []) 3 q101.1 (fun n => rfl) w101.1, w101.2⟩
  rcases zit h with ⟨g1, h⟩ | ⟨g1, h⟩
  · obtain ⟨rfl, rfl⟩ := zrI h
    exact ⟨zR_ret 3 ((if_pos g1).trans rfl), rfl⟩
  · have q := L_Wp_hops_17 (d := d) h rfl
    exact ⟨zR_go 7 (zR_up (ls' := [some (vR 10 (some a0)), some (vI x1), some (vI x1), some (vI 0), some (vI 0)]) q.1 ⟨.inr rfl, .inl rfl, .inr rfl, .inr rfl, .inr rfl, trivial⟩) (fun n => (if_neg g1).trans rfl), q.2⟩
set_option maxRecDepth 20000 in
theorem L_Wp_see {N d sl : Nat} {sx : Nat → Int} {a0 : Nat} {x1 : Int} {x2 : Int} {M : ZM} {x : Int} {M' : ZM} (h : Wp_see N a0 x1 x2 M = some (x, M')) (hK : mK M = zK0 sl sx) : zLI (d + 1) tb_X12_see 0 [some (vR 10 (some a0)), some (vI x1), some (vI x2)] [] M x M' (zK0 sl sx) := by
  obtain ⟨I0, L0, ⟨ra0, rb0, rc0, rd0⟩, K0, c0⟩ := M
  obtain rfl : K0 = zK0 sl sx := hK
  obtain ⟨v101, M101, f101, h⟩ := zBx h
  have q101 := L_Wp_stands (d := d) f101 rfl
  obtain ⟨I101, L101, ⟨ra101, rb101, rc101, rd101⟩, K101, c101⟩ := M101
  obtain rfl : K101 = zK0 sl sx := q101.2
  suffices w101 : zLI (d + 1) tb_X12_see 5 [some (vR 10 (some a0)), some (vI x1), some (vI x2)] [vI v101] (I101, L101, (ra101, rb101, rc101, rd101), zK0 sl sx, c101) x M' (zK0 sl sx) from ⟨zR_call (rest := []) 3 q101.1 (fun n => rfl) w101.1, w101.2⟩
  rcases zit h with ⟨g1, h⟩ | ⟨g1, h⟩
  · obtain ⟨rfl, rfl⟩ := zrI h
    exact ⟨zR_ret 3 ((if_pos g1).trans rfl), rfl⟩
  · rcases zit h with ⟨g2, h⟩ | ⟨g2, h⟩
    · obtain ⟨rfl, rfl⟩ := zrI h
      exact ⟨zR_ret 5 ((if_neg g1).trans ((if_pos g2).trans rfl)), rfl⟩
    · rcases zit h with ⟨g3, h⟩ | ⟨g3, h⟩
      · obtain ⟨rfl, rfl⟩ := zrI h
        exact ⟨zR_ret 8 ((if_neg g1).trans ((if_neg g2).trans ((if_pos g3).trans rfl))), rfl⟩
      · obtain ⟨v102, M102, f102, h⟩ := zBx h
        have q102 := L_Nu_add (d := d) f102 rfl
        obtain ⟨I102, L102, ⟨ra102, rb102, rc102, rd102⟩, K102, c102⟩ := M102
        obtain rfl : K102 = zK0 sl sx := q102.2
        suffices w102 : zLI (d + 1) tb_X12_see 33 [some (vR 10 (some a0)), some (vI x1), some (vI x2)] [vI v102] (I102, L102, (ra102, rb102, rc102, rd102), zK0 sl sx, c102) x M' (zK0 sl sx) from ⟨zR_call (rest := []) 14 q102.1 (fun n => (if_neg g1).trans ((if_neg g2).trans ((if_neg g3).trans rfl))) w102.1, w102.2⟩
        obtain ⟨rfl, rfl⟩ := zrI h
        exact ⟨zR_ret 1 (rfl), rfl⟩
set_option maxRecDepth 20000 in
theorem L_Wp_winds {N d sl : Nat} {sx : Nat → Int} {a0 : Nat} {x1 : Int} {M : ZM} {x : Int} {M' : ZM} (h : Wp_winds N a0 x1 M = some (x, M')) (hK : mK M = zK0 sl sx) : zLI (d + 5) tb_X12_winds 0 [some (vR 10 (some a0)), some (vI x1)] [] M x M' (zK0 sl sx) := by
  obtain ⟨I0, L0, ⟨ra0, rb0, rc0, rd0⟩, K0, c0⟩ := M
  obtain rfl : K0 = zK0 sl sx := hK
  obtain ⟨p101, g1, h⟩ := zOx h
  obtain rfl : ra0 = some p101 := g1
  obtain ⟨M102, f102, h⟩ := zBvx h
  have q102 := L_Wi_guess (d := d) f102 rfl
  obtain ⟨I102, L102, ⟨ra102, rb102, rc102, rd102⟩, K102, c102⟩ := M102
  obtain rfl : K102 = zK0 sl sx := q102.2
  suffices w102 : zLI (d + 5) tb_X12_winds 23 [some (vR 10 (some a0)), some (vI x1)] [] (I102, L102, (ra102, rb102, rc102, rd102), zK0 sl sx, c102) x M' (zK0 sl sx) from ⟨zR_call (rest := []) 11 q102.1 (fun n => rfl) w102.1, w102.2⟩
  rcases zit h with ⟨g2, h⟩ | ⟨g2, h⟩
  · obtain ⟨rfl, rfl⟩ := zrI h
    exact ⟨zR_ret 6 ((if_pos g2).trans rfl), rfl⟩
  · rcases zit h with ⟨g3, h⟩ | ⟨g3, h⟩
    · obtain ⟨rfl, rfl⟩ := zrI h
      exact ⟨zR_ret 6 ((if_neg g2).trans ((if_pos g3).trans rfl)), rfl⟩
    · rcases zit h with ⟨g4, h⟩ | ⟨g4, h⟩
      · obtain ⟨rfl, rfl⟩ := zrI h
        exact ⟨zR_ret 6 ((if_neg g2).trans ((if_neg g3).trans ((if_pos g4).trans rfl))), rfl⟩
      · rcases zit h with ⟨g5, h⟩ | ⟨g5, h⟩
        · obtain ⟨rfl, rfl⟩ := zrI h
          exact ⟨zR_ret 6 ((if_neg g2).trans ((if_neg g3).trans ((if_neg g4).trans ((if_pos g5).trans rfl)))), rfl⟩
        · obtain ⟨rfl, rfl⟩ := zrI h
          exact ⟨zR_ret 4 ((if_neg g2).trans ((if_neg g3).trans ((if_neg g4).trans ((if_neg g5).trans rfl)))), rfl⟩
set_option maxRecDepth 20000 in
theorem L_Wp_ask_35 {N d sl : Nat} {sx : Nat → Int} : ∀ {n : Nat} {a0 : Nat} {x1 : Int} {x2 : Int} {x3 : Int} {M : ZM} {x : Int} {M' : ZM}, Wp_ask_35 N n a0 x1 x2 x3 M = some (x, M') → mK M = zK0 sl sx → zLI (d + 5) tb_X12_ask 35 [some (vR 10 (some a0)), some (vI x1), some (vI x2), some (vI x3), none] [] M x M' (zK0 sl sx) := by
  intro n
  induction n with
  | zero => intros; rename_i h _; cases h
  | succ n ih =>
    intro a0 x1 x2 x3 M x M' h hK
    obtain ⟨I0, L0, ⟨ra0, rb0, rc0, rd0⟩, K0, c0⟩ := M
    obtain rfl : K0 = zK0 sl sx := hK
    obtain ⟨p101, g1, h⟩ := zOx h
    obtain rfl : ra0 = some p101 := g1
    rcases zit h with ⟨g2, h⟩ | ⟨g2, h⟩
    · obtain ⟨v102, M102, f102, h⟩ := zBx h
      have q102 := L_Wi_mostAlike (d := (d + 3)) f102 rfl
      obtain ⟨I102, L102, ⟨ra102, rb102, rc102, rd102⟩, K102, c102⟩ := M102
      obtain rfl : K102 = zK0 sl sx := q102.2
      suffices w102 : zLI (d + 5) tb_X12_ask 54 [some (vR 10 (some a0)), some (vI x1), some (vI x2), some (vI x3), none] [vI v102] (I102, L102, (ra102, rb102, rc102, rd102), zK0 sl sx, c102) x M' (zK0 sl sx) from ⟨zR_call (rest := []) 9 q102.1 (fun n => (if_pos g2).trans rfl) w102.1, w102.2⟩
      rcases zit h with ⟨g3, h⟩ | ⟨g3, h⟩
      · replace h := zWx h
        have q := ih h rfl
        exact ⟨zR_go 10 (zR_up (ls' := [some (vR 10 (some a0)), some (vI x3), some (vI v102), some (vI (z32 (x3 + 1))), some (vI v102)]) q.1 ⟨.inr rfl, .inr rfl, .inr rfl, .inr rfl, .inl rfl, trivial⟩) (fun n => (if_pos g3).trans rfl), q.2⟩
      · replace h := zWx h
        have q := ih h rfl
        exact ⟨zR_go 6 (zR_up (ls' := [some (vR 10 (some a0)), some (vI x1), some (vI x2), some (vI (z32 (x3 + 1))), some (vI v102)]) q.1 ⟨.inr rfl, .inr rfl, .inr rfl, .inr rfl, .inl rfl, trivial⟩) (fun n => (if_neg g3).trans rfl), q.2⟩
    · obtain ⟨rfl, rfl⟩ := zrI h
      exact ⟨zR_ret 7 ((if_neg g2).trans rfl), rfl⟩
set_option maxRecDepth 20000 in
theorem L_Wp_ask {N d sl : Nat} {sx : Nat → Int} {a0 : Nat} {M : ZM} {x : Int} {M' : ZM} (h : Wp_ask N a0 M = some (x, M')) (hK : mK M = zK0 sl sx) : zLI (d + 5) tb_X12_ask 0 [some (vR 10 (some a0)), none, none, none, none] [] M x M' (zK0 sl sx) := by
  obtain ⟨I0, L0, ⟨ra0, rb0, rc0, rd0⟩, K0, c0⟩ := M
  obtain rfl : K0 = zK0 sl sx := hK
  obtain ⟨p101, g1, h⟩ := zOx h
  obtain rfl : ra0 = some p101 := g1
  obtain ⟨M102, f102, h⟩ := zBvx h
  have q102 := L_Wi_guess (d := d) f102 rfl
  obtain ⟨I102, L102, ⟨ra102, rb102, rc102, rd102⟩, K102, c102⟩ := M102
  obtain rfl : K102 = zK0 sl sx := q102.2
  suffices w102 : zLI (d + 5) tb_X12_ask 23 [some (vR 10 (some a0)), none, none, none, none] [] (I102, L102, (ra102, rb102, rc102, rd102), zK0 sl sx, c102) x M' (zK0 sl sx) from ⟨zR_call (rest := []) 11 q102.1 (fun n => rfl) w102.1, w102.2⟩
  replace h := zWx h
  have q := L_Wp_ask_35 (d := d) h rfl
  exact ⟨zR_go 8 q.1 (fun n => rfl), q.2⟩
set_option maxRecDepth 20000 in
theorem L_Wp_chance_116 {N d sl : Nat} {sx : Nat → Int} {rec56 : Nat → Int → Int → Int → Int → Int → Int → ZM → Option (Int × ZM)} (hrec56 : ∀ {a0 : Nat} {x1 : Int} {x2 : Int} {x3 : Int} {x4 : Int} {x5 : Int} {x6 : Int} {M : ZM} {x : Int} {M' : ZM}, rec56 a0 x1 x2 x3 x4 x5 x6 M = some (x, M') → mK M = zK0 sl sx → zLI (d + 4) tb_X12_chance 56 [some (vR 10 (some a0)), some (vI x1), some (vI x2), some (vI x3), some (vI x4), some (vI x5), some (vI x6)] [] M x M' (zK0 sl sx)) {a0 : Nat} {x1 : Int} {x2 : Int} {x3 : Int} {x4 : Int} {x6 : Int} {y0 : Int} {y1 : Int} {M : ZM} {x : Int} {M' : ZM} (h : Wp_chance_116 N rec56 a0 x1 x2 x3 x4 x6 y0 y1 M = some (x, M')) (hK : mK M = zK0 sl sx) : zLI (d + 4) tb_X12_chance 116 [some (vR 10 (some a0)), some (vI x1), some (vI x2), some (vI x3), some (vI x4), none, some (vI x6)] [vI y1, vI y0] M x M' (zK0 sl sx) := by
  obtain ⟨I0, L0, ⟨ra0, rb0, rc0, rd0⟩, K0, c0⟩ := M
  obtain rfl : K0 = zK0 sl sx := hK
  replace h := zWx h
  obtain ⟨p102, g1, h⟩ := zOx h
  obtain rfl : ra0 = some p102 := g1
  obtain ⟨M103, f103, h⟩ := zBvx h
  have q103 := L_Fl_give (d := d) f103 rfl
  obtain ⟨I103, L103, ⟨ra103, rb103, rc103, rd103⟩, K103, c103⟩ := M103
  obtain rfl : K103 = zK0 sl sx := q103.2
  suffices w103 : zLI (d + 4) tb_X12_chance 138 [some (vR 10 (some a0)), some (vI x1), some (vI x2), some (vI x3), some (vI x4), some (vI (z32 (y0 + y1))), some (vI x6)] [] (I103, L103, (ra103, rb103, rc103, rd103), zK0 sl sx, c103) x M' (zK0 sl sx) from ⟨zR_call (rest := []) 12 q103.1 (fun n => rfl) w103.1, w103.2⟩
  obtain ⟨g2, h⟩ := zIx h
  rcases zit h with ⟨g3, h⟩ | ⟨g3, h⟩
  · replace h := zWx h
    replace h := zWx h
    have q := hrec56 h rfl
    exact ⟨zR_go 13 q.1 (fun n => (if_pos g2).trans ((if_pos g3).trans rfl)), q.2⟩
  · replace h := zWx h
    replace h := zWx h
    have q := hrec56 h rfl
    exact ⟨zR_go 16 q.1 (fun n => (if_pos g2).trans ((if_neg g3).trans rfl)), q.2⟩
set_option maxRecDepth 20000 in
theorem L_Wp_chance_56 {N d sl : Nat} {sx : Nat → Int} : ∀ {n : Nat} {a0 : Nat} {x1 : Int} {x2 : Int} {x3 : Int} {x4 : Int} {x5 : Int} {x6 : Int} {M : ZM} {x : Int} {M' : ZM}, Wp_chance_56 N n a0 x1 x2 x3 x4 x5 x6 M = some (x, M') → mK M = zK0 sl sx → zLI (d + 4) tb_X12_chance 56 [some (vR 10 (some a0)), some (vI x1), some (vI x2), some (vI x3), some (vI x4), some (vI x5), some (vI x6)] [] M x M' (zK0 sl sx) := by
  intro n
  induction n with
  | zero => intros; rename_i h _; cases h
  | succ n ih =>
    intro a0 x1 x2 x3 x4 x5 x6 M x M' h hK
    obtain ⟨I0, L0, ⟨ra0, rb0, rc0, rd0⟩, K0, c0⟩ := M
    obtain rfl : K0 = zK0 sl sx := hK
    rcases zit h with ⟨g1, h⟩ | ⟨g1, h⟩
    · obtain ⟨p101, g2, h⟩ := zOx h
      obtain rfl : ra0 = some p101 := g2
      obtain ⟨M102, f102, h⟩ := zBvx h
      have q102 := L_Fl_take (d := d) f102 rfl
      obtain ⟨I102, L102, ⟨ra102, rb102, rc102, rd102⟩, K102, c102⟩ := M102
      obtain rfl : K102 = zK0 sl sx := q102.2
      suffices w102 : zLI (d + 4) tb_X12_chance 79 [some (vR 10 (some a0)), some (vI x1), some (vI x2), some (vI x3), some (vI x4), some (vI x5), some (vI x6)] [] (I102, L102, (ra102, rb102, rc102, rd102), zK0 sl sx, c102) x M' (zK0 sl sx) from ⟨zR_call (rest := []) 11 q102.1 (fun n => (if_pos g1).trans rfl) w102.1, w102.2⟩
      obtain ⟨p103, g3, h⟩ := zOx h
      obtain rfl : ra102 = some p103 := g3
      obtain ⟨M104, f104, h⟩ := zBvx h
      have q104 := L_Fl_give (d := d) f104 rfl
      obtain ⟨I104, L104, ⟨ra104, rb104, rc104, rd104⟩, K104, c104⟩ := M104
      obtain rfl : K104 = zK0 sl sx := q104.2
      suffices w104 : zLI (d + 4) tb_X12_chance 96 [some (vR 10 (some a0)), some (vI x1), some (vI x2), some (vI x3), some (vI x4), some (vI x5), some (vI x6)] [] (I104, L104, (ra104, rb104, rc104, rd104), zK0 sl sx, c104) x M' (zK0 sl sx) from ⟨zR_call (rest := []) 8 q104.1 (fun n => rfl) w104.1, w104.2⟩
      obtain ⟨g4, h⟩ := zIx h
      rcases zit h with ⟨g5, h⟩ | ⟨g5, h⟩
      · have q := L_Wp_chance_116 (d := d) ih h rfl
        exact ⟨zR_go 9 (zR_up (ls' := [some (vR 10 (some a0)), some (vI x1), some (vI x2), some (vI x3), some (vI x4), some (vI x5), some (vI x6)]) q.1 ⟨.inr rfl, .inr rfl, .inr rfl, .inr rfl, .inr rfl, .inl rfl, .inr rfl, trivial⟩) (fun n => (if_pos g4).trans ((if_pos g5).trans rfl)), q.2⟩
      · have q := L_Wp_chance_116 (d := d) ih h rfl
        exact ⟨zR_go 10 (zR_up (ls' := [some (vR 10 (some a0)), some (vI x1), some (vI x2), some (vI x3), some (vI x4), some (vI x5), some (vI x6)]) q.1 ⟨.inr rfl, .inr rfl, .inr rfl, .inr rfl, .inr rfl, .inl rfl, .inr rfl, trivial⟩) (fun n => (if_pos g4).trans ((if_neg g5).trans rfl)), q.2⟩
    · obtain ⟨rfl, rfl⟩ := zrI h
      exact ⟨zR_ret 7 ((if_neg g1).trans rfl), rfl⟩
set_option maxRecDepth 20000 in
theorem L_Wp_chance {N d sl : Nat} {sx : Nat → Int} {a0 : Nat} {x1 : Int} {x2 : Int} {x3 : Int} {M : ZM} {x : Int} {M' : ZM} (h : Wp_chance N a0 x1 x2 x3 M = some (x, M')) (hK : mK M = zK0 sl sx) : zLI (d + 4) tb_X12_chance 0 [some (vR 10 (some a0)), some (vI x1), some (vI x2), some (vI x3), none, none, none] [] M x M' (zK0 sl sx) := by
  obtain ⟨I0, L0, ⟨ra0, rb0, rc0, rd0⟩, K0, c0⟩ := M
  obtain rfl : K0 = zK0 sl sx := hK
  obtain ⟨v101, M101, f101, h⟩ := zBx h
  have q101 := L_Wp_stands (d := (d + 3)) f101 rfl
  obtain ⟨I101, L101, ⟨ra101, rb101, rc101, rd101⟩, K101, c101⟩ := M101
  obtain rfl : K101 = zK0 sl sx := q101.2
  suffices w101 : zLI (d + 4) tb_X12_chance 5 [some (vR 10 (some a0)), some (vI x1), some (vI x2), some (vI x3), none, none, none] [vI v101] (I101, L101, (ra101, rb101, rc101, rd101), zK0 sl sx, c101) x M' (zK0 sl sx) from ⟨zR_call (rest := []) 3 q101.1 (fun n => rfl) w101.1, w101.2⟩
  rcases zit h with ⟨g1, h⟩ | ⟨g1, h⟩
  · obtain ⟨rfl, rfl⟩ := zrI h
    exact ⟨zR_ret 3 ((if_pos g1).trans rfl), rfl⟩
  · rcases zit h with ⟨g2, h⟩ | ⟨g2, h⟩
    · obtain ⟨rfl, rfl⟩ := zrI h
      exact ⟨zR_ret 6 ((if_neg g1).trans ((if_pos g2).trans rfl)), rfl⟩
    · rcases zit h with ⟨g3, h⟩ | ⟨g3, h⟩
      · obtain ⟨rfl, rfl⟩ := zrI h
        exact ⟨zR_ret 9 ((if_neg g1).trans ((if_neg g2).trans ((if_pos g3).trans rfl))), rfl⟩
      · rcases zit h with ⟨g4, h⟩ | ⟨g4, h⟩
        · obtain ⟨rfl, rfl⟩ := zrI h
          exact ⟨zR_ret 11 ((if_neg g1).trans ((if_neg g2).trans ((if_neg g3).trans ((if_pos g4).trans rfl)))), rfl⟩
        · rcases zit h with ⟨g5, h⟩ | ⟨g5, h⟩
          · obtain ⟨rfl, rfl⟩ := zrI h
            exact ⟨zR_ret 14 ((if_neg g1).trans ((if_neg g2).trans ((if_neg g3).trans ((if_neg g4).trans ((if_pos g5).trans rfl))))), rfl⟩
          · obtain ⟨p102, g6, h⟩ := zOx h
            obtain rfl : ra101 = some p102 := g6
            obtain ⟨v103, M103, f103, h⟩ := zBx h
            have q103 := L_Nu_round (d := (d + 3)) f103 rfl
            obtain ⟨I103, L103, ⟨ra103, rb103, rc103, rd103⟩, K103, c103⟩ := M103
            obtain rfl : K103 = zK0 sl sx := q103.2
            suffices w103 : zLI (d + 4) tb_X12_chance 48 [some (vR 10 (some a0)), some (vI x1), some (vI x2), some (vI x3), none, none, none] [vI v103] (I103, L103, (ra103, rb103, rc103, rd103), zK0 sl sx, c103) x M' (zK0 sl sx) from ⟨zR_call (rest := []) 19 q103.1 (fun n => (if_neg g1).trans ((if_neg g2).trans ((if_neg g3).trans ((if_neg g4).trans ((if_neg g5).trans rfl))))) w103.1, w103.2⟩
            have q := L_Wp_chance_56 (d := d) h rfl
            exact ⟨zR_go 5 q.1 (fun n => rfl), q.2⟩
set_option maxRecDepth 20000 in
theorem L_Wp_isDigit {N d sl : Nat} {sx : Nat → Int} {x0 : Int} {M : ZM} {x : Int} {M' : ZM} (h : Wp_isDigit N x0 M = some (x, M')) (hK : mK M = zK0 sl sx) : zLI (d + 0) tb_X12_isDigit 0 [some (vI x0)] [] M x M' (zK0 sl sx) := by
  obtain ⟨I0, L0, ⟨ra0, rb0, rc0, rd0⟩, K0, c0⟩ := M
  obtain rfl : K0 = zK0 sl sx := hK
  rcases zit h with ⟨g1, h⟩ | ⟨g1, h⟩
  · obtain ⟨rfl, rfl⟩ := zrI h
    exact ⟨zR_ret 4 ((if_pos g1).trans rfl), rfl⟩
  · rcases zit h with ⟨g2, h⟩ | ⟨g2, h⟩
    · obtain ⟨rfl, rfl⟩ := zrI h
      exact ⟨zR_ret 7 ((if_neg g1).trans ((if_pos g2).trans rfl)), rfl⟩
    · obtain ⟨rfl, rfl⟩ := zrI h
      exact ⟨zR_ret 8 ((if_neg g1).trans ((if_neg g2).trans rfl)), rfl⟩
set_option maxRecDepth 20000 in
theorem L_Wp_gain {N d sl : Nat} {sx : Nat → Int} {x0 : Int} {x1 : Int} {x2 : Int} {x3 : Int} {x4 : Int} {M : ZM} {x : Int} {M' : ZM} (h : Wp_gain N x0 x1 x2 x3 x4 M = some (x, M')) (hK : mK M = zK0 sl sx) : zLI (d + 0) tb_X12_gain 0 [some (vI x0), some (vI x1), some (vI x2), some (vI x3), some (vI x4)] [] M x M' (zK0 sl sx) := by
  obtain ⟨I0, L0, ⟨ra0, rb0, rc0, rd0⟩, K0, c0⟩ := M
  obtain rfl : K0 = zK0 sl sx := hK
  rcases zit h with ⟨g1, h⟩ | ⟨g1, h⟩
  · rcases zit h with ⟨g2, h⟩ | ⟨g2, h⟩
    · obtain ⟨rfl, rfl⟩ := zrI h
      exact ⟨zR_ret 10 ((if_pos g1).trans ((if_pos g2).trans rfl)), rfl⟩
    · obtain ⟨rfl, rfl⟩ := zrI h
      exact ⟨zR_ret 8 ((if_pos g1).trans ((if_neg g2).trans rfl)), rfl⟩
  · rcases zit h with ⟨g3, h⟩ | ⟨g3, h⟩
    · obtain ⟨rfl, rfl⟩ := zrI h
      exact ⟨zR_ret 9 ((if_neg g1).trans ((if_pos g3).trans rfl)), rfl⟩
    · obtain ⟨rfl, rfl⟩ := zrI h
      exact ⟨zR_ret 8 ((if_neg g1).trans ((if_neg g3).trans rfl)), rfl⟩
set_option maxRecDepth 20000 in
theorem L_Wp_keeps {N d sl : Nat} {sx : Nat → Int} {x0 : Int} {x1 : Int} {x2 : Int} {x3 : Int} {x4 : Int} {M : ZM} {x : Int} {M' : ZM} (h : Wp_keeps N x0 x1 x2 x3 x4 M = some (x, M')) (hK : mK M = zK0 sl sx) : zLI (d + 1) tb_X12_keeps 0 [some (vI x0), some (vI x1), some (vI x2), some (vI x3), some (vI x4)] [] M x M' (zK0 sl sx) := by
  obtain ⟨I0, L0, ⟨ra0, rb0, rc0, rd0⟩, K0, c0⟩ := M
  obtain rfl : K0 = zK0 sl sx := hK
  obtain ⟨v101, M101, f101, h⟩ := zBx h
  have q101 := L_Wp_gain (d := d) f101 rfl
  obtain ⟨I101, L101, ⟨ra101, rb101, rc101, rd101⟩, K101, c101⟩ := M101
  obtain rfl : K101 = zK0 sl sx := q101.2
  suffices w101 : zLI (d + 1) tb_X12_keeps 9 [some (vI x0), some (vI x1), some (vI x2), some (vI x3), some (vI x4)] [vI v101] (I101, L101, (ra101, rb101, rc101, rd101), zK0 sl sx, c101) x M' (zK0 sl sx) from ⟨zR_call (rest := []) 6 q101.1 (fun n => rfl) w101.1, w101.2⟩
  obtain ⟨v102, M102, f102, h⟩ := zBx h
  have q102 := L_Wp_gain (d := d) f102 rfl
  obtain ⟨I102, L102, ⟨ra102, rb102, rc102, rd102⟩, K102, c102⟩ := M102
  obtain rfl : K102 = zK0 sl sx := q102.2
  suffices w102 : zLI (d + 1) tb_X12_keeps 20 [some (vI x0), some (vI x1), some (vI x2), some (vI x3), some (vI x4)] [vI v102, vI v101] (I102, L102, (ra102, rb102, rc102, rd102), zK0 sl sx, c102) x M' (zK0 sl sx) from ⟨zR_call (rest := [vI v101]) 8 q102.1 (fun n => rfl) w102.1, w102.2⟩
  rcases zit h with ⟨g1, h⟩ | ⟨g1, h⟩
  · obtain ⟨rfl, rfl⟩ := zrI h
    exact ⟨zR_ret 3 ((if_pos g1).trans rfl), rfl⟩
  · obtain ⟨rfl, rfl⟩ := zrI h
    exact ⟨zR_ret 4 ((if_neg g1).trans rfl), rfl⟩
set_option maxRecDepth 20000 in
theorem L_Wp_drawn {N d sl : Nat} {sx : Nat → Int} {x0 : Int} {M : ZM} {x : Int} {M' : ZM} (h : Wp_drawn N x0 M = some (x, M')) (hK : mK M = zK0 sl sx) : zLL (d + 0) tb_X12_drawn 0 [some (vL x0), none] [] M x M' (zK0 sl sx) := by
  obtain ⟨I0, L0, ⟨ra0, rb0, rc0, rd0⟩, K0, c0⟩ := M
  obtain rfl : K0 = zK0 sl sx := hK
  obtain ⟨rfl, rfl⟩ := zrI h
  exact ⟨zR_ret 8 (rfl), rfl⟩
set_option maxRecDepth 20000 in
theorem L_Wp_below {N d sl : Nat} {sx : Nat → Int} {x0 : Int} {x1 : Int} {M : ZM} {x : Int} {M' : ZM} (h : Wp_below N x0 x1 M = some (x, M')) (hK : mK M = zK0 sl sx) : zLI (d + 0) tb_X12_below 0 [some (vL x0), none, some (vI x1)] [] M x M' (zK0 sl sx) := by
  obtain ⟨I0, L0, ⟨ra0, rb0, rc0, rd0⟩, K0, c0⟩ := M
  obtain rfl : K0 = zK0 sl sx := hK
  rcases zit h with ⟨g1, h⟩ | ⟨g1, h⟩
  · obtain ⟨g2, h⟩ := zgn h
    obtain ⟨rfl, rfl⟩ := zrI h
    exact ⟨zR_ret 11 ((if_pos g1).trans ((if_neg g2).trans rfl)), rfl⟩
  · obtain ⟨rfl, rfl⟩ := zrI h
    exact ⟨zR_ret 4 ((if_neg g1).trans rfl), rfl⟩
set_option maxRecDepth 20000 in
theorem L_Wp_days_155 {N d sl : Nat} {sx : Nat → Int} {rec55 : Nat → Int → Int → Int → Int → Int → ZM → Option (Int × ZM)} (hrec55 : ∀ {a0 : Nat} {x2 : Int} {x3 : Int} {x4 : Int} {x5 : Int} {x7 : Int} {M : ZM} {x : Int} {M' : ZM}, rec55 a0 x2 x3 x4 x5 x7 M = some (x, M') → mK M = zK0 sl sx → zLI (d + 6) tb_X12_days 55 [some (vR 10 (some a0)), none, some (vI x2), some (vI x3), some (vI x4), some (vL x5), none, some (vI x7), none, none, none] [] M x M' (zK0 sl sx)) {a0 : Nat} {x2 : Int} {x3 : Int} {x4 : Int} {x5 : Int} {x7 : Int} {M : ZM} {x : Int} {M' : ZM} (h : Wp_days_155 N rec55 a0 x2 x3 x4 x5 x7 M = some (x, M')) (hK : mK M = zK0 sl sx) : zLI (d + 6) tb_X12_days 155 [some (vR 10 (some a0)), none, some (vI x2), some (vI x3), some (vI x4), some (vL x5), none, some (vI x7), none, none, none] [] M x M' (zK0 sl sx) := by
  obtain ⟨I0, L0, ⟨ra0, rb0, rc0, rd0⟩, K0, c0⟩ := M
  obtain rfl : K0 = zK0 sl sx := hK
  obtain ⟨p101, g1, h⟩ := zOx h
  obtain rfl : ra0 = some p101 := g1
  obtain ⟨v102, M102, f102, h⟩ := zBx h
  have q102 := L_Fl_runStep (d := d) f102 rfl
  obtain ⟨I102, L102, ⟨ra102, rb102, rc102, rd102⟩, K102, c102⟩ := M102
  obtain rfl : K102 = zK0 sl sx := q102.2
  suffices w102 : zLI (d + 6) tb_X12_days 172 [some (vR 10 (some a0)), none, some (vI x2), some (vI x3), some (vI x4), some (vL x5), none, some (vI x7), none, none, none] [vI v102, vI x4] (I102, L102, (ra102, rb102, rc102, rd102), zK0 sl sx, c102) x M' (zK0 sl sx) from ⟨zR_call (rest := [vI x4]) 8 q102.1 (fun n => rfl) w102.1, w102.2⟩
  replace h := zWx h
  replace h := zWx h
  have q := hrec55 h rfl
  exact ⟨zR_go 4 q.1 (fun n => rfl), q.2⟩
set_option maxRecDepth 20000 in
theorem L_Wp_days_131 {N d sl : Nat} {sx : Nat → Int} {rec55 : Nat → Int → Int → Int → Int → Int → ZM → Option (Int × ZM)} (hrec55 : ∀ {a0 : Nat} {x2 : Int} {x3 : Int} {x4 : Int} {x5 : Int} {x7 : Int} {M : ZM} {x : Int} {M' : ZM}, rec55 a0 x2 x3 x4 x5 x7 M = some (x, M') → mK M = zK0 sl sx → zLI (d + 6) tb_X12_days 55 [some (vR 10 (some a0)), none, some (vI x2), some (vI x3), some (vI x4), some (vL x5), none, some (vI x7), none, none, none] [] M x M' (zK0 sl sx)) {a0 : Nat} {x2 : Int} {x3 : Int} {x4 : Int} {x5 : Int} {x7 : Int} {x8 : Int} {x9 : Int} {x10 : Int} {M : ZM} {x : Int} {M' : ZM} (h : Wp_days_131 N rec55 a0 x2 x3 x4 x5 x7 x8 x9 x10 M = some (x, M')) (hK : mK M = zK0 sl sx) : zLI (d + 6) tb_X12_days 131 [some (vR 10 (some a0)), none, some (vI x2), some (vI x3), some (vI x4), some (vL x5), none, some (vI x7), some (vI x8), some (vI x9), some (vI x10)] [] M x M' (zK0 sl sx) := by
  obtain ⟨I0, L0, ⟨ra0, rb0, rc0, rd0⟩, K0, c0⟩ := M
  obtain rfl : K0 = zK0 sl sx := hK
  rcases zit h with ⟨g1, h⟩ | ⟨g1, h⟩
  · have q := L_Wp_days_155 (d := d) hrec55 h rfl
    exact ⟨zR_go 3 (zR_up (ls' := [some (vR 10 (some a0)), none, some (vI x2), some (vI x3), some (vI x4), some (vL x5), none, some (vI x7), some (vI x8), some (vI x9), some (vI x10)]) q.1 ⟨.inr rfl, .inr rfl, .inr rfl, .inr rfl, .inr rfl, .inr rfl, .inr rfl, .inr rfl, .inl rfl, .inl rfl, .inl rfl, trivial⟩) (fun n => (if_pos g1).trans rfl), q.2⟩
  · obtain ⟨p101, g2, h⟩ := zOx h
    obtain rfl : ra0 = some p101 := g2
    obtain ⟨v102, M102, f102, h⟩ := zBx h
    have q102 := L_St_act (d := (d + 3)) f102 rfl
    obtain ⟨I102, L102, ⟨ra102, rb102, rc102, rd102⟩, K102, c102⟩ := M102
    obtain rfl : K102 = zK0 sl sx := q102.2
    suffices w102 : zLI (d + 6) tb_X12_days 154 [some (vR 10 (some a0)), none, some (vI x2), some (vI x3), some (vI x4), some (vL x5), none, some (vI x7), some (vI x8), some (vI x9), some (vI x10)] [vI v102] (I102, L102, (ra102, rb102, rc102, rd102), zK0 sl sx, c102) x M' (zK0 sl sx) from ⟨zR_call (rest := []) 11 q102.1 (fun n => (if_neg g1).trans rfl) w102.1, w102.2⟩
    have q := L_Wp_days_155 (d := d) hrec55 h rfl
    exact ⟨zR_go 1 (zR_up (ls' := [some (vR 10 (some a0)), none, some (vI x2), some (vI x3), some (vI x4), some (vL x5), none, some (vI x7), some (vI x8), some (vI x9), some (vI x10)]) q.1 ⟨.inr rfl, .inr rfl, .inr rfl, .inr rfl, .inr rfl, .inr rfl, .inr rfl, .inr rfl, .inl rfl, .inl rfl, .inl rfl, trivial⟩) (fun n => rfl), q.2⟩
set_option maxRecDepth 20000 in
theorem L_Wp_days_55 {N d sl : Nat} {sx : Nat → Int} : ∀ {n : Nat} {a0 : Nat} {x2 : Int} {x3 : Int} {x4 : Int} {x5 : Int} {x7 : Int} {M : ZM} {x : Int} {M' : ZM}, Wp_days_55 N n a0 x2 x3 x4 x5 x7 M = some (x, M') → mK M = zK0 sl sx → zLI (d + 6) tb_X12_days 55 [some (vR 10 (some a0)), none, some (vI x2), some (vI x3), some (vI x4), some (vL x5), none, some (vI x7), none, none, none] [] M x M' (zK0 sl sx) := by
  intro n
  induction n with
  | zero => intros; rename_i h _; cases h
  | succ n ih =>
    intro a0 x2 x3 x4 x5 x7 M x M' h hK
    obtain ⟨I0, L0, ⟨ra0, rb0, rc0, rd0⟩, K0, c0⟩ := M
    obtain rfl : K0 = zK0 sl sx := hK
    rcases zit h with ⟨g1, h⟩ | ⟨g1, h⟩
    · obtain ⟨p101, g2, h⟩ := zOx h
      obtain rfl : ra0 = some p101 := g2
      rcases zit h with ⟨g3, h⟩ | ⟨g3, h⟩
      · obtain ⟨v102, M102, f102, h⟩ := zBx h
        have q102 := L_Wp_drawn (d := (d + 5)) f102 rfl
        obtain ⟨I102, L102, ⟨ra102, rb102, rc102, rd102⟩, K102, c102⟩ := M102
        obtain rfl : K102 = zK0 sl sx := q102.2
        suffices w102 : zLI (d + 6) tb_X12_days 76 [some (vR 10 (some a0)), none, some (vI x2), some (vI x3), some (vI x4), some (vL x5), none, some (vI x7), none, none, none] [vL v102] (I102, L102, (ra102, rb102, rc102, rd102), zK0 sl sx, c102) x M' (zK0 sl sx) from ⟨zR_call (rest := []) 9 q102.1 (fun n => (if_pos g1).trans ((if_pos g3).trans rfl)) w102.1, w102.2⟩
        obtain ⟨p103, g4, h⟩ := zOx h
        obtain rfl : ra102 = some p103 := g4
        obtain ⟨v104, M104, f104, h⟩ := zBx h
        have q104 := L_Wp_below (d := (d + 5)) f104 rfl
        obtain ⟨I104, L104, ⟨ra104, rb104, rc104, rd104⟩, K104, c104⟩ := M104
        obtain rfl : K104 = zK0 sl sx := q104.2
        suffices w104 : zLI (d + 6) tb_X12_days 90 [some (vR 10 (some a0)), none, some (vI x2), some (vI x3), some (vI x4), some (vL v102), none, some (vI x7), none, none, none] [vI v104] (I104, L104, (ra104, rb104, rc104, rd104), zK0 sl sx, c104) x M' (zK0 sl sx) from ⟨zR_call (rest := []) 6 q104.1 (fun n => rfl) w104.1, w104.2⟩
        obtain ⟨v105, M105, f105, h⟩ := zBx h
        have q105 := L_Wp_drawn (d := (d + 5)) f105 rfl
        obtain ⟨I105, L105, ⟨ra105, rb105, rc105, rd105⟩, K105, c105⟩ := M105
        obtain rfl : K105 = zK0 sl sx := q105.2
        suffices w105 : zLI (d + 6) tb_X12_days 97 [some (vR 10 (some a0)), none, some (vI x2), some (vI x3), some (vI x4), some (vL v102), none, some (vI x7), some (vI v104), none, none] [vL v105] (I105, L105, (ra105, rb105, rc105, rd105), zK0 sl sx, c105) x M' (zK0 sl sx) from ⟨zR_call (rest := []) 3 q105.1 (fun n => rfl) w105.1, w105.2⟩
        obtain ⟨v106, M106, f106, h⟩ := zBx h
        have q106 := L_Wp_below (d := (d + 5)) f106 rfl
        obtain ⟨I106, L106, ⟨ra106, rb106, rc106, rd106⟩, K106, c106⟩ := M106
        obtain rfl : K106 = zK0 sl sx := q106.2
        suffices w106 : zLI (d + 6) tb_X12_days 106 [some (vR 10 (some a0)), none, some (vI x2), some (vI x3), some (vI x4), some (vL v105), none, some (vI x7), some (vI v104), none, none] [vI v106] (I106, L106, (ra106, rb106, rc106, rd106), zK0 sl sx, c106) x M' (zK0 sl sx) from ⟨zR_call (rest := []) 4 q106.1 (fun n => rfl) w106.1, w106.2⟩
        rcases zit h with ⟨g5, h⟩ | ⟨g5, h⟩
        · obtain ⟨v107, M107, f107, h⟩ := zBx h
          have q107 := L_Wp_drawn (d := (d + 5)) f107 rfl
          obtain ⟨I107, L107, ⟨ra107, rb107, rc107, rd107⟩, K107, c107⟩ := M107
          obtain rfl : K107 = zK0 sl sx := q107.2
          suffices w107 : zLI (d + 6) tb_X12_days 121 [some (vR 10 (some a0)), none, some (vI x2), some (vI x3), some (vI x4), some (vL v105), none, some (vI x7), some (vI v104), some (vI v106), some (vI 2)] [vL v107] (I107, L107, (ra107, rb107, rc107, rd107), zK0 sl sx, c107) x M' (zK0 sl sx) from ⟨zR_call (rest := []) 7 q107.1 (fun n => (if_pos g5).trans rfl) w107.1, w107.2⟩
          obtain ⟨v108, M108, f108, h⟩ := zBx h
          have q108 := L_Wp_below (d := (d + 5)) f108 rfl
          obtain ⟨I108, L108, ⟨ra108, rb108, rc108, rd108⟩, K108, c108⟩ := M108
          obtain rfl : K108 = zK0 sl sx := q108.2
          suffices w108 : zLI (d + 6) tb_X12_days 129 [some (vR 10 (some a0)), none, some (vI x2), some (vI x3), some (vI x4), some (vL v107), none, some (vI x7), some (vI v104), some (vI v106), some (vI 2)] [vI v108] (I108, L108, (ra108, rb108, rc108, rd108), zK0 sl sx, c108) x M' (zK0 sl sx) from ⟨zR_call (rest := []) 4 q108.1 (fun n => rfl) w108.1, w108.2⟩
          have q := L_Wp_days_131 (d := d) ih h rfl
          exact ⟨zR_go 1 q.1 (fun n => rfl), q.2⟩
        · have q := L_Wp_days_131 (d := d) ih h rfl
          exact ⟨zR_go 5 q.1 (fun n => (if_neg g5).trans rfl), q.2⟩
      · have q := L_Wp_days_155 (d := d) ih h rfl
        exact ⟨zR_go 7 q.1 (fun n => (if_pos g1).trans ((if_neg g3).trans rfl)), q.2⟩
    · obtain ⟨p109, g6, h⟩ := zOx h
      obtain rfl : ra0 = some p109 := g6
      obtain ⟨M110, f110, h⟩ := zBvx h
      have q110 := L_Fl_measure (d := (d + 1)) f110 rfl
      obtain ⟨I110, L110, ⟨ra110, rb110, rc110, rd110⟩, K110, c110⟩ := M110
      obtain rfl : K110 = zK0 sl sx := q110.2
      suffices w110 : zLI (d + 6) tb_X12_days 196 [some (vR 10 (some a0)), none, some (vI x2), some (vI x3), some (vI x4), some (vL x5), none, some (vI x7), none, none, none] [] (I110, L110, (ra110, rb110, rc110, rd110), zK0 sl sx, c110) x M' (zK0 sl sx) from ⟨zR_call (rest := []) 10 q110.1 (fun n => (if_neg g1).trans rfl) w110.1, w110.2⟩
      rcases zit h with ⟨g7, h⟩ | ⟨g7, h⟩
      · obtain ⟨rfl, rfl⟩ := zrI h
        exact ⟨zR_ret 5 ((if_pos g7).trans rfl), rfl⟩
      · rcases zit h with ⟨g8, h⟩ | ⟨g8, h⟩
        · obtain ⟨rfl, rfl⟩ := zrI h
          exact ⟨zR_ret 10 ((if_neg g7).trans ((if_pos g8).trans rfl)), rfl⟩
        · obtain ⟨rfl, rfl⟩ := zrI h
          exact ⟨zR_ret 9 ((if_neg g7).trans ((if_neg g8).trans rfl)), rfl⟩
set_option maxRecDepth 20000 in
theorem L_Wp_days {N d sl : Nat} {sx : Nat → Int} {a0 : Nat} {x1 : Int} {x2 : Int} {x3 : Int} {M : ZM} {x : Int} {M' : ZM} (h : Wp_days N a0 x1 x2 x3 M = some (x, M')) (hK : mK M = zK0 sl sx) : zLI (d + 6) tb_X12_days 0 [some (vR 10 (some a0)), some (vI x1), some (vI x2), some (vI x3), none, none, none, none, none, none, none] [] M x M' (zK0 sl sx) := by
  obtain ⟨I0, L0, ⟨ra0, rb0, rc0, rd0⟩, K0, c0⟩ := M
  obtain rfl : K0 = zK0 sl sx := hK
  rcases zit h with ⟨g1, h⟩ | ⟨g1, h⟩
  · obtain ⟨rfl, rfl⟩ := zrI h
    exact ⟨zR_ret 4 ((if_pos g1).trans rfl), rfl⟩
  · rcases zit h with ⟨g2, h⟩ | ⟨g2, h⟩
    · obtain ⟨rfl, rfl⟩ := zrI h
      exact ⟨zR_ret 7 ((if_neg g1).trans ((if_pos g2).trans rfl)), rfl⟩
    · rcases zit h with ⟨g3, h⟩ | ⟨g3, h⟩
      · obtain ⟨rfl, rfl⟩ := zrI h
        exact ⟨zR_ret 10 ((if_neg g1).trans ((if_neg g2).trans ((if_pos g3).trans rfl))), rfl⟩
      · rcases zit h with ⟨g4, h⟩ | ⟨g4, h⟩
        · obtain ⟨rfl, rfl⟩ := zrI h
          exact ⟨zR_ret 13 ((if_neg g1).trans ((if_neg g2).trans ((if_neg g3).trans ((if_pos g4).trans rfl)))), rfl⟩
        · rcases zit h with ⟨g5, h⟩ | ⟨g5, h⟩
          · obtain ⟨rfl, rfl⟩ := zrI h
            exact ⟨zR_ret 15 ((if_neg g1).trans ((if_neg g2).trans ((if_neg g3).trans ((if_neg g4).trans ((if_pos g5).trans rfl))))), rfl⟩
          · rcases zit h with ⟨g6, h⟩ | ⟨g6, h⟩
            · obtain ⟨rfl, rfl⟩ := zrI h
              exact ⟨zR_ret 18 ((if_neg g1).trans ((if_neg g2).trans ((if_neg g3).trans ((if_neg g4).trans ((if_neg g5).trans ((if_pos g6).trans rfl)))))), rfl⟩
            · obtain ⟨M101, f101, h⟩ := zBvx h
              have q101 := L_St_copy (d := (d + 5)) f101 rfl
              obtain ⟨I101, L101, ⟨ra101, rb101, rc101, rd101⟩, K101, c101⟩ := M101
              obtain rfl : K101 = zK0 sl sx := q101.2
              suffices w101 : zLI (d + 6) tb_X12_days 45 [some (vR 10 (some a0)), some (vI x1), some (vI x2), some (vI x3), none, none, none, none, none, none, none] [] (I101, L101, (ra101, rb101, rc101, rd101), zK0 sl sx, c101) x M' (zK0 sl sx) from ⟨zR_call (rest := []) 21 q101.1 (fun n => (if_neg g1).trans ((if_neg g2).trans ((if_neg g3).trans ((if_neg g4).trans ((if_neg g5).trans ((if_neg g6).trans rfl)))))) w101.1, w101.2⟩
              have q := L_Wp_days_55 (d := d) h rfl
              exact ⟨zR_go 7 (zR_up (ls' := [some (vR 10 (some a0)), some (vI x1), some (vI x2), some (vI x3), some (vI 0), some (vL x1), none, some (vI 0), none, none, none]) q.1 ⟨.inr rfl, .inl rfl, .inr rfl, .inr rfl, .inr rfl, .inr rfl, .inr rfl, .inr rfl, .inr rfl, .inr rfl, .inr rfl, trivial⟩) (fun n => rfl), q.2⟩
set_option maxRecDepth 20000 in
theorem L_Wp_mark {N d sl : Nat} {sx : Nat → Int} {a0 : Nat} {x1 : Int} {x2 : Int} {M : ZM} {x : Int} {M' : ZM} (h : Wp_mark N a0 x1 x2 M = some (x, M')) (hK : mK M = zK0 sl sx) : zLI (d + 2) tb_X12_mark 0 [some (vR 10 (some a0)), some (vI x1), some (vI x2), none] [] M x M' (zK0 sl sx) := by
  obtain ⟨I0, L0, ⟨ra0, rb0, rc0, rd0⟩, K0, c0⟩ := M
  obtain rfl : K0 = zK0 sl sx := hK
  rcases zit h with ⟨g1, h⟩ | ⟨g1, h⟩
  · obtain ⟨rfl, rfl⟩ := zrI h
    exact ⟨zR_ret 4 ((if_pos g1).trans rfl), rfl⟩
  · rcases zit h with ⟨g2, h⟩ | ⟨g2, h⟩
    · obtain ⟨g3, h⟩ := zIx h
      replace h := zWx h
      rcases zit h with ⟨g4, h⟩ | ⟨g4, h⟩
      · obtain ⟨M102, f102, h⟩ := zBvx h
        have q102 := L_Mk_lay (d := d) f102 rfl
        obtain ⟨I102, L102, ⟨ra102, rb102, rc102, rd102⟩, K102, c102⟩ := M102
        obtain rfl : K102 = zK0 sl sx := q102.2
        suffices w102 : zLI (d + 2) tb_X12_mark 42 [some (vR 10 (some a0)), some (vI x1), some (vI x2), some (vR 2 (some x1.toNat))] [] (I102, L102, (ra102, rb102, rc102, rd102), zK0 sl sx, c102) x M' (zK0 sl sx) from ⟨zR_call (rest := []) 22 q102.1 (fun n => (if_neg g1).trans ((if_pos g2).trans ((if_pos g3).trans ((if_pos g4).trans rfl)))) w102.1, w102.2⟩
        obtain ⟨rfl, rfl⟩ := zrI h
        exact ⟨zR_ret 2 (rfl), rfl⟩
      · rcases zit h with ⟨g5, h⟩ | ⟨g5, h⟩
        · obtain ⟨rfl, rfl⟩ := zrI h
          exact ⟨zR_ret 19 ((if_neg g1).trans ((if_pos g2).trans ((if_pos g3).trans ((if_neg g4).trans ((if_pos g5).trans rfl))))), rfl⟩
        · obtain ⟨M103, f103, h⟩ := zBvx h
          have q103 := L_St_copy (d := (d + 1)) f103 rfl
          obtain ⟨I103, L103, ⟨ra103, rb103, rc103, rd103⟩, K103, c103⟩ := M103
          obtain rfl : K103 = zK0 sl sx := q103.2
          suffices w103 : zLI (d + 2) tb_X12_mark 64 [some (vR 10 (some a0)), some (vI x1), some (vI x2), some (vR 2 (some x1.toNat))] [] (I103, L103, (ra103, rb103, rc103, rd103), zK0 sl sx, c103) x M' (zK0 sl sx) from ⟨zR_call (rest := []) 22 q103.1 (fun n => (if_neg g1).trans ((if_pos g2).trans ((if_pos g3).trans ((if_neg g4).trans ((if_neg g5).trans rfl))))) w103.1, w103.2⟩
          obtain ⟨M104, f104, h⟩ := zBvx h
          have q104 := L_Nu_copy (d := (d + 1)) f104 rfl
          obtain ⟨I104, L104, ⟨ra104, rb104, rc104, rd104⟩, K104, c104⟩ := M104
          obtain rfl : K104 = zK0 sl sx := q104.2
          suffices w104 : zLI (d + 2) tb_X12_mark 75 [some (vR 10 (some a0)), some (vI x1), some (vI x2), some (vR 2 (some x1.toNat))] [] (I104, L104, (ra104, rb104, rc104, rd104), zK0 sl sx, c104) x M' (zK0 sl sx) from ⟨zR_call (rest := []) 5 q104.1 (fun n => rfl) w104.1, w104.2⟩
          obtain ⟨M105, f105, h⟩ := zBvx h
          have q105 := L_Nu_copy (d := (d + 1)) f105 rfl
          obtain ⟨I105, L105, ⟨ra105, rb105, rc105, rd105⟩, K105, c105⟩ := M105
          obtain rfl : K105 = zK0 sl sx := q105.2
          suffices w105 : zLI (d + 2) tb_X12_mark 86 [some (vR 10 (some a0)), some (vI x1), some (vI x2), some (vR 2 (some x1.toNat))] [] (I105, L105, (ra105, rb105, rc105, rd105), zK0 sl sx, c105) x M' (zK0 sl sx) from ⟨zR_call (rest := []) 5 q105.1 (fun n => rfl) w105.1, w105.2⟩
          obtain ⟨M106, f106, h⟩ := zBvx h
          have q106 := L_Wp_forgetPast (d := (d + 1)) f106 rfl
          obtain ⟨I106, L106, ⟨ra106, rb106, rc106, rd106⟩, K106, c106⟩ := M106
          obtain rfl : K106 = zK0 sl sx := q106.2
          suffices w106 : zLI (d + 2) tb_X12_mark 90 [some (vR 10 (some a0)), some (vI x1), some (vI x2), some (vR 2 (some x1.toNat))] [] (I106, L106, (ra106, rb106, rc106, rd106), zK0 sl sx, c106) x M' (zK0 sl sx) from ⟨zR_call (rest := []) 2 q106.1 (fun n => rfl) w106.1, w106.2⟩
          obtain ⟨M107, f107, h⟩ := zBvx h
          have q107 := L_Wp_forgetSearches (d := (d + 1)) f107 rfl
          obtain ⟨I107, L107, ⟨ra107, rb107, rc107, rd107⟩, K107, c107⟩ := M107
          obtain rfl : K107 = zK0 sl sx := q107.2
          suffices w107 : zLI (d + 2) tb_X12_mark 94 [some (vR 10 (some a0)), some (vI x1), some (vI x2), some (vR 2 (some x1.toNat))] [] (I107, L107, (ra107, rb107, rc107, rd107), zK0 sl sx, c107) x M' (zK0 sl sx) from ⟨zR_call (rest := []) 2 q107.1 (fun n => rfl) w107.1, w107.2⟩
          obtain ⟨rfl, rfl⟩ := zrI h
          exact ⟨zR_ret 2 (rfl), rfl⟩
    · obtain ⟨rfl, rfl⟩ := zrI h
      exact ⟨zR_ret 9 ((if_neg g1).trans ((if_neg g2).trans rfl)), rfl⟩
set_option maxRecDepth 20000 in
theorem L_Wp_count {N d sl : Nat} {sx : Nat → Int} {a0 : Nat} {x1 : Int} {M : ZM} {x : Int} {M' : ZM} (h : Wp_count N a0 x1 M = some (x, M')) (hK : mK M = zK0 sl sx) : zLI (d + 5) tb_X12_count 0 [some (vR 10 (some a0)), some (vI x1)] [] M x M' (zK0 sl sx) := by
  obtain ⟨I0, L0, ⟨ra0, rb0, rc0, rd0⟩, K0, c0⟩ := M
  obtain rfl : K0 = zK0 sl sx := hK
  rcases zit h with ⟨g1, h⟩ | ⟨g1, h⟩
  · obtain ⟨p101, g2, h⟩ := zOx h
    obtain rfl : ra0 = some p101 := g2
    obtain ⟨rfl, rfl⟩ := zrI h
    exact ⟨zR_ret 6 ((if_pos g1).trans rfl), rfl⟩
  · rcases zit h with ⟨g3, h⟩ | ⟨g3, h⟩
    · obtain ⟨rfl, rfl⟩ := zrI h
      exact ⟨zR_ret 6 ((if_neg g1).trans ((if_pos g3).trans rfl)), rfl⟩
    · rcases zit h with ⟨g4, h⟩ | ⟨g4, h⟩
      · obtain ⟨p102, g5, h⟩ := zOx h
        obtain rfl : ra0 = some p102 := g5
        obtain ⟨v103, M103, f103, h⟩ := zBx h
        have q103 := L_Nu_round (d := (d + 4)) f103 rfl
        obtain ⟨I103, L103, ⟨ra103, rb103, rc103, rd103⟩, K103, c103⟩ := M103
        obtain rfl : K103 = zK0 sl sx := q103.2
        suffices w103 : zLI (d + 5) tb_X12_count 101 [some (vR 10 (some a0)), some (vI x1)] [vI v103] (I103, L103, (ra103, rb103, rc103, rd103), zK0 sl sx, c103) x M' (zK0 sl sx) from ⟨zR_call (rest := []) 9 q103.1 (fun n => (if_neg g1).trans ((if_neg g3).trans ((if_pos g4).trans rfl))) w103.1, w103.2⟩
        obtain ⟨rfl, rfl⟩ := zrI h
        exact ⟨zR_ret 1 (rfl), rfl⟩
      · rcases zit h with ⟨g6, h⟩ | ⟨g6, h⟩
        · obtain ⟨p104, g7, h⟩ := zOx h
          obtain rfl : ra0 = some p104 := g7
          obtain ⟨v105, M105, f105, h⟩ := zBx h
          have q105 := L_Nu_round (d := (d + 4)) f105 rfl
          obtain ⟨I105, L105, ⟨ra105, rb105, rc105, rd105⟩, K105, c105⟩ := M105
          obtain rfl : K105 = zK0 sl sx := q105.2
          suffices w105 : zLI (d + 5) tb_X12_count 119 [some (vR 10 (some a0)), some (vI x1)] [vI v105] (I105, L105, (ra105, rb105, rc105, rd105), zK0 sl sx, c105) x M' (zK0 sl sx) from ⟨zR_call (rest := []) 9 q105.1 (fun n => (if_neg g1).trans ((if_neg g3).trans ((if_neg g4).trans ((if_pos g6).trans rfl)))) w105.1, w105.2⟩
          obtain ⟨rfl, rfl⟩ := zrI h
          exact ⟨zR_ret 1 (rfl), rfl⟩
        · rcases zit h with ⟨g8, h⟩ | ⟨g8, h⟩
          · obtain ⟨p106, g9, h⟩ := zOx h
            obtain rfl : ra0 = some p106 := g9
            obtain ⟨v107, M107, f107, h⟩ := zBx h
            have q107 := L_Pa_priceAt (d := (d + 3)) f107 rfl
            obtain ⟨I107, L107, ⟨ra107, rb107, rc107, rd107⟩, K107, c107⟩ := M107
            obtain rfl : K107 = zK0 sl sx := q107.2
            suffices w107 : zLI (d + 5) tb_X12_count 134 [some (vR 10 (some a0)), some (vI x1)] [vI v107] (I107, L107, (ra107, rb107, rc107, rd107), zK0 sl sx, c107) x M' (zK0 sl sx) from ⟨zR_call (rest := []) 8 q107.1 (fun n => (if_neg g1).trans ((if_neg g3).trans ((if_neg g4).trans ((if_neg g6).trans ((if_pos g8).trans rfl))))) w107.1, w107.2⟩
            obtain ⟨rfl, rfl⟩ := zrI h
            exact ⟨zR_ret 1 (rfl), rfl⟩
          · rcases zit h with ⟨g10, h⟩ | ⟨g10, h⟩
            · obtain ⟨p108, g11, h⟩ := zOx h
              obtain rfl : ra0 = some p108 := g11
              obtain ⟨M109, f109, h⟩ := zBvx h
              have q109 := L_Fl_measure (d := d) f109 rfl
              obtain ⟨I109, L109, ⟨ra109, rb109, rc109, rd109⟩, K109, c109⟩ := M109
              obtain rfl : K109 = zK0 sl sx := q109.2
              suffices w109 : zLI (d + 5) tb_X12_count 150 [some (vR 10 (some a0)), some (vI x1)] [] (I109, L109, (ra109, rb109, rc109, rd109), zK0 sl sx, c109) x M' (zK0 sl sx) from ⟨zR_call (rest := []) 9 q109.1 (fun n => (if_neg g1).trans ((if_neg g3).trans ((if_neg g4).trans ((if_neg g6).trans ((if_neg g8).trans ((if_pos g10).trans rfl)))))) w109.1, w109.2⟩
              obtain ⟨rfl, rfl⟩ := zrI h
              exact ⟨zR_ret 4 (rfl), rfl⟩
            · rcases zit h with ⟨g12, h⟩ | ⟨g12, h⟩
              · obtain ⟨rfl, rfl⟩ := zrI h
                exact ⟨zR_ret 6 ((if_neg g1).trans ((if_neg g3).trans ((if_neg g4).trans ((if_neg g6).trans ((if_neg g8).trans ((if_neg g10).trans ((if_pos g12).trans rfl))))))), rfl⟩
              · rcases zit h with ⟨g13, h⟩ | ⟨g13, h⟩
                · obtain ⟨rfl, rfl⟩ := zrI h
                  exact ⟨zR_ret 6 ((if_neg g1).trans ((if_neg g3).trans ((if_neg g4).trans ((if_neg g6).trans ((if_neg g8).trans ((if_neg g10).trans ((if_neg g12).trans ((if_pos g13).trans rfl)))))))), rfl⟩
                · rcases zit h with ⟨g14, h⟩ | ⟨g14, h⟩
                  · obtain ⟨rfl, rfl⟩ := zrI h
                    exact ⟨zR_ret 6 ((if_neg g1).trans ((if_neg g3).trans ((if_neg g4).trans ((if_neg g6).trans ((if_neg g8).trans ((if_neg g10).trans ((if_neg g12).trans ((if_neg g13).trans ((if_pos g14).trans rfl))))))))), rfl⟩
                  · rcases zit h with ⟨g15, h⟩ | ⟨g15, h⟩
                    · obtain ⟨rfl, rfl⟩ := zrI h
                      exact ⟨zR_ret 6 ((if_neg g1).trans ((if_neg g3).trans ((if_neg g4).trans ((if_neg g6).trans ((if_neg g8).trans ((if_neg g10).trans ((if_neg g12).trans ((if_neg g13).trans ((if_neg g14).trans ((if_pos g15).trans rfl)))))))))), rfl⟩
                    · rcases zit h with ⟨g16, h⟩ | ⟨g16, h⟩
                      · obtain ⟨rfl, rfl⟩ := zrI h
                        exact ⟨zR_ret 6 ((if_neg g1).trans ((if_neg g3).trans ((if_neg g4).trans ((if_neg g6).trans ((if_neg g8).trans ((if_neg g10).trans ((if_neg g12).trans ((if_neg g13).trans ((if_neg g14).trans ((if_neg g15).trans ((if_pos g16).trans rfl))))))))))), rfl⟩
                      · rcases zit h with ⟨g17, h⟩ | ⟨g17, h⟩
                        · obtain ⟨rfl, rfl⟩ := zrI h
                          exact ⟨zR_ret 5 ((if_neg g1).trans ((if_neg g3).trans ((if_neg g4).trans ((if_neg g6).trans ((if_neg g8).trans ((if_neg g10).trans ((if_neg g12).trans ((if_neg g13).trans ((if_neg g14).trans ((if_neg g15).trans ((if_neg g16).trans ((if_pos g17).trans rfl)))))))))))), rfl⟩
                        · rcases zit h with ⟨g18, h⟩ | ⟨g18, h⟩
                          · obtain ⟨rfl, rfl⟩ := zrI h
                            exact ⟨zR_ret 6 ((if_neg g1).trans ((if_neg g3).trans ((if_neg g4).trans ((if_neg g6).trans ((if_neg g8).trans ((if_neg g10).trans ((if_neg g12).trans ((if_neg g13).trans ((if_neg g14).trans ((if_neg g15).trans ((if_neg g16).trans ((if_neg g17).trans ((if_pos g18).trans rfl))))))))))))), rfl⟩
                          · obtain ⟨rfl, rfl⟩ := zrI h
                            exact ⟨zR_ret 4 ((if_neg g1).trans ((if_neg g3).trans ((if_neg g4).trans ((if_neg g6).trans ((if_neg g8).trans ((if_neg g10).trans ((if_neg g12).trans ((if_neg g13).trans ((if_neg g14).trans ((if_neg g15).trans ((if_neg g16).trans ((if_neg g17).trans ((if_neg g18).trans rfl))))))))))))), rfl⟩
