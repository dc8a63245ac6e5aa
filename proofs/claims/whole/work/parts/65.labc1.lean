set_option maxRecDepth 20000 in
theorem L_Pa_clear {N d sl : Nat} {sx : Nat → Int} {a0 : Nat} {M : ZM} {M' : ZM} (h : Pa_clear N a0 M = some M') (hK : mK M = zK0 sl sx) : zLV (d + 2) tb_X5_clear 0 [some (vR 4 (some a0))] [] M M' (zK0 sl sx) := by
  obtain ⟨I0, L0, ⟨ra0, rb0, rc0, rd0⟩, K0, c0⟩ := M
  obtain rfl : K0 = zK0 sl sx := hK
  replace h := zWx h
  replace h := zWx h
  obtain ⟨M103, f103, h⟩ := zBvx h
  have q103 := L_Pa_only (d := d) f103 rfl
  obtain ⟨I103, L103, ⟨ra103, rb103, rc103, rd103⟩, K103, c103⟩ := M103
  obtain rfl : K103 = zK0 sl sx := q103.2
  suffices w103 : zLV (d + 2) tb_X5_clear 22 [some (vR 4 (some a0))] [] (I103, L103, (ra103, rb103, rc103, rd103), zK0 sl sx, c103) M' (zK0 sl sx) from ⟨zR_call (rest := []) 11 q103.1 (fun n => rfl) w103.1, w103.2⟩
  obtain ⟨M104, f104, h⟩ := zBvx h
  have q104 := L_Pa_only (d := d) f104 rfl
  obtain ⟨I104, L104, ⟨ra104, rb104, rc104, rd104⟩, K104, c104⟩ := M104
  obtain rfl : K104 = zK0 sl sx := q104.2
  suffices w104 : zLV (d + 2) tb_X5_clear 30 [some (vR 4 (some a0))] [] (I104, L104, (ra104, rb104, rc104, rd104), zK0 sl sx, c104) M' (zK0 sl sx) from ⟨zR_call (rest := []) 4 q104.1 (fun n => rfl) w104.1, w104.2⟩
  obtain ⟨M105, f105, h⟩ := zBvx h
  have q105 := L_Pa_only (d := d) f105 rfl
  obtain ⟨I105, L105, ⟨ra105, rb105, rc105, rd105⟩, K105, c105⟩ := M105
  obtain rfl : K105 = zK0 sl sx := q105.2
  suffices w105 : zLV (d + 2) tb_X5_clear 39 [some (vR 4 (some a0))] [] (I105, L105, (ra105, rb105, rc105, rd105), zK0 sl sx, c105) M' (zK0 sl sx) from ⟨zR_call (rest := []) 4 q105.1 (fun n => rfl) w105.1, w105.2⟩
  obtain ⟨M106, f106, h⟩ := zBvx h
  have q106 := L_Pa_only (d := d) f106 rfl
  obtain ⟨I106, L106, ⟨ra106, rb106, rc106, rd106⟩, K106, c106⟩ := M106
  obtain rfl : K106 = zK0 sl sx := q106.2
  suffices w106 : zLV (d + 2) tb_X5_clear 47 [some (vR 4 (some a0))] [] (I106, L106, (ra106, rb106, rc106, rd106), zK0 sl sx, c106) M' (zK0 sl sx) from ⟨zR_call (rest := []) 4 q106.1 (fun n => rfl) w106.1, w106.2⟩
  obtain ⟨v107, M107, f107, h⟩ := zBx h
  have q107 := L_Nu_add (d := (d + 1)) f107 rfl
  obtain ⟨I107, L107, ⟨ra107, rb107, rc107, rd107⟩, K107, c107⟩ := M107
  obtain rfl : K107 = zK0 sl sx := q107.2
  suffices w107 : zLV (d + 2) tb_X5_clear 55 [some (vR 4 (some a0))] [vI v107] (I107, L107, (ra107, rb107, rc107, rd107), zK0 sl sx, c107) M' (zK0 sl sx) from ⟨zR_call (rest := []) 4 q107.1 (fun n => rfl) w107.1, w107.2⟩
  obtain ⟨v108, M108, f108, h⟩ := zBx h
  have q108 := L_Nu_add (d := (d + 1)) f108 rfl
  obtain ⟨I108, L108, ⟨ra108, rb108, rc108, rd108⟩, K108, c108⟩ := M108
  obtain rfl : K108 = zK0 sl sx := q108.2
  suffices w108 : zLV (d + 2) tb_X5_clear 64 [some (vR 4 (some a0))] [vI v108] (I108, L108, (ra108, rb108, rc108, rd108), zK0 sl sx, c108) M' (zK0 sl sx) from ⟨zR_call (rest := []) 5 q108.1 (fun n => rfl) w108.1, w108.2⟩
  obtain ⟨M109, f109, h⟩ := zBvx h
  have q109 := L_Pa_only (d := d) f109 rfl
  obtain ⟨I109, L109, ⟨ra109, rb109, rc109, rd109⟩, K109, c109⟩ := M109
  obtain rfl : K109 = zK0 sl sx := q109.2
  suffices w109 : zLV (d + 2) tb_X5_clear 76 [some (vR 4 (some a0))] [] (I109, L109, (ra109, rb109, rc109, rd109), zK0 sl sx, c109) M' (zK0 sl sx) from ⟨zR_call (rest := []) 6 q109.1 (fun n => rfl) w109.1, w109.2⟩
  replace h := zWx h
  replace h := zWx h
  obtain rfl := zrV h
  exact ⟨zR_ret 7 (rfl), rfl⟩
set_option maxRecDepth 20000 in
theorem L_Pa_addTurbine {N d sl : Nat} {sx : Nat → Int} {a0 : Nat} {x1 : Int} {x2 : Int} {x3 : Int} {x4 : Int} {M : ZM} {M' : ZM} (h : Pa_addTurbine N a0 x1 x2 x3 x4 M = some M') (hK : mK M = zK0 sl sx) : zLV (d + 0) tb_X5_addTurbine 0 [some (vR 4 (some a0)), some (vL x1), none, some (vI x2), some (vI x3), some (vI x4)] [] M M' (zK0 sl sx) := by
  obtain ⟨I0, L0, ⟨ra0, rb0, rc0, rd0⟩, K0, c0⟩ := M
  obtain rfl : K0 = zK0 sl sx := hK
  rcases zit h with ⟨g1, h⟩ | ⟨g1, h⟩
  · obtain ⟨g2, h⟩ := zIx h
    replace h := zWx h
    obtain ⟨g3, h⟩ := zIx h
    replace h := zWx h
    obtain ⟨g4, h⟩ := zIx h
    replace h := zWx h
    obtain ⟨g5, h⟩ := zIx h
    replace h := zWx h
    obtain ⟨g6, h⟩ := zIx h
    replace h := zWx h
    obtain ⟨g7, h⟩ := zIx h
    replace h := zWx h
    replace h := zWx h
    obtain rfl := zrV h
    exact ⟨zR_ret 47 ((if_pos g1).trans ((if_pos g2).trans ((if_pos g3).trans ((if_pos g4).trans ((if_pos g5).trans ((if_pos g6).trans ((if_pos g7).trans rfl))))))), rfl⟩
  · obtain rfl := zrV h
    exact ⟨zR_ret 5 ((if_neg g1).trans rfl), rfl⟩
set_option maxRecDepth 20000 in
theorem L_Pa_byName_2 {N d sl : Nat} {sx : Nat → Int} : ∀ {n : Nat} {a0 : Nat} {x1 : Int} {x3 : Int} {M : ZM} {x : Int} {M' : ZM}, Pa_byName_2 N n a0 x1 x3 M = some (x, M') → mK M = zK0 sl sx → zLI (d + 0) tb_X5_byName 2 [some (vR 4 (some a0)), some (vL x1), none, some (vI x3)] [] M x M' (zK0 sl sx) := by
  intro n
  induction n with
  | zero => intros; rename_i h _; cases h
  | succ n ih =>
    intro a0 x1 x3 M x M' h hK
    obtain ⟨I0, L0, ⟨ra0, rb0, rc0, rd0⟩, K0, c0⟩ := M
    obtain rfl : K0 = zK0 sl sx := hK
    rcases zit h with ⟨g1, h⟩ | ⟨g1, h⟩
    · obtain ⟨g2, h⟩ := zIx h
      rcases zit h with ⟨g3, h⟩ | ⟨g3, h⟩
      · obtain ⟨rfl, rfl⟩ := zrI h
        exact ⟨zR_ret 13 ((if_pos g1).trans ((if_pos g2).trans ((if_pos g3).trans rfl))), rfl⟩
      · replace h := zWx h
        have q := ih h rfl
        exact ⟨zR_go 13 q.1 (fun n => (if_pos g1).trans ((if_pos g2).trans ((if_neg g3).trans rfl))), q.2⟩
    · obtain ⟨rfl, rfl⟩ := zrI h
      exact ⟨zR_ret 6 ((if_neg g1).trans rfl), rfl⟩
set_option maxRecDepth 20000 in
theorem L_Pa_byName {N d sl : Nat} {sx : Nat → Int} {a0 : Nat} {x1 : Int} {M : ZM} {x : Int} {M' : ZM} (h : Pa_byName N a0 x1 M = some (x, M')) (hK : mK M = zK0 sl sx) : zLI (d + 0) tb_X5_byName 0 [some (vR 4 (some a0)), some (vL x1), none, none] [] M x M' (zK0 sl sx) := by
  obtain ⟨I0, L0, ⟨ra0, rb0, rc0, rd0⟩, K0, c0⟩ := M
  obtain rfl : K0 = zK0 sl sx := hK
  have q := L_Pa_byName_2 (d := d) h rfl
  exact ⟨zR_go 2 q.1 (fun n => rfl), q.2⟩
set_option maxRecDepth 20000 in
theorem L_Pa_isTaken_2 {N d sl : Nat} {sx : Nat → Int} : ∀ {n : Nat} {a0 : Nat} {x1 : Int} {x2 : Int} {M : ZM} {x : Int} {M' : ZM}, Pa_isTaken_2 N n a0 x1 x2 M = some (x, M') → mK M = zK0 sl sx → zLI (d + 0) tb_X5_isTaken 2 [some (vR 4 (some a0)), some (vI x1), some (vI x2)] [] M x M' (zK0 sl sx) := by
  intro n
  induction n with
  | zero => intros; rename_i h _; cases h
  | succ n ih =>
    intro a0 x1 x2 M x M' h hK
    obtain ⟨I0, L0, ⟨ra0, rb0, rc0, rd0⟩, K0, c0⟩ := M
    obtain rfl : K0 = zK0 sl sx := hK
    rcases zit h with ⟨g1, h⟩ | ⟨g1, h⟩
    · obtain ⟨g2, h⟩ := zIx h
      rcases zit h with ⟨g3, h⟩ | ⟨g3, h⟩
      · obtain ⟨rfl, rfl⟩ := zrI h
        exact ⟨zR_ret 12 ((if_pos g1).trans ((if_pos g2).trans ((if_pos g3).trans rfl))), rfl⟩
      · replace h := zWx h
        have q := ih h rfl
        exact ⟨zR_go 12 q.1 (fun n => (if_pos g1).trans ((if_pos g2).trans ((if_neg g3).trans rfl))), q.2⟩
    · obtain ⟨rfl, rfl⟩ := zrI h
      exact ⟨zR_ret 6 ((if_neg g1).trans rfl), rfl⟩
set_option maxRecDepth 20000 in
theorem L_Pa_isTaken {N d sl : Nat} {sx : Nat → Int} {a0 : Nat} {x1 : Int} {M : ZM} {x : Int} {M' : ZM} (h : Pa_isTaken N a0 x1 M = some (x, M')) (hK : mK M = zK0 sl sx) : zLI (d + 0) tb_X5_isTaken 0 [some (vR 4 (some a0)), some (vI x1), none] [] M x M' (zK0 sl sx) := by
  obtain ⟨I0, L0, ⟨ra0, rb0, rc0, rd0⟩, K0, c0⟩ := M
  obtain rfl : K0 = zK0 sl sx := hK
  have q := L_Pa_isTaken_2 (d := d) h rfl
  exact ⟨zR_go 2 q.1 (fun n => rfl), q.2⟩
set_option maxRecDepth 20000 in
theorem L_Pa_isSlack {N d sl : Nat} {sx : Nat → Int} {a0 : Nat} {x1 : Int} {M : ZM} {x : Int} {M' : ZM} (h : Pa_isSlack N a0 x1 M = some (x, M')) (hK : mK M = zK0 sl sx) : zLI (d + 0) tb_X5_isSlack 0 [some (vR 4 (some a0)), some (vI x1)] [] M x M' (zK0 sl sx) := by
  obtain ⟨I0, L0, ⟨ra0, rb0, rc0, rd0⟩, K0, c0⟩ := M
  obtain rfl : K0 = zK0 sl sx := hK
  rcases zit h with ⟨g1, h⟩ | ⟨g1, h⟩
  · obtain ⟨g2, h⟩ := zgn h
    rcases zit h with ⟨g3, h⟩ | ⟨g3, h⟩
    · obtain ⟨rfl, rfl⟩ := zrI h
      exact ⟨zR_ret 11 ((if_pos g1).trans ((if_neg g2).trans ((if_pos g3).trans rfl))), rfl⟩
    · obtain ⟨rfl, rfl⟩ := zrI h
      exact ⟨zR_ret 10 ((if_pos g1).trans ((if_neg g2).trans ((if_neg g3).trans rfl))), rfl⟩
  · obtain ⟨rfl, rfl⟩ := zrI h
    exact ⟨zR_ret 5 ((if_neg g1).trans rfl), rfl⟩
set_option maxRecDepth 20000 in
theorem L_Re_passWord {N d sl : Nat} {sx : Nat → Int} {a0 : Nat} {o1 : Option Nat} {M : ZM} {x : Int} {M' : ZM} (h : Re_passWord N a0 o1 M = some (x, M')) (hK : mK M = zK0 sl sx) : zLI (d + 2) tb_X6_passWord 0 [some (vR 5 (some a0)), some (vR 12 o1)] [] M x M' (zK0 sl sx) := by
  obtain ⟨I0, L0, ⟨ra0, rb0, rc0, rd0⟩, K0, c0⟩ := M
  obtain rfl : K0 = zK0 sl sx := hK
  rcases zit h with ⟨g1, h⟩ | ⟨g1, h⟩
  · obtain ⟨M101, f101, h⟩ := zBvx h
    have q101 := L_Ta_pass (d := d) f101 rfl
    obtain ⟨I101, L101, ⟨ra101, rb101, rc101, rd101⟩, K101, c101⟩ := M101
    obtain rfl : K101 = zK0 sl sx := q101.2
    suffices w101 : zLI (d + 2) tb_X6_passWord 24 [some (vR 5 (some a0)), some (vR 12 o1)] [] (I101, L101, (ra101, rb101, rc101, rd101), zK0 sl sx, c101) x M' (zK0 sl sx) from ⟨zR_call (rest := []) 8 q101.1 (fun n => (if_pos g1).trans rfl) w101.1, w101.2⟩
    obtain ⟨rfl, rfl⟩ := zrI h
    exact ⟨zR_ret 2 (rfl), rfl⟩
  · obtain ⟨v102, M102, f102, h⟩ := zBx h
    have q102 := L_Re_fail (d := (d + 1)) f102 rfl
    obtain ⟨I102, L102, ⟨ra102, rb102, rc102, rd102⟩, K102, c102⟩ := M102
    obtain rfl : K102 = zK0 sl sx := q102.2
    suffices w102 : zLI (d + 2) tb_X6_passWord 16 [some (vR 5 (some a0)), some (vR 12 o1)] [vI v102] (I102, L102, (ra102, rb102, rc102, rd102), zK0 sl sx, c102) x M' (zK0 sl sx) from ⟨zR_call (rest := []) 8 q102.1 (fun n => (if_neg g1).trans rfl) w102.1, w102.2⟩
    obtain ⟨rfl, rfl⟩ := zrI h
    exact ⟨zR_ret 1 (rfl), rfl⟩
set_option maxRecDepth 20000 in
theorem L_Re_isNumber_39 {N d sl : Nat} {sx : Nat → Int} {a0 : Nat} {M : ZM} {x : Int} {M' : ZM} (h : Re_isNumber_39 N a0 M = some (x, M')) (hK : mK M = zK0 sl sx) : zLI (d + 1) tb_X6_isNumber 39 [some (vR 5 (some a0)), none, none] [] M x M' (zK0 sl sx) := by
  obtain ⟨I0, L0, ⟨ra0, rb0, rc0, rd0⟩, K0, c0⟩ := M
  obtain rfl : K0 = zK0 sl sx := hK
  obtain ⟨v101, M101, f101, h⟩ := zBx h
  have q101 := L_Re_fail (d := d) f101 rfl
  obtain ⟨I101, L101, ⟨ra101, rb101, rc101, rd101⟩, K101, c101⟩ := M101
  obtain rfl : K101 = zK0 sl sx := q101.2
  suffices w101 : zLI (d + 1) tb_X6_isNumber 44 [some (vR 5 (some a0)), none, none] [vI v101] (I101, L101, (ra101, rb101, rc101, rd101), zK0 sl sx, c101) x M' (zK0 sl sx) from ⟨zR_call (rest := []) 3 q101.1 (fun n => rfl) w101.1, w101.2⟩
  rcases zit h with ⟨g1, h⟩ | ⟨g1, h⟩
  · obtain ⟨rfl, rfl⟩ := zrI h
    exact ⟨zR_ret 3 ((if_pos g1).trans rfl), rfl⟩
  · obtain ⟨rfl, rfl⟩ := zrI h
    exact ⟨zR_ret 4 ((if_neg g1).trans rfl), rfl⟩
set_option maxRecDepth 20000 in
theorem L_Re_isNumber {N d sl : Nat} {sx : Nat → Int} {a0 : Nat} {x1 : Int} {x2 : Int} {M : ZM} {x : Int} {M' : ZM} (h : Re_isNumber N a0 x1 x2 M = some (x, M')) (hK : mK M = zK0 sl sx) : zLI (d + 1) tb_X6_isNumber 0 [some (vR 5 (some a0)), some (vI x1), some (vI x2)] [] M x M' (zK0 sl sx) := by
  obtain ⟨I0, L0, ⟨ra0, rb0, rc0, rd0⟩, K0, c0⟩ := M
  obtain rfl : K0 = zK0 sl sx := hK
  rcases zit h with ⟨g1, h⟩ | ⟨g1, h⟩
  · rcases zit h with ⟨g2, h⟩ | ⟨g2, h⟩
    · have q := L_Re_isNumber_39 (d := d) h rfl
      exact ⟨zR_go 10 (zR_up (ls' := [some (vR 5 (some a0)), some (vI x1), some (vI x2)]) q.1 ⟨.inr rfl, .inl rfl, .inl rfl, trivial⟩) (fun n => (if_pos g1).trans ((if_pos g2).trans rfl)), q.2⟩
    · rcases zit h with ⟨g3, h⟩ | ⟨g3, h⟩
      · have q := L_Re_isNumber_39 (d := d) h rfl
        exact ⟨zR_go 15 (zR_up (ls' := [some (vR 5 (some a0)), some (vI x1), some (vI x2)]) q.1 ⟨.inr rfl, .inl rfl, .inl rfl, trivial⟩) (fun n => (if_pos g1).trans ((if_neg g2).trans ((if_pos g3).trans rfl))), q.2⟩
      · obtain ⟨rfl, rfl⟩ := zrI h
        exact ⟨zR_ret 18 ((if_pos g1).trans ((if_neg g2).trans ((if_neg g3).trans rfl))), rfl⟩
  · obtain ⟨v101, M101, f101, h⟩ := zBx h
    have q101 := L_Re_fail (d := d) f101 rfl
    obtain ⟨I101, L101, ⟨ra101, rb101, rc101, rd101⟩, K101, c101⟩ := M101
    obtain rfl : K101 = zK0 sl sx := q101.2
    suffices w101 : zLI (d + 1) tb_X6_isNumber 16 [some (vR 5 (some a0)), some (vI x1), some (vI x2)] [vI v101] (I101, L101, (ra101, rb101, rc101, rd101), zK0 sl sx, c101) x M' (zK0 sl sx) from ⟨zR_call (rest := []) 8 q101.1 (fun n => (if_neg g1).trans rfl) w101.1, w101.2⟩
    obtain ⟨rfl, rfl⟩ := zrI h
    exact ⟨zR_ret 1 (rfl), rfl⟩
set_option maxRecDepth 20000 in
theorem L_Re_passNumber {N d sl : Nat} {sx : Nat → Int} {a0 : Nat} {x1 : Int} {x2 : Int} {M : ZM} {x : Int} {M' : ZM} (h : Re_passNumber N a0 x1 x2 M = some (x, M')) (hK : mK M = zK0 sl sx) : zLI (d + 2) tb_X6_passNumber 0 [some (vR 5 (some a0)), some (vI x1), some (vI x2)] [] M x M' (zK0 sl sx) := by
  obtain ⟨I0, L0, ⟨ra0, rb0, rc0, rd0⟩, K0, c0⟩ := M
  obtain rfl : K0 = zK0 sl sx := hK
  obtain ⟨v101, M101, f101, h⟩ := zBx h
  have q101 := L_Re_isNumber (d := d) f101 rfl
  obtain ⟨I101, L101, ⟨ra101, rb101, rc101, rd101⟩, K101, c101⟩ := M101
  obtain rfl : K101 = zK0 sl sx := q101.2
  suffices w101 : zLI (d + 2) tb_X6_passNumber 6 [some (vR 5 (some a0)), some (vI x1), some (vI x2)] [vI v101] (I101, L101, (ra101, rb101, rc101, rd101), zK0 sl sx, c101) x M' (zK0 sl sx) from ⟨zR_call (rest := []) 4 q101.1 (fun n => rfl) w101.1, w101.2⟩
  rcases zit h with ⟨g1, h⟩ | ⟨g1, h⟩
  · obtain ⟨rfl, rfl⟩ := zrI h
    exact ⟨zR_ret 3 ((if_pos g1).trans rfl), rfl⟩
  · replace h := zWx h
    obtain ⟨M103, f103, h⟩ := zBvx h
    have q103 := L_Ta_pass (d := d) f103 rfl
    obtain ⟨I103, L103, ⟨ra103, rb103, rc103, rd103⟩, K103, c103⟩ := M103
    obtain rfl : K103 = zK0 sl sx := q103.2
    suffices w103 : zLI (d + 2) tb_X6_passNumber 29 [some (vR 5 (some a0)), some (vI x1), some (vI x2)] [] (I103, L103, (ra103, rb103, rc103, rd103), zK0 sl sx, c103) x M' (zK0 sl sx) from ⟨zR_call (rest := []) 9 q103.1 (fun n => (if_neg g1).trans rfl) w103.1, w103.2⟩
    obtain ⟨rfl, rfl⟩ := zrI h
    exact ⟨zR_ret 2 (rfl), rfl⟩
set_option maxRecDepth 20000 in
theorem L_Re_isName {N d sl : Nat} {sx : Nat → Int} {a0 : Nat} {M : ZM} {x : Int} {M' : ZM} (h : Re_isName N a0 M = some (x, M')) (hK : mK M = zK0 sl sx) : zLI (d + 0) tb_X6_isName 0 [some (vR 5 (some a0)), none] [] M x M' (zK0 sl sx) := by
  obtain ⟨I0, L0, ⟨ra0, rb0, rc0, rd0⟩, K0, c0⟩ := M
  obtain rfl : K0 = zK0 sl sx := hK
  replace h := zWx h
  rcases zit h with ⟨g1, h⟩ | ⟨g1, h⟩
  · rcases zNx h with ⟨g2, h⟩ | ⟨w102, g2, h⟩
    · obtain rfl : rd0 = none := g2
      obtain ⟨rfl, rfl⟩ := zrI h
      exact ⟨zR_ret 14 ((if_pos g1).trans rfl), rfl⟩
    · obtain rfl : rd0 = some w102 := g2
      rcases zit h with ⟨g3, h⟩ | ⟨g3, h⟩
      · obtain ⟨rfl, rfl⟩ := zrI h
        exact ⟨zR_ret 16 ((if_pos g1).trans ((if_pos g3).trans rfl)), rfl⟩
      · obtain ⟨rfl, rfl⟩ := zrI h
        exact ⟨zR_ret 17 ((if_pos g1).trans ((if_neg g3).trans rfl)), rfl⟩
  · obtain ⟨rfl, rfl⟩ := zrI h
    exact ⟨zR_ret 11 ((if_neg g1).trans rfl), rfl⟩
set_option maxRecDepth 20000 in
theorem L_Re_kindOf {N d sl : Nat} {sx : Nat → Int} {o0 : Option Nat} {M : ZM} {x : Int} {M' : ZM} (h : Re_kindOf N o0 M = some (x, M')) (hK : mK M = zK0 sl sx) : zLI (d + 0) tb_X6_kindOf 0 [some (vR 12 o0)] [] M x M' (zK0 sl sx) := by
  obtain ⟨I0, L0, ⟨ra0, rb0, rc0, rd0⟩, K0, c0⟩ := M
  obtain rfl : K0 = zK0 sl sx := hK
  rcases zit h with ⟨g1, h⟩ | ⟨g1, h⟩
  · obtain ⟨rfl, rfl⟩ := zrI h
    exact ⟨zR_ret 5 ((if_pos g1).trans rfl), rfl⟩
  · rcases zit h with ⟨g2, h⟩ | ⟨g2, h⟩
    · obtain ⟨rfl, rfl⟩ := zrI h
      exact ⟨zR_ret 8 ((if_neg g1).trans ((if_pos g2).trans rfl)), rfl⟩
    · rcases zit h with ⟨g3, h⟩ | ⟨g3, h⟩
      · obtain ⟨rfl, rfl⟩ := zrI h
        exact ⟨zR_ret 11 ((if_neg g1).trans ((if_neg g2).trans ((if_pos g3).trans rfl))), rfl⟩
      · rcases zit h with ⟨g4, h⟩ | ⟨g4, h⟩
        · obtain ⟨rfl, rfl⟩ := zrI h
          exact ⟨zR_ret 15 ((if_neg g1).trans ((if_neg g2).trans ((if_neg g3).trans ((if_pos g4).trans rfl)))), rfl⟩
        · obtain ⟨rfl, rfl⟩ := zrI h
          exact ⟨zR_ret 14 ((if_neg g1).trans ((if_neg g2).trans ((if_neg g3).trans ((if_neg g4).trans rfl)))), rfl⟩
set_option maxRecDepth 20000 in
theorem L_Re_readTurbine {N d sl : Nat} {sx : Nat → Int} {a0 : Nat} {M : ZM} {x : Int} {M' : ZM} (h : Re_readTurbine N a0 M = some (x, M')) (hK : mK M = zK0 sl sx) : zLI (d + 3) tb_X6_readTurbine 0 [some (vR 5 (some a0)), none, none, none, none, none] [] M x M' (zK0 sl sx) := by
  obtain ⟨I0, L0, ⟨ra0, rb0, rc0, rd0⟩, K0, c0⟩ := M
  obtain rfl : K0 = zK0 sl sx := hK
  obtain ⟨p101, g1, h⟩ := zOx h
  obtain rfl : rc0 = some p101 := g1
  rcases zit h with ⟨g2, h⟩ | ⟨g2, h⟩
  · obtain ⟨M102, f102, h⟩ := zBvx h
    have q102 := L_Ta_pass (d := (d + 1)) f102 rfl
    obtain ⟨I102, L102, ⟨ra102, rb102, rc102, rd102⟩, K102, c102⟩ := M102
    obtain rfl : K102 = zK0 sl sx := q102.2
    suffices w102 : zLI (d + 3) tb_X6_readTurbine 25 [some (vR 5 (some a0)), none, none, none, none, none] [] (I102, L102, (ra102, rb102, rc102, rd102), zK0 sl sx, c102) x M' (zK0 sl sx) from ⟨zR_call (rest := []) 8 q102.1 (fun n => (if_pos g2).trans rfl) w102.1, w102.2⟩
    obtain ⟨v103, M103, f103, h⟩ := zBx h
    have q103 := L_Re_isName (d := (d + 2)) f103 rfl
    obtain ⟨I103, L103, ⟨ra103, rb103, rc103, rd103⟩, K103, c103⟩ := M103
    obtain rfl : K103 = zK0 sl sx := q103.2
    suffices w103 : zLI (d + 3) tb_X6_readTurbine 29 [some (vR 5 (some a0)), none, none, none, none, none] [vI v103] (I103, L103, (ra103, rb103, rc103, rd103), zK0 sl sx, c103) x M' (zK0 sl sx) from ⟨zR_call (rest := []) 2 q103.1 (fun n => rfl) w103.1, w103.2⟩
    rcases zit h with ⟨g3, h⟩ | ⟨g3, h⟩
    · obtain ⟨v104, M104, f104, h⟩ := zBx h
      have q104 := L_Re_fail (d := (d + 2)) f104 rfl
      obtain ⟨I104, L104, ⟨ra104, rb104, rc104, rd104⟩, K104, c104⟩ := M104
      obtain rfl : K104 = zK0 sl sx := q104.2
      suffices w104 : zLI (d + 3) tb_X6_readTurbine 37 [some (vR 5 (some a0)), none, none, none, none, none] [vI v104] (I104, L104, (ra104, rb104, rc104, rd104), zK0 sl sx, c104) x M' (zK0 sl sx) from ⟨zR_call (rest := []) 4 q104.1 (fun n => (if_pos g3).trans rfl) w104.1, w104.2⟩
      obtain ⟨rfl, rfl⟩ := zrI h
      exact ⟨zR_ret 1 (rfl), rfl⟩
    · obtain ⟨p105, g4, h⟩ := zOx h
      obtain rfl : rc103 = some p105 := g4
      obtain ⟨v106, M106, f106, h⟩ := zBx h
      have q106 := L_Pa_byName (d := (d + 2)) f106 rfl
      obtain ⟨I106, L106, ⟨ra106, rb106, rc106, rd106⟩, K106, c106⟩ := M106
      obtain rfl : K106 = zK0 sl sx := q106.2
      suffices w106 : zLI (d + 3) tb_X6_readTurbine 52 [some (vR 5 (some a0)), none, none, none, none, none] [vI v106] (I106, L106, (ra106, rb106, rc106, rd106), zK0 sl sx, c106) x M' (zK0 sl sx) from ⟨zR_call (rest := []) 7 q106.1 (fun n => (if_neg g3).trans rfl) w106.1, w106.2⟩
      rcases zit h with ⟨g5, h⟩ | ⟨g5, h⟩
      · replace h := zWx h
        obtain ⟨M108, f108, h⟩ := zBvx h
        have q108 := L_Ta_pass (d := (d + 1)) f108 rfl
        obtain ⟨I108, L108, ⟨ra108, rb108, rc108, rd108⟩, K108, c108⟩ := M108
        obtain rfl : K108 = zK0 sl sx := q108.2
        suffices w108 : zLI (d + 3) tb_X6_readTurbine 77 [some (vR 5 (some a0)), some (vL (mL (I106, L106, (ra106, rb106, rc106, rd106), zK0 sl sx, c106) 8 0 5)), none, none, none, none] [] (I108, L108, (ra108, rb108, rc108, rd108), zK0 sl sx, c108) x M' (zK0 sl sx) from ⟨zR_call (rest := []) 9 q108.1 (fun n => (if_pos g5).trans rfl) w108.1, w108.2⟩
        obtain ⟨v109, M109, f109, h⟩ := zBx h
        have q109 := L_Re_kindOf (d := (d + 2)) f109 rfl
        obtain ⟨I109, L109, ⟨ra109, rb109, rc109, rd109⟩, K109, c109⟩ := M109
        obtain rfl : K109 = zK0 sl sx := q109.2
        suffices w109 : zLI (d + 3) tb_X6_readTurbine 87 [some (vR 5 (some a0)), some (vL (mL (I106, L106, (ra106, rb106, rc106, rd106), zK0 sl sx, c106) 8 0 5)), none, none, none, none] [vI v109] (I109, L109, (ra109, rb109, rc109, rd109), zK0 sl sx, c109) x M' (zK0 sl sx) from ⟨zR_call (rest := []) 4 q109.1 (fun n => rfl) w109.1, w109.2⟩
        rcases zit h with ⟨g6, h⟩ | ⟨g6, h⟩
        · obtain ⟨v110, M110, f110, h⟩ := zBx h
          have q110 := L_Re_fail (d := (d + 2)) f110 rfl
          obtain ⟨I110, L110, ⟨ra110, rb110, rc110, rd110⟩, K110, c110⟩ := M110
          obtain rfl : K110 = zK0 sl sx := q110.2
          suffices w110 : zLI (d + 3) tb_X6_readTurbine 98 [some (vR 5 (some a0)), some (vL (mL (I106, L106, (ra106, rb106, rc106, rd106), zK0 sl sx, c106) 8 0 5)), none, some (vI v109), none, none] [vI v110] (I110, L110, (ra110, rb110, rc110, rd110), zK0 sl sx, c110) x M' (zK0 sl sx) from ⟨zR_call (rest := []) 7 q110.1 (fun n => (if_pos g6).trans rfl) w110.1, w110.2⟩
          obtain ⟨rfl, rfl⟩ := zrI h
          exact ⟨zR_ret 1 (rfl), rfl⟩
        · obtain ⟨M111, f111, h⟩ := zBvx h
          have q111 := L_Ta_pass (d := (d + 1)) f111 rfl
          obtain ⟨I111, L111, ⟨ra111, rb111, rc111, rd111⟩, K111, c111⟩ := M111
          obtain rfl : K111 = zK0 sl sx := q111.2
          suffices w111 : zLI (d + 3) tb_X6_readTurbine 106 [some (vR 5 (some a0)), some (vL (mL (I106, L106, (ra106, rb106, rc106, rd106), zK0 sl sx, c106) 8 0 5)), none, some (vI v109), none, none] [] (I111, L111, (ra111, rb111, rc111, rd111), zK0 sl sx, c111) x M' (zK0 sl sx) from ⟨zR_call (rest := []) 7 q111.1 (fun n => (if_neg g6).trans rfl) w111.1, w111.2⟩
          obtain ⟨v112, M112, f112, h⟩ := zBx h
          have q112 := L_Re_passWord (d := d) f112 rfl
          obtain ⟨I112, L112, ⟨ra112, rb112, rc112, rd112⟩, K112, c112⟩ := M112
          obtain rfl : K112 = zK0 sl sx := q112.2
          suffices w112 : zLI (d + 3) tb_X6_readTurbine 113 [some (vR 5 (some a0)), some (vL (mL (I106, L106, (ra106, rb106, rc106, rd106), zK0 sl sx, c106) 8 0 5)), none, some (vI v109), none, none] [vI v112] (I112, L112, (ra112, rb112, rc112, rd112), zK0 sl sx, c112) x M' (zK0 sl sx) from ⟨zR_call (rest := []) 3 q112.1 (fun n => rfl) w112.1, w112.2⟩
          rcases zit h with ⟨g7, h⟩ | ⟨g7, h⟩
          · obtain ⟨rfl, rfl⟩ := zrI h
            exact ⟨zR_ret 3 ((if_pos g7).trans rfl), rfl⟩
          · obtain ⟨v113, M113, f113, h⟩ := zBx h
            have q113 := L_Re_passNumber (d := d) f113 rfl
            obtain ⟨I113, L113, ⟨ra113, rb113, rc113, rd113⟩, K113, c113⟩ := M113
            obtain rfl : K113 = zK0 sl sx := q113.2
            suffices w113 : zLI (d + 3) tb_X6_readTurbine 122 [some (vR 5 (some a0)), some (vL (mL (I106, L106, (ra106, rb106, rc106, rd106), zK0 sl sx, c106) 8 0 5)), none, some (vI v109), none, none] [vI v113] (I113, L113, (ra113, rb113, rc113, rd113), zK0 sl sx, c113) x M' (zK0 sl sx) from ⟨zR_call (rest := []) 5 q113.1 (fun n => (if_neg g7).trans rfl) w113.1, w113.2⟩
            rcases zit h with ⟨g8, h⟩ | ⟨g8, h⟩
            · obtain ⟨rfl, rfl⟩ := zrI h
              exact ⟨zR_ret 3 ((if_pos g8).trans rfl), rfl⟩
            · replace h := zWx h
              obtain ⟨v115, M115, f115, h⟩ := zBx h
              have q115 := L_Re_passWord (d := d) f115 rfl
              obtain ⟨I115, L115, ⟨ra115, rb115, rc115, rd115⟩, K115, c115⟩ := M115
              obtain rfl : K115 = zK0 sl sx := q115.2
              suffices w115 : zLI (d + 3) tb_X6_readTurbine 140 [some (vR 5 (some a0)), some (vL (mL (I106, L106, (ra106, rb106, rc106, rd106), zK0 sl sx, c106) 8 0 5)), none, some (vI v109), some (vI (mI (I113, L113, (ra113, rb113, rc113, rd113), zK0 sl sx, c113) 5 a0 4)), none] [vI v115] (I115, L115, (ra115, rb115, rc115, rd115), zK0 sl sx, c115) x M' (zK0 sl sx) from ⟨zR_call (rest := []) 7 q115.1 (fun n => (if_neg g8).trans rfl) w115.1, w115.2⟩
              rcases zit h with ⟨g9, h⟩ | ⟨g9, h⟩
              · obtain ⟨rfl, rfl⟩ := zrI h
                exact ⟨zR_ret 3 ((if_pos g9).trans rfl), rfl⟩
              · obtain ⟨v116, M116, f116, h⟩ := zBx h
                have q116 := L_Re_isNumber (d := (d + 1)) f116 rfl
                obtain ⟨I116, L116, ⟨ra116, rb116, rc116, rd116⟩, K116, c116⟩ := M116
                obtain rfl : K116 = zK0 sl sx := q116.2
                suffices w116 : zLI (d + 3) tb_X6_readTurbine 150 [some (vR 5 (some a0)), some (vL (mL (I106, L106, (ra106, rb106, rc106, rd106), zK0 sl sx, c106) 8 0 5)), none, some (vI v109), some (vI (mI (I113, L113, (ra113, rb113, rc113, rd113), zK0 sl sx, c113) 5 a0 4)), none] [vI v116] (I116, L116, (ra116, rb116, rc116, rd116), zK0 sl sx, c116) x M' (zK0 sl sx) from ⟨zR_call (rest := []) 5 q116.1 (fun n => (if_neg g9).trans rfl) w116.1, w116.2⟩
                rcases zit h with ⟨g10, h⟩ | ⟨g10, h⟩
                · obtain ⟨rfl, rfl⟩ := zrI h
                  exact ⟨zR_ret 3 ((if_pos g10).trans rfl), rfl⟩
                · replace h := zWx h
                  obtain ⟨p118, g11, h⟩ := zOx h
                  obtain rfl : rc116 = some p118 := g11
                  obtain ⟨v119, M119, f119, h⟩ := zBx h
                  have q119 := L_Pa_isTaken (d := (d + 2)) f119 rfl
                  obtain ⟨I119, L119, ⟨ra119, rb119, rc119, rd119⟩, K119, c119⟩ := M119
                  obtain rfl : K119 = zK0 sl sx := q119.2
                  suffices w119 : zLI (d + 3) tb_X6_readTurbine 173 [some (vR 5 (some a0)), some (vL (mL (I106, L106, (ra106, rb106, rc106, rd106), zK0 sl sx, c106) 8 0 5)), none, some (vI v109), some (vI (mI (I113, L113, (ra113, rb113, rc113, rd113), zK0 sl sx, c113) 5 a0 4)), some (vI (mI (I116, L116, (ra116, rb116, (some p118), rd116), zK0 sl sx, c116) 8 0 4))] [vI v119] (I119, L119, (ra119, rb119, rc119, rd119), zK0 sl sx, c119) x M' (zK0 sl sx) from ⟨zR_call (rest := []) 9 q119.1 (fun n => (if_neg g10).trans rfl) w119.1, w119.2⟩
                  rcases zit h with ⟨g12, h⟩ | ⟨g12, h⟩
                  · obtain ⟨M120, f120, h⟩ := zBvx h
                    have q120 := L_Ta_pass (d := (d + 1)) f120 rfl
                    obtain ⟨I120, L120, ⟨ra120, rb120, rc120, rd120⟩, K120, c120⟩ := M120
                    obtain rfl : K120 = zK0 sl sx := q120.2
                    suffices w120 : zLI (d + 3) tb_X6_readTurbine 189 [some (vR 5 (some a0)), some (vL (mL (I106, L106, (ra106, rb106, rc106, rd106), zK0 sl sx, c106) 8 0 5)), none, some (vI v109), some (vI (mI (I113, L113, (ra113, rb113, rc113, rd113), zK0 sl sx, c113) 5 a0 4)), some (vI (mI (I116, L116, (ra116, rb116, (some p118), rd116), zK0 sl sx, c116) 8 0 4))] [] (I120, L120, (ra120, rb120, rc120, rd120), zK0 sl sx, c120) x M' (zK0 sl sx) from ⟨zR_call (rest := []) 4 q120.1 (fun n => (if_pos g12).trans rfl) w120.1, w120.2⟩
                    obtain ⟨p121, g13, h⟩ := zOx h
                    obtain rfl : rc120 = some p121 := g13
                    obtain ⟨M122, f122, h⟩ := zBvx h
                    have q122 := L_Pa_addTurbine (d := (d + 2)) f122 rfl
                    obtain ⟨I122, L122, ⟨ra122, rb122, rc122, rd122⟩, K122, c122⟩ := M122
                    obtain rfl : K122 = zK0 sl sx := q122.2
                    suffices w122 : zLI (d + 3) tb_X6_readTurbine 202 [some (vR 5 (some a0)), some (vL (mL (I106, L106, (ra106, rb106, rc106, rd106), zK0 sl sx, c106) 8 0 5)), none, some (vI v109), some (vI (mI (I113, L113, (ra113, rb113, rc113, rd113), zK0 sl sx, c113) 5 a0 4)), some (vI (mI (I116, L116, (ra116, rb116, (some p118), rd116), zK0 sl sx, c116) 8 0 4))] [] (I122, L122, (ra122, rb122, rc122, rd122), zK0 sl sx, c122) x M' (zK0 sl sx) from ⟨zR_call (rest := []) 7 q122.1 (fun n => rfl) w122.1, w122.2⟩
                    obtain ⟨v123, M123, f123, h⟩ := zBx h
                    have q123 := L_Re_passSign (d := d) f123 rfl
                    obtain ⟨I123, L123, ⟨ra123, rb123, rc123, rd123⟩, K123, c123⟩ := M123
                    obtain rfl : K123 = zK0 sl sx := q123.2
                    suffices w123 : zLI (d + 3) tb_X6_readTurbine 208 [some (vR 5 (some a0)), some (vL (mL (I106, L106, (ra106, rb106, rc106, rd106), zK0 sl sx, c106) 8 0 5)), none, some (vI v109), some (vI (mI (I113, L113, (ra113, rb113, rc113, rd113), zK0 sl sx, c113) 5 a0 4)), some (vI (mI (I116, L116, (ra116, rb116, (some p118), rd116), zK0 sl sx, c116) 8 0 4))] [vI v123] (I123, L123, (ra123, rb123, rc123, rd123), zK0 sl sx, c123) x M' (zK0 sl sx) from ⟨zR_call (rest := []) 3 q123.1 (fun n => rfl) w123.1, w123.2⟩
                    obtain ⟨rfl, rfl⟩ := zrI h
                    exact ⟨zR_ret 1 (rfl), rfl⟩
                  · obtain ⟨v124, M124, f124, h⟩ := zBx h
                    have q124 := L_Re_fail (d := (d + 2)) f124 rfl
                    obtain ⟨I124, L124, ⟨ra124, rb124, rc124, rd124⟩, K124, c124⟩ := M124
                    obtain rfl : K124 = zK0 sl sx := q124.2
                    suffices w124 : zLI (d + 3) tb_X6_readTurbine 181 [some (vR 5 (some a0)), some (vL (mL (I106, L106, (ra106, rb106, rc106, rd106), zK0 sl sx, c106) 8 0 5)), none, some (vI v109), some (vI (mI (I113, L113, (ra113, rb113, rc113, rd113), zK0 sl sx, c113) 5 a0 4)), some (vI (mI (I116, L116, (ra116, rb116, (some p118), rd116), zK0 sl sx, c116) 8 0 4))] [vI v124] (I124, L124, (ra124, rb124, rc124, rd124), zK0 sl sx, c124) x M' (zK0 sl sx) from ⟨zR_call (rest := []) 4 q124.1 (fun n => (if_neg g12).trans rfl) w124.1, w124.2⟩
                    obtain ⟨rfl, rfl⟩ := zrI h
                    exact ⟨zR_ret 1 (rfl), rfl⟩
      · obtain ⟨v125, M125, f125, h⟩ := zBx h
        have q125 := L_Re_fail (d := (d + 2)) f125 rfl
        obtain ⟨I125, L125, ⟨ra125, rb125, rc125, rd125⟩, K125, c125⟩ := M125
        obtain rfl : K125 = zK0 sl sx := q125.2
        suffices w125 : zLI (d + 3) tb_X6_readTurbine 61 [some (vR 5 (some a0)), none, none, none, none, none] [vI v125] (I125, L125, (ra125, rb125, rc125, rd125), zK0 sl sx, c125) x M' (zK0 sl sx) from ⟨zR_call (rest := []) 5 q125.1 (fun n => (if_neg g5).trans rfl) w125.1, w125.2⟩
        obtain ⟨rfl, rfl⟩ := zrI h
        exact ⟨zR_ret 1 (rfl), rfl⟩
  · obtain ⟨v126, M126, f126, h⟩ := zBx h
    have q126 := L_Re_fail (d := (d + 2)) f126 rfl
    obtain ⟨I126, L126, ⟨ra126, rb126, rc126, rd126⟩, K126, c126⟩ := M126
    obtain rfl : K126 = zK0 sl sx := q126.2
    suffices w126 : zLI (d + 3) tb_X6_readTurbine 17 [some (vR 5 (some a0)), none, none, none, none, none] [vI v126] (I126, L126, (ra126, rb126, rc126, rd126), zK0 sl sx, c126) x M' (zK0 sl sx) from ⟨zR_call (rest := []) 8 q126.1 (fun n => (if_neg g2).trans rfl) w126.1, w126.2⟩
    obtain ⟨rfl, rfl⟩ := zrI h
    exact ⟨zR_ret 1 (rfl), rfl⟩
set_option maxRecDepth 20000 in
theorem L_Re_isTurbine {N d sl : Nat} {sx : Nat → Int} {a0 : Nat} {M : ZM} {x : Int} {M' : ZM} (h : Re_isTurbine N a0 M = some (x, M')) (hK : mK M = zK0 sl sx) : zLI (d + 1) tb_X6_isTurbine 0 [some (vR 5 (some a0))] [] M x M' (zK0 sl sx) := by
  obtain ⟨I0, L0, ⟨ra0, rb0, rc0, rd0⟩, K0, c0⟩ := M
  obtain rfl : K0 = zK0 sl sx := hK
  obtain ⟨v101, M101, f101, h⟩ := zBx h
  have q101 := L_Re_isName (d := d) f101 rfl
  obtain ⟨I101, L101, ⟨ra101, rb101, rc101, rd101⟩, K101, c101⟩ := M101
  obtain rfl : K101 = zK0 sl sx := q101.2
  suffices w101 : zLI (d + 1) tb_X6_isTurbine 4 [some (vR 5 (some a0))] [vI v101] (I101, L101, (ra101, rb101, rc101, rd101), zK0 sl sx, c101) x M' (zK0 sl sx) from ⟨zR_call (rest := []) 2 q101.1 (fun n => rfl) w101.1, w101.2⟩
  rcases zit h with ⟨g1, h⟩ | ⟨g1, h⟩
  · obtain ⟨v102, M102, f102, h⟩ := zBx h
    have q102 := L_Re_fail (d := d) f102 rfl
    obtain ⟨I102, L102, ⟨ra102, rb102, rc102, rd102⟩, K102, c102⟩ := M102
    obtain rfl : K102 = zK0 sl sx := q102.2
    suffices w102 : zLI (d + 1) tb_X6_isTurbine 12 [some (vR 5 (some a0))] [vI v102] (I102, L102, (ra102, rb102, rc102, rd102), zK0 sl sx, c102) x M' (zK0 sl sx) from ⟨zR_call (rest := []) 4 q102.1 (fun n => (if_pos g1).trans rfl) w102.1, w102.2⟩
    obtain ⟨rfl, rfl⟩ := zrI h
    exact ⟨zR_ret 1 (rfl), rfl⟩
  · obtain ⟨p103, g2, h⟩ := zOx h
    obtain rfl : rc101 = some p103 := g2
    obtain ⟨v104, M104, f104, h⟩ := zBx h
    have q104 := L_Pa_byName (d := d) f104 rfl
    obtain ⟨I104, L104, ⟨ra104, rb104, rc104, rd104⟩, K104, c104⟩ := M104
    obtain rfl : K104 = zK0 sl sx := q104.2
    suffices w104 : zLI (d + 1) tb_X6_isTurbine 28 [some (vR 5 (some a0))] [vI v104, vR 5 (some a0)] (I104, L104, (ra104, rb104, rc104, rd104), zK0 sl sx, c104) x M' (zK0 sl sx) from ⟨zR_call (rest := [vR 5 (some a0)]) 8 q104.1 (fun n => (if_neg g1).trans rfl) w104.1, w104.2⟩
    replace h := zWx h
    rcases zit h with ⟨g3, h⟩ | ⟨g3, h⟩
    · obtain ⟨v106, M106, f106, h⟩ := zBx h
      have q106 := L_Re_fail (d := d) f106 rfl
      obtain ⟨I106, L106, ⟨ra106, rb106, rc106, rd106⟩, K106, c106⟩ := M106
      obtain rfl : K106 = zK0 sl sx := q106.2
      suffices w106 : zLI (d + 1) tb_X6_isTurbine 44 [some (vR 5 (some a0))] [vI v106] (I106, L106, (ra106, rb106, rc106, rd106), zK0 sl sx, c106) x M' (zK0 sl sx) from ⟨zR_call (rest := []) 8 q106.1 (fun n => (if_pos g3).trans rfl) w106.1, w106.2⟩
      rcases zit h with ⟨g4, h⟩ | ⟨g4, h⟩
      · obtain ⟨rfl, rfl⟩ := zrI h
        exact ⟨zR_ret 3 ((if_pos g4).trans rfl), rfl⟩
      · obtain ⟨rfl, rfl⟩ := zrI h
        exact ⟨zR_ret 4 ((if_neg g4).trans rfl), rfl⟩
    · obtain ⟨rfl, rfl⟩ := zrI h
      exact ⟨zR_ret 8 ((if_neg g3).trans rfl), rfl⟩
set_option maxRecDepth 20000 in
theorem L_Re_readGoal_28 {N d sl : Nat} {sx : Nat → Int} {a0 : Nat} {o1 : Option Nat} {M : ZM} {x : Int} {M' : ZM} (h : Re_readGoal_28 N a0 o1 M = some (x, M')) (hK : mK M = zK0 sl sx) : zLI (d + 2) tb_X6_readGoal 28 [some (vR 5 (some a0)), some (vR 12 o1)] [] M x M' (zK0 sl sx) := by
  obtain ⟨I0, L0, ⟨ra0, rb0, rc0, rd0⟩, K0, c0⟩ := M
  obtain rfl : K0 = zK0 sl sx := hK
  obtain ⟨M101, f101, h⟩ := zBvx h
  have q101 := L_Ta_pass (d := d) f101 rfl
  obtain ⟨I101, L101, ⟨ra101, rb101, rc101, rd101⟩, K101, c101⟩ := M101
  obtain rfl : K101 = zK0 sl sx := q101.2
  suffices w101 : zLI (d + 2) tb_X6_readGoal 35 [some (vR 5 (some a0)), some (vR 12 o1)] [] (I101, L101, (ra101, rb101, rc101, rd101), zK0 sl sx, c101) x M' (zK0 sl sx) from ⟨zR_call (rest := []) 3 q101.1 (fun n => rfl) w101.1, w101.2⟩
  rcases zit h with ⟨g1, h⟩ | ⟨g1, h⟩
  · replace h := zWx h
    obtain ⟨rfl, rfl⟩ := zrI h
    exact ⟨zR_ret 8 ((if_pos g1).trans rfl), rfl⟩
  · obtain ⟨v103, M103, f103, h⟩ := zBx h
    have q103 := L_Re_isTurbine (d := d) f103 rfl
    obtain ⟨I103, L103, ⟨ra103, rb103, rc103, rd103⟩, K103, c103⟩ := M103
    obtain rfl : K103 = zK0 sl sx := q103.2
    suffices w103 : zLI (d + 2) tb_X6_readGoal 54 [some (vR 5 (some a0)), some (vR 12 o1)] [vI v103] (I103, L103, (ra103, rb103, rc103, rd103), zK0 sl sx, c103) x M' (zK0 sl sx) from ⟨zR_call (rest := []) 5 q103.1 (fun n => (if_neg g1).trans rfl) w103.1, w103.2⟩
    rcases zit h with ⟨g2, h⟩ | ⟨g2, h⟩
    · obtain ⟨rfl, rfl⟩ := zrI h
      exact ⟨zR_ret 3 ((if_pos g2).trans rfl), rfl⟩
    · obtain ⟨p104, g3, h⟩ := zOx h
      obtain rfl : rc103 = some p104 := g3
      obtain ⟨g4, h⟩ := zIx h
      rcases zit h with ⟨g5, h⟩ | ⟨g5, h⟩
      · obtain ⟨v105, M105, f105, h⟩ := zBx h
        have q105 := L_Re_fail (d := (d + 1)) f105 rfl
        obtain ⟨I105, L105, ⟨ra105, rb105, rc105, rd105⟩, K105, c105⟩ := M105
        obtain rfl : K105 = zK0 sl sx := q105.2
        suffices w105 : zLI (d + 2) tb_X6_readGoal 80 [some (vR 5 (some a0)), some (vR 12 o1)] [vI v105] (I105, L105, (ra105, rb105, rc105, rd105), zK0 sl sx, c105) x M' (zK0 sl sx) from ⟨zR_call (rest := []) 12 q105.1 (fun n => (if_neg g2).trans ((if_pos g4).trans ((if_pos g5).trans rfl))) w105.1, w105.2⟩
        obtain ⟨rfl, rfl⟩ := zrI h
        exact ⟨zR_ret 1 (rfl), rfl⟩
      · obtain ⟨M106, f106, h⟩ := zBvx h
        have q106 := L_Ta_pass (d := d) f106 rfl
        obtain ⟨I106, L106, ⟨ra106, rb106, rc106, rd106⟩, K106, c106⟩ := M106
        obtain rfl : K106 = zK0 sl sx := q106.2
        suffices w106 : zLI (d + 2) tb_X6_readGoal 88 [some (vR 5 (some a0)), some (vR 12 o1)] [] (I106, L106, (ra106, rb106, rc106, rd106), zK0 sl sx, c106) x M' (zK0 sl sx) from ⟨zR_call (rest := []) 12 q106.1 (fun n => (if_neg g2).trans ((if_pos g4).trans ((if_neg g5).trans rfl))) w106.1, w106.2⟩
        obtain ⟨rfl, rfl⟩ := zrI h
        exact ⟨zR_ret 2 (rfl), rfl⟩
set_option maxRecDepth 20000 in
theorem L_Re_readGoal {N d sl : Nat} {sx : Nat → Int} {a0 : Nat} {M : ZM} {x : Int} {M' : ZM} (h : Re_readGoal N a0 M = some (x, M')) (hK : mK M = zK0 sl sx) : zLI (d + 2) tb_X6_readGoal 0 [some (vR 5 (some a0)), none] [] M x M' (zK0 sl sx) := by
  obtain ⟨I0, L0, ⟨ra0, rb0, rc0, rd0⟩, K0, c0⟩ := M
  obtain rfl : K0 = zK0 sl sx := hK
  replace h := zWx h
  rcases zit h with ⟨g1, h⟩ | ⟨g1, h⟩
  · have q := L_Re_readGoal_28 (d := d) h rfl
    exact ⟨zR_go 7 q.1 (fun n => (if_pos g1).trans rfl), q.2⟩
  · rcases zit h with ⟨g2, h⟩ | ⟨g2, h⟩
    · have q := L_Re_readGoal_28 (d := d) h rfl
      exact ⟨zR_go 10 q.1 (fun n => (if_neg g1).trans ((if_pos g2).trans rfl)), q.2⟩
    · obtain ⟨v102, M102, f102, h⟩ := zBx h
      have q102 := L_Re_fail (d := (d + 1)) f102 rfl
      obtain ⟨I102, L102, ⟨ra102, rb102, rc102, rd102⟩, K102, c102⟩ := M102
      obtain rfl : K102 = zK0 sl sx := q102.2
      suffices w102 : zLI (d + 2) tb_X6_readGoal 27 [some (vR 5 (some a0)), some (vR 12 rd0)] [vI v102] (I102, L102, (ra102, rb102, rc102, rd102), zK0 sl sx, c102) x M' (zK0 sl sx) from ⟨zR_call (rest := []) 13 q102.1 (fun n => (if_neg g1).trans ((if_neg g2).trans rfl)) w102.1, w102.2⟩
      obtain ⟨rfl, rfl⟩ := zrI h
      exact ⟨zR_ret 1 (rfl), rfl⟩
set_option maxRecDepth 20000 in
theorem L_Re_readCable {N d sl : Nat} {sx : Nat → Int} {a0 : Nat} {M : ZM} {x : Int} {M' : ZM} (h : Re_readCable N a0 M = some (x, M')) (hK : mK M = zK0 sl sx) : zLI (d + 3) tb_X6_readCable 0 [some (vR 5 (some a0)), none, none] [] M x M' (zK0 sl sx) := by
  obtain ⟨I0, L0, ⟨ra0, rb0, rc0, rd0⟩, K0, c0⟩ := M
  obtain rfl : K0 = zK0 sl sx := hK
  obtain ⟨M101, f101, h⟩ := zBvx h
  have q101 := L_Ta_pass (d := (d + 1)) f101 rfl
  obtain ⟨I101, L101, ⟨ra101, rb101, rc101, rd101⟩, K101, c101⟩ := M101
  obtain rfl : K101 = zK0 sl sx := q101.2
  suffices w101 : zLI (d + 3) tb_X6_readCable 7 [some (vR 5 (some a0)), none, none] [] (I101, L101, (ra101, rb101, rc101, rd101), zK0 sl sx, c101) x M' (zK0 sl sx) from ⟨zR_call (rest := []) 3 q101.1 (fun n => rfl) w101.1, w101.2⟩
  obtain ⟨v102, M102, f102, h⟩ := zBx h
  have q102 := L_Re_isTurbine (d := (d + 1)) f102 rfl
  obtain ⟨I102, L102, ⟨ra102, rb102, rc102, rd102⟩, K102, c102⟩ := M102
  obtain rfl : K102 = zK0 sl sx := q102.2
  suffices w102 : zLI (d + 3) tb_X6_readCable 11 [some (vR 5 (some a0)), none, none] [vI v102] (I102, L102, (ra102, rb102, rc102, rd102), zK0 sl sx, c102) x M' (zK0 sl sx) from ⟨zR_call (rest := []) 2 q102.1 (fun n => rfl) w102.1, w102.2⟩
  rcases zit h with ⟨g1, h⟩ | ⟨g1, h⟩
  · obtain ⟨rfl, rfl⟩ := zrI h
    exact ⟨zR_ret 3 ((if_pos g1).trans rfl), rfl⟩
  · replace h := zWx h
    obtain ⟨p104, g2, h⟩ := zOx h
    obtain rfl : rc102 = some p104 := g2
    obtain ⟨g3, h⟩ := zIx h
    rcases zit h with ⟨g4, h⟩ | ⟨g4, h⟩
    · obtain ⟨M105, f105, h⟩ := zBvx h
      have q105 := L_Ta_pass (d := (d + 1)) f105 rfl
      obtain ⟨I105, L105, ⟨ra105, rb105, rc105, rd105⟩, K105, c105⟩ := M105
      obtain rfl : K105 = zK0 sl sx := q105.2
      suffices w105 : zLI (d + 3) tb_X6_readCable 47 [some (vR 5 (some a0)), some (vI (mI (I102, L102, (ra102, rb102, (some p104), rd102), zK0 sl sx, c102) 5 a0 5)), none] [] (I105, L105, (ra105, rb105, rc105, rd105), zK0 sl sx, c105) x M' (zK0 sl sx) from ⟨zR_call (rest := []) 14 q105.1 (fun n => (if_neg g1).trans ((if_pos g3).trans ((if_pos g4).trans rfl))) w105.1, w105.2⟩
      obtain ⟨v106, M106, f106, h⟩ := zBx h
      have q106 := L_Re_readGoal (d := d) f106 rfl
      obtain ⟨I106, L106, ⟨ra106, rb106, rc106, rd106⟩, K106, c106⟩ := M106
      obtain rfl : K106 = zK0 sl sx := q106.2
      suffices w106 : zLI (d + 3) tb_X6_readCable 51 [some (vR 5 (some a0)), some (vI (mI (I102, L102, (ra102, rb102, (some p104), rd102), zK0 sl sx, c102) 5 a0 5)), none] [vI v106] (I106, L106, (ra106, rb106, rc106, rd106), zK0 sl sx, c106) x M' (zK0 sl sx) from ⟨zR_call (rest := []) 2 q106.1 (fun n => rfl) w106.1, w106.2⟩
      rcases zit h with ⟨g5, h⟩ | ⟨g5, h⟩
      · obtain ⟨rfl, rfl⟩ := zrI h
        exact ⟨zR_ret 3 ((if_pos g5).trans rfl), rfl⟩
      · obtain ⟨v107, M107, f107, h⟩ := zBx h
        have q107 := L_Re_passWord (d := d) f107 rfl
        obtain ⟨I107, L107, ⟨ra107, rb107, rc107, rd107⟩, K107, c107⟩ := M107
        obtain rfl : K107 = zK0 sl sx := q107.2
        suffices w107 : zLI (d + 3) tb_X6_readCable 61 [some (vR 5 (some a0)), some (vI (mI (I102, L102, (ra102, rb102, (some p104), rd102), zK0 sl sx, c102) 5 a0 5)), none] [vI v107] (I107, L107, (ra107, rb107, rc107, rd107), zK0 sl sx, c107) x M' (zK0 sl sx) from ⟨zR_call (rest := []) 4 q107.1 (fun n => (if_neg g5).trans rfl) w107.1, w107.2⟩
        rcases zit h with ⟨g6, h⟩ | ⟨g6, h⟩
        · obtain ⟨rfl, rfl⟩ := zrI h
          exact ⟨zR_ret 3 ((if_pos g6).trans rfl), rfl⟩
        · replace h := zWx h
          obtain ⟨v109, M109, f109, h⟩ := zBx h
          have q109 := L_Re_passNumber (d := d) f109 rfl
          obtain ⟨I109, L109, ⟨ra109, rb109, rc109, rd109⟩, K109, c109⟩ := M109
          obtain rfl : K109 = zK0 sl sx := q109.2
          suffices w109 : zLI (d + 3) tb_X6_readCable 79 [some (vR 5 (some a0)), some (vI (mI (I102, L102, (ra102, rb102, (some p104), rd102), zK0 sl sx, c102) 5 a0 5)), some (vI (mI (I107, L107, (ra107, rb107, rc107, rd107), zK0 sl sx, c107) 5 a0 5))] [vI v109] (I109, L109, (ra109, rb109, rc109, rd109), zK0 sl sx, c109) x M' (zK0 sl sx) from ⟨zR_call (rest := []) 8 q109.1 (fun n => (if_neg g6).trans rfl) w109.1, w109.2⟩
          rcases zit h with ⟨g7, h⟩ | ⟨g7, h⟩
          · obtain ⟨rfl, rfl⟩ := zrI h
            exact ⟨zR_ret 3 ((if_pos g7).trans rfl), rfl⟩
          · obtain ⟨p110, g8, h⟩ := zOx h
            obtain rfl : rc109 = some p110 := g8
            obtain ⟨g9, h⟩ := zIx h
            replace h := zWx h
            obtain ⟨g10, h⟩ := zIx h
            replace h := zWx h
            obtain ⟨v113, M113, f113, h⟩ := zBx h
            have q113 := L_Nu_add (d := (d + 2)) f113 rfl
            obtain ⟨I113, L113, ⟨ra113, rb113, rc113, rd113⟩, K113, c113⟩ := M113
            obtain rfl : K113 = zK0 sl sx := q113.2
            suffices w113 : zLI (d + 3) tb_X6_readCable 118 [some (vR 5 (some a0)), some (vI (mI (I102, L102, (ra102, rb102, (some p104), rd102), zK0 sl sx, c102) 5 a0 5)), some (vI (mI (I107, L107, (ra107, rb107, rc107, rd107), zK0 sl sx, c107) 5 a0 5))] [vI v113] (I113, L113, (ra113, rb113, rc113, rd113), zK0 sl sx, c113) x M' (zK0 sl sx) from ⟨zR_call (rest := []) 19 q113.1 (fun n => (if_neg g7).trans ((if_pos g9).trans ((if_pos g10).trans rfl))) w113.1, w113.2⟩
            obtain ⟨v114, M114, f114, h⟩ := zBx h
            have q114 := L_Re_passSign (d := d) f114 rfl
            obtain ⟨I114, L114, ⟨ra114, rb114, rc114, rd114⟩, K114, c114⟩ := M114
            obtain rfl : K114 = zK0 sl sx := q114.2
            suffices w114 : zLI (d + 3) tb_X6_readCable 125 [some (vR 5 (some a0)), some (vI (mI (I102, L102, (ra102, rb102, (some p104), rd102), zK0 sl sx, c102) 5 a0 5)), some (vI (mI (I107, L107, (ra107, rb107, rc107, rd107), zK0 sl sx, c107) 5 a0 5))] [vI v114] (I114, L114, (ra114, rb114, rc114, rd114), zK0 sl sx, c114) x M' (zK0 sl sx) from ⟨zR_call (rest := []) 4 q114.1 (fun n => rfl) w114.1, w114.2⟩
            obtain ⟨rfl, rfl⟩ := zrI h
            exact ⟨zR_ret 1 (rfl), rfl⟩
    · obtain ⟨v115, M115, f115, h⟩ := zBx h
      have q115 := L_Re_fail (d := (d + 2)) f115 rfl
      obtain ⟨I115, L115, ⟨ra115, rb115, rc115, rd115⟩, K115, c115⟩ := M115
      obtain rfl : K115 = zK0 sl sx := q115.2
      suffices w115 : zLI (d + 3) tb_X6_readCable 39 [some (vR 5 (some a0)), some (vI (mI (I102, L102, (ra102, rb102, (some p104), rd102), zK0 sl sx, c102) 5 a0 5)), none] [vI v115] (I115, L115, (ra115, rb115, rc115, rd115), zK0 sl sx, c115) x M' (zK0 sl sx) from ⟨zR_call (rest := []) 14 q115.1 (fun n => (if_neg g1).trans ((if_pos g3).trans ((if_neg g4).trans rfl))) w115.1, w115.2⟩
      obtain ⟨rfl, rfl⟩ := zrI h
      exact ⟨zR_ret 1 (rfl), rfl⟩
set_option maxRecDepth 20000 in
theorem L_Re_readList_29 {N d sl : Nat} {sx : Nat → Int} {rec7 : Nat → Nat → Int → Int → ZM → Option (Int × ZM)} (hrec7 : ∀ {a0 : Nat} {a1 : Nat} {x2 : Int} {x3 : Int} {M : ZM} {x : Int} {M' : ZM}, rec7 a0 a1 x2 x3 M = some (x, M') → mK M = zK0 sl sx → zLI (d + 2) tb_X6_readList 7 [some (vR 5 (some a0)), some (vR 3 (some a1)), some (vI x2), some (vI x3)] [] M x M' (zK0 sl sx)) {a0 : Nat} {a1 : Nat} {x2 : Int} {x3 : Int} {M : ZM} {x : Int} {M' : ZM} (h : Re_readList_29 N rec7 a0 a1 x2 x3 M = some (x, M')) (hK : mK M = zK0 sl sx) : zLI (d + 2) tb_X6_readList 29 [some (vR 5 (some a0)), some (vR 3 (some a1)), some (vI x2), some (vI x3)] [] M x M' (zK0 sl sx) := by
  obtain ⟨I0, L0, ⟨ra0, rb0, rc0, rd0⟩, K0, c0⟩ := M
  obtain rfl : K0 = zK0 sl sx := hK
  obtain ⟨v101, M101, f101, h⟩ := zBx h
  have q101 := L_Re_isNumber (d := d) f101 rfl
  obtain ⟨I101, L101, ⟨ra101, rb101, rc101, rd101⟩, K101, c101⟩ := M101
  obtain rfl : K101 = zK0 sl sx := q101.2
  suffices w101 : zLI (d + 2) tb_X6_readList 35 [some (vR 5 (some a0)), some (vR 3 (some a1)), some (vI x2), some (vI x3)] [vI v101] (I101, L101, (ra101, rb101, rc101, rd101), zK0 sl sx, c101) x M' (zK0 sl sx) from ⟨zR_call (rest := []) 4 q101.1 (fun n => rfl) w101.1, w101.2⟩
  rcases zit h with ⟨g1, h⟩ | ⟨g1, h⟩
  · obtain ⟨rfl, rfl⟩ := zrI h
    exact ⟨zR_ret 3 ((if_pos g1).trans rfl), rfl⟩
  · obtain ⟨v102, M102, f102, h⟩ := zBx h
    have q102 := L_Nu_add (d := (d + 1)) f102 rfl
    obtain ⟨I102, L102, ⟨ra102, rb102, rc102, rd102⟩, K102, c102⟩ := M102
    obtain rfl : K102 = zK0 sl sx := q102.2
    suffices w102 : zLI (d + 2) tb_X6_readList 51 [some (vR 5 (some a0)), some (vR 3 (some a1)), some (vI x2), some (vI x3)] [vI v102] (I102, L102, (ra102, rb102, rc102, rd102), zK0 sl sx, c102) x M' (zK0 sl sx) from ⟨zR_call (rest := []) 6 q102.1 (fun n => (if_neg g1).trans rfl) w102.1, w102.2⟩
    rcases zit h with ⟨g2, h⟩ | ⟨g2, h⟩
    · obtain ⟨v103, M103, f103, h⟩ := zBx h
      have q103 := L_Re_fail (d := (d + 1)) f103 rfl
      obtain ⟨I103, L103, ⟨ra103, rb103, rc103, rd103⟩, K103, c103⟩ := M103
      obtain rfl : K103 = zK0 sl sx := q103.2
      suffices w103 : zLI (d + 2) tb_X6_readList 59 [some (vR 5 (some a0)), some (vR 3 (some a1)), some (vI x2), some (vI x3)] [vI v103] (I103, L103, (ra103, rb103, rc103, rd103), zK0 sl sx, c103) x M' (zK0 sl sx) from ⟨zR_call (rest := []) 4 q103.1 (fun n => (if_pos g2).trans rfl) w103.1, w103.2⟩
      obtain ⟨rfl, rfl⟩ := zrI h
      exact ⟨zR_ret 1 (rfl), rfl⟩
    · obtain ⟨M104, f104, h⟩ := zBvx h
      have q104 := L_Ta_pass (d := d) f104 rfl
      obtain ⟨I104, L104, ⟨ra104, rb104, rc104, rd104⟩, K104, c104⟩ := M104
      obtain rfl : K104 = zK0 sl sx := q104.2
      suffices w104 : zLI (d + 2) tb_X6_readList 67 [some (vR 5 (some a0)), some (vR 3 (some a1)), some (vI x2), some (vI x3)] [] (I104, L104, (ra104, rb104, rc104, rd104), zK0 sl sx, c104) x M' (zK0 sl sx) from ⟨zR_call (rest := []) 4 q104.1 (fun n => (if_neg g2).trans rfl) w104.1, w104.2⟩
      replace h := zWx h
      have q := hrec7 h rfl
      exact ⟨zR_go 2 q.1 (fun n => rfl), q.2⟩
set_option maxRecDepth 20000 in
theorem L_Re_readList_7 {N d sl : Nat} {sx : Nat → Int} : ∀ {n : Nat} {a0 : Nat} {a1 : Nat} {x2 : Int} {x3 : Int} {M : ZM} {x : Int} {M' : ZM}, Re_readList_7 N n a0 a1 x2 x3 M = some (x, M') → mK M = zK0 sl sx → zLI (d + 2) tb_X6_readList 7 [some (vR 5 (some a0)), some (vR 3 (some a1)), some (vI x2), some (vI x3)] [] M x M' (zK0 sl sx) := by
  intro n
  induction n with
  | zero => intros; rename_i h _; cases h
  | succ n ih =>
    intro a0 a1 x2 x3 M x M' h hK
    obtain ⟨I0, L0, ⟨ra0, rb0, rc0, rd0⟩, K0, c0⟩ := M
    obtain rfl : K0 = zK0 sl sx := hK
    rcases zit h with ⟨g1, h⟩ | ⟨g1, h⟩
    · rcases zit h with ⟨g2, h⟩ | ⟨g2, h⟩
      · have q := L_Re_readList_29 (d := d) ih h rfl
        exact ⟨zR_go 5 q.1 (fun n => (if_pos g1).trans ((if_pos g2).trans rfl)), q.2⟩
      · rcases zit h with ⟨g3, h⟩ | ⟨g3, h⟩
        · have q := L_Re_readList_29 (d := d) ih h rfl
          exact ⟨zR_go 10 q.1 (fun n => (if_pos g1).trans ((if_neg g2).trans ((if_pos g3).trans rfl))), q.2⟩
        · obtain ⟨rfl, rfl⟩ := zrI h
          exact ⟨zR_ret 12 ((if_pos g1).trans ((if_neg g2).trans ((if_neg g3).trans rfl))), rfl⟩
    · obtain ⟨rfl, rfl⟩ := zrI h
      exact ⟨zR_ret 5 ((if_neg g1).trans rfl), rfl⟩
set_option maxRecDepth 20000 in
theorem L_Re_readList {N d sl : Nat} {sx : Nat → Int} {a0 : Nat} {a1 : Nat} {x2 : Int} {M : ZM} {x : Int} {M' : ZM} (h : Re_readList N a0 a1 x2 M = some (x, M')) (hK : mK M = zK0 sl sx) : zLI (d + 2) tb_X6_readList 0 [some (vR 5 (some a0)), some (vR 3 (some a1)), some (vI x2), none] [] M x M' (zK0 sl sx) := by
  obtain ⟨I0, L0, ⟨ra0, rb0, rc0, rd0⟩, K0, c0⟩ := M
  obtain rfl : K0 = zK0 sl sx := hK
  replace h := zWx h
  have q := L_Re_readList_7 (d := d) h rfl
  exact ⟨zR_go 5 q.1 (fun n => rfl), q.2⟩
set_option maxRecDepth 20000 in
theorem L_Re_readWakes_13 {N d sl : Nat} {sx : Nat → Int} : ∀ {n : Nat} {a0 : Nat} {x1 : Int} {M : ZM} {x : Int} {M' : ZM}, Re_readWakes_13 N n a0 x1 M = some (x, M') → mK M = zK0 sl sx → zLI (d + 3) tb_X6_readWakes 13 [some (vR 5 (some a0)), some (vI x1)] [] M x M' (zK0 sl sx) := by
  intro n
  induction n with
  | zero => intros; rename_i h _; cases h
  | succ n ih =>
    intro a0 x1 M x M' h hK
    obtain ⟨I0, L0, ⟨ra0, rb0, rc0, rd0⟩, K0, c0⟩ := M
    obtain rfl : K0 = zK0 sl sx := hK
    rcases zit h with ⟨g1, h⟩ | ⟨g1, h⟩
    · obtain ⟨v101, M101, f101, h⟩ := zBx h
      have q101 := L_Re_passNumber (d := d) f101 rfl
      obtain ⟨I101, L101, ⟨ra101, rb101, rc101, rd101⟩, K101, c101⟩ := M101
      obtain rfl : K101 = zK0 sl sx := q101.2
      suffices w101 : zLI (d + 3) tb_X6_readWakes 25 [some (vR 5 (some a0)), some (vI x1)] [vI v101] (I101, L101, (ra101, rb101, rc101, rd101), zK0 sl sx, c101) x M' (zK0 sl sx) from ⟨zR_call (rest := []) 7 q101.1 (fun n => (if_pos g1).trans rfl) w101.1, w101.2⟩
      rcases zit h with ⟨g2, h⟩ | ⟨g2, h⟩
      · obtain ⟨rfl, rfl⟩ := zrI h
        exact ⟨zR_ret 3 ((if_pos g2).trans rfl), rfl⟩
      · obtain ⟨p102, g3, h⟩ := zOx h
        obtain rfl : rc101 = some p102 := g3
        obtain ⟨v103, M103, f103, h⟩ := zBx h
        have q103 := L_Nu_add (d := (d + 2)) f103 rfl
        obtain ⟨I103, L103, ⟨ra103, rb103, rc103, rd103⟩, K103, c103⟩ := M103
        obtain rfl : K103 = zK0 sl sx := q103.2
        suffices w103 : zLI (d + 3) tb_X6_readWakes 44 [some (vR 5 (some a0)), some (vI x1)] [vI v103] (I103, L103, (ra103, rb103, rc103, rd103), zK0 sl sx, c103) x M' (zK0 sl sx) from ⟨zR_call (rest := []) 7 q103.1 (fun n => (if_neg g2).trans rfl) w103.1, w103.2⟩
        replace h := zWx h
        have q := ih h rfl
        exact ⟨zR_go 3 q.1 (fun n => rfl), q.2⟩
    · obtain ⟨rfl, rfl⟩ := zrI h
      exact ⟨zR_ret 5 ((if_neg g1).trans rfl), rfl⟩
set_option maxRecDepth 20000 in
theorem L_Re_readWakes {N d sl : Nat} {sx : Nat → Int} {a0 : Nat} {M : ZM} {x : Int} {M' : ZM} (h : Re_readWakes N a0 M = some (x, M')) (hK : mK M = zK0 sl sx) : zLI (d + 3) tb_X6_readWakes 0 [some (vR 5 (some a0)), none] [] M x M' (zK0 sl sx) := by
  obtain ⟨I0, L0, ⟨ra0, rb0, rc0, rd0⟩, K0, c0⟩ := M
  obtain rfl : K0 = zK0 sl sx := hK
  obtain ⟨p101, g1, h⟩ := zOx h
  obtain rfl : rc0 = some p101 := g1
  replace h := zWx h
  have q := L_Re_readWakes_13 (d := d) h rfl
  exact ⟨zR_go 7 q.1 (fun n => rfl), q.2⟩
set_option maxRecDepth 20000 in
theorem L_Re_readWears {N d sl : Nat} {sx : Nat → Int} {a0 : Nat} {M : ZM} {x : Int} {M' : ZM} (h : Re_readWears N a0 M = some (x, M')) (hK : mK M = zK0 sl sx) : zLI (d + 3) tb_X6_readWears 0 [some (vR 5 (some a0))] [] M x M' (zK0 sl sx) := by
  obtain ⟨I0, L0, ⟨ra0, rb0, rc0, rd0⟩, K0, c0⟩ := M
  obtain rfl : K0 = zK0 sl sx := hK
  obtain ⟨v101, M101, f101, h⟩ := zBx h
  have q101 := L_Re_passNumber (d := d) f101 rfl
  obtain ⟨I101, L101, ⟨ra101, rb101, rc101, rd101⟩, K101, c101⟩ := M101
  obtain rfl : K101 = zK0 sl sx := q101.2
  suffices w101 : zLI (d + 3) tb_X6_readWears 7 [some (vR 5 (some a0))] [vI v101] (I101, L101, (ra101, rb101, rc101, rd101), zK0 sl sx, c101) x M' (zK0 sl sx) from ⟨zR_call (rest := []) 4 q101.1 (fun n => rfl) w101.1, w101.2⟩
  rcases zit h with ⟨g1, h⟩ | ⟨g1, h⟩
  · obtain ⟨rfl, rfl⟩ := zrI h
    exact ⟨zR_ret 3 ((if_pos g1).trans rfl), rfl⟩
  · obtain ⟨p102, g2, h⟩ := zOx h
    obtain rfl : rc101 = some p102 := g2
    replace h := zWx h
    obtain ⟨rfl, rfl⟩ := zrI h
    exact ⟨zR_ret 8 ((if_neg g1).trans rfl), rfl⟩
set_option maxRecDepth 20000 in
theorem L_Re_readSlack {N d sl : Nat} {sx : Nat → Int} {a0 : Nat} {M : ZM} {x : Int} {M' : ZM} (h : Re_readSlack N a0 M = some (x, M')) (hK : mK M = zK0 sl sx) : zLI (d + 3) tb_X6_readSlack 0 [some (vR 5 (some a0))] [] M x M' (zK0 sl sx) := by
  obtain ⟨I0, L0, ⟨ra0, rb0, rc0, rd0⟩, K0, c0⟩ := M
  obtain rfl : K0 = zK0 sl sx := hK
  obtain ⟨v101, M101, f101, h⟩ := zBx h
  have q101 := L_Re_passNumber (d := d) f101 rfl
  obtain ⟨I101, L101, ⟨ra101, rb101, rc101, rd101⟩, K101, c101⟩ := M101
  obtain rfl : K101 = zK0 sl sx := q101.2
  suffices w101 : zLI (d + 3) tb_X6_readSlack 7 [some (vR 5 (some a0))] [vI v101] (I101, L101, (ra101, rb101, rc101, rd101), zK0 sl sx, c101) x M' (zK0 sl sx) from ⟨zR_call (rest := []) 4 q101.1 (fun n => rfl) w101.1, w101.2⟩
  rcases zit h with ⟨g1, h⟩ | ⟨g1, h⟩
  · obtain ⟨rfl, rfl⟩ := zrI h
    exact ⟨zR_ret 3 ((if_pos g1).trans rfl), rfl⟩
  · obtain ⟨p102, g2, h⟩ := zOx h
    obtain rfl : rc101 = some p102 := g2
    replace h := zWx h
    obtain ⟨rfl, rfl⟩ := zrI h
    exact ⟨zR_ret 8 ((if_neg g1).trans rfl), rfl⟩
set_option maxRecDepth 20000 in
theorem L_Re_once_45 {N d sl : Nat} {sx : Nat → Int} {a0 : Nat} {M : ZM} {x : Int} {M' : ZM} (h : Re_once_45 N a0 M = some (x, M')) (hK : mK M = zK0 sl sx) : zLI (d + 2) tb_X6_once 45 [some (vR 5 (some a0)), none] [] M x M' (zK0 sl sx) := by
  obtain ⟨I0, L0, ⟨ra0, rb0, rc0, rd0⟩, K0, c0⟩ := M
  obtain rfl : K0 = zK0 sl sx := hK
  obtain ⟨M101, f101, h⟩ := zBvx h
  have q101 := L_Ta_pass (d := d) f101 rfl
  obtain ⟨I101, L101, ⟨ra101, rb101, rc101, rd101⟩, K101, c101⟩ := M101
  obtain rfl : K101 = zK0 sl sx := q101.2
  suffices w101 : zLI (d + 2) tb_X6_once 52 [some (vR 5 (some a0)), none] [] (I101, L101, (ra101, rb101, rc101, rd101), zK0 sl sx, c101) x M' (zK0 sl sx) from ⟨zR_call (rest := []) 3 q101.1 (fun n => rfl) w101.1, w101.2⟩
  obtain ⟨rfl, rfl⟩ := zrI h
  exact ⟨zR_ret 2 (rfl), rfl⟩
set_option maxRecDepth 20000 in
theorem L_Re_once {N d sl : Nat} {sx : Nat → Int} {a0 : Nat} {x1 : Int} {M : ZM} {x : Int} {M' : ZM} (h : Re_once N a0 x1 M = some (x, M')) (hK : mK M = zK0 sl sx) : zLI (d + 2) tb_X6_once 0 [some (vR 5 (some a0)), some (vI x1)] [] M x M' (zK0 sl sx) := by
  obtain ⟨I0, L0, ⟨ra0, rb0, rc0, rd0⟩, K0, c0⟩ := M
  obtain rfl : K0 = zK0 sl sx := hK
  rcases zit h with ⟨g1, h⟩ | ⟨g1, h⟩
  · replace h := zWx h
    rcases zit h with ⟨g2, h⟩ | ⟨g2, h⟩
    · obtain ⟨p102, g3, h⟩ := zOx h
      obtain rfl : rc0 = some p102 := g3
      replace h := zWx h
      have q := L_Re_once_45 (d := d) h rfl
      exact ⟨zR_go 20 (zR_up (ls' := [some (vR 5 (some a0)), some (vI x1)]) q.1 ⟨.inr rfl, .inl rfl, trivial⟩) (fun n => (if_pos g1).trans ((if_pos g2).trans rfl)), q.2⟩
    · have q := L_Re_once_45 (d := d) h rfl
      exact ⟨zR_go 14 (zR_up (ls' := [some (vR 5 (some a0)), some (vI x1)]) q.1 ⟨.inr rfl, .inl rfl, trivial⟩) (fun n => (if_pos g1).trans ((if_neg g2).trans rfl)), q.2⟩
  · obtain ⟨v104, M104, f104, h⟩ := zBx h
    have q104 := L_Re_fail (d := (d + 1)) f104 rfl
    obtain ⟨I104, L104, ⟨ra104, rb104, rc104, rd104⟩, K104, c104⟩ := M104
    obtain rfl : K104 = zK0 sl sx := q104.2
    suffices w104 : zLI (d + 2) tb_X6_once 14 [some (vR 5 (some a0)), some (vI x1)] [vI v104] (I104, L104, (ra104, rb104, rc104, rd104), zK0 sl sx, c104) x M' (zK0 sl sx) from ⟨zR_call (rest := []) 8 q104.1 (fun n => (if_neg g1).trans rfl) w104.1, w104.2⟩
    obtain ⟨rfl, rfl⟩ := zrI h
    exact ⟨zR_ret 1 (rfl), rfl⟩
set_option maxRecDepth 20000 in
theorem L_Re_readParkLine {N d sl : Nat} {sx : Nat → Int} {a0 : Nat} {M : ZM} {x : Int} {M' : ZM} (h : Re_readParkLine N a0 M = some (x, M')) (hK : mK M = zK0 sl sx) : zLI (d + 43) tb_X6_readParkLine 0 [some (vR 5 (some a0)), none] [] M x M' (zK0 sl sx) := by
  obtain ⟨I0, L0, ⟨ra0, rb0, rc0, rd0⟩, K0, c0⟩ := M
  obtain rfl : K0 = zK0 sl sx := hK
  replace h := zWx h
  rcases zNx h with ⟨g1, h⟩ | ⟨w102, g1, h⟩
  · obtain rfl : rd0 = none := g1
    obtain ⟨v103, M103, f103, h⟩ := zBx h
    have q103 := L_Re_fail (d := (d + 42)) f103 rfl
    obtain ⟨I103, L103, ⟨ra103, rb103, rc103, rd103⟩, K103, c103⟩ := M103
    obtain rfl : K103 = zK0 sl sx := q103.2
    suffices w103 : zLI (d + 43) tb_X6_readParkLine 17 [some (vR 5 (some a0)), some (vR 12 none)] [vI v103] (I103, L103, (ra103, rb103, rc103, rd103), zK0 sl sx, c103) x M' (zK0 sl sx) from ⟨zR_call (rest := []) 9 q103.1 (fun n => rfl) w103.1, w103.2⟩
    obtain ⟨rfl, rfl⟩ := zrI h
    exact ⟨zR_ret 1 (rfl), rfl⟩
  · obtain rfl : rd0 = some w102 := g1
    obtain ⟨g2, h⟩ := zIx h
    rcases zit h with ⟨g3, h⟩ | ⟨g3, h⟩
    · obtain ⟨v104, M104, f104, h⟩ := zBx h
      have q104 := L_Re_readTurbine (d := (d + 39)) f104 rfl
      obtain ⟨I104, L104, ⟨ra104, rb104, rc104, rd104⟩, K104, c104⟩ := M104
      obtain rfl : K104 = zK0 sl sx := q104.2
      suffices w104 : zLI (d + 43) tb_X6_readParkLine 80 [some (vR 5 (some a0)), some (vR 12 (some w102))] [vI v104] (I104, L104, (ra104, rb104, rc104, rd104), zK0 sl sx, c104) x M' (zK0 sl sx) from ⟨zR_call (rest := []) 13 q104.1 (fun n => (if_pos g2).trans ((if_pos g3).trans rfl)) w104.1, w104.2⟩
      obtain ⟨rfl, rfl⟩ := zrI h
      exact ⟨zR_ret 1 (rfl), rfl⟩
    · rcases zit h with ⟨g4, h⟩ | ⟨g4, h⟩
      · obtain ⟨v105, M105, f105, h⟩ := zBx h
        have q105 := L_Re_readCable (d := (d + 39)) f105 rfl
        obtain ⟨I105, L105, ⟨ra105, rb105, rc105, rd105⟩, K105, c105⟩ := M105
        obtain rfl : K105 = zK0 sl sx := q105.2
        suffices w105 : zLI (d + 43) tb_X6_readParkLine 85 [some (vR 5 (some a0)), some (vR 12 (some w102))] [vI v105] (I105, L105, (ra105, rb105, rc105, rd105), zK0 sl sx, c105) x M' (zK0 sl sx) from ⟨zR_call (rest := []) 13 q105.1 (fun n => (if_pos g2).trans ((if_neg g3).trans ((if_pos g4).trans rfl))) w105.1, w105.2⟩
        obtain ⟨rfl, rfl⟩ := zrI h
        exact ⟨zR_ret 1 (rfl), rfl⟩
      · rcases zit h with ⟨g5, h⟩ | ⟨g5, h⟩
        · obtain ⟨v106, M106, f106, h⟩ := zBx h
          have q106 := L_Re_once (d := (d + 40)) f106 rfl
          obtain ⟨I106, L106, ⟨ra106, rb106, rc106, rd106⟩, K106, c106⟩ := M106
          obtain rfl : K106 = zK0 sl sx := q106.2
          suffices w106 : zLI (d + 43) tb_X6_readParkLine 91 [some (vR 5 (some a0)), some (vR 12 (some w102))] [vI v106] (I106, L106, (ra106, rb106, rc106, rd106), zK0 sl sx, c106) x M' (zK0 sl sx) from ⟨zR_call (rest := []) 14 q106.1 (fun n => (if_pos g2).trans ((if_neg g3).trans ((if_neg g4).trans ((if_pos g5).trans rfl)))) w106.1, w106.2⟩
          rcases zit h with ⟨g6, h⟩ | ⟨g6, h⟩
          · obtain ⟨rfl, rfl⟩ := zrI h
            exact ⟨zR_ret 3 ((if_pos g6).trans rfl), rfl⟩
          · obtain ⟨p107, g7, h⟩ := zOx h
            obtain rfl : rc106 = some p107 := g7
            obtain ⟨v108, M108, f108, h⟩ := zBx h
            have q108 := L_Re_readList (d := (d + 40)) f108 rfl
            obtain ⟨I108, L108, ⟨ra108, rb108, rc108, rd108⟩, K108, c108⟩ := M108
            obtain rfl : K108 = zK0 sl sx := q108.2
            suffices w108 : zLI (d + 43) tb_X6_readParkLine 107 [some (vR 5 (some a0)), some (vR 12 (some w102))] [vI v108] (I108, L108, (ra108, rb108, rc108, rd108), zK0 sl sx, c108) x M' (zK0 sl sx) from ⟨zR_call (rest := []) 7 q108.1 (fun n => (if_neg g6).trans rfl) w108.1, w108.2⟩
            rcases zit h with ⟨g8, h⟩ | ⟨g8, h⟩
            · obtain ⟨rfl, rfl⟩ := zrI h
              exact ⟨zR_ret 3 ((if_pos g8).trans rfl), rfl⟩
            · obtain ⟨v109, M109, f109, h⟩ := zBx h
              have q109 := L_Re_passSign (d := (d + 40)) f109 rfl
              obtain ⟨I109, L109, ⟨ra109, rb109, rc109, rd109⟩, K109, c109⟩ := M109
              obtain rfl : K109 = zK0 sl sx := q109.2
              suffices w109 : zLI (d + 43) tb_X6_readParkLine 116 [some (vR 5 (some a0)), some (vR 12 (some w102))] [vI v109] (I109, L109, (ra109, rb109, rc109, rd109), zK0 sl sx, c109) x M' (zK0 sl sx) from ⟨zR_call (rest := []) 4 q109.1 (fun n => (if_neg g8).trans rfl) w109.1, w109.2⟩
              rcases zit h with ⟨g9, h⟩ | ⟨g9, h⟩
              · obtain ⟨rfl, rfl⟩ := zrI h
                exact ⟨zR_ret 3 ((if_pos g9).trans rfl), rfl⟩
              · obtain ⟨rfl, rfl⟩ := zrI h
                exact ⟨zR_ret 4 ((if_neg g9).trans rfl), rfl⟩
        · rcases zit h with ⟨g10, h⟩ | ⟨g10, h⟩
          · obtain ⟨v110, M110, f110, h⟩ := zBx h
            have q110 := L_Re_once (d := (d + 40)) f110 rfl
            obtain ⟨I110, L110, ⟨ra110, rb110, rc110, rd110⟩, K110, c110⟩ := M110
            obtain rfl : K110 = zK0 sl sx := q110.2
            suffices w110 : zLI (d + 43) tb_X6_readParkLine 130 [some (vR 5 (some a0)), some (vR 12 (some w102))] [vI v110] (I110, L110, (ra110, rb110, rc110, rd110), zK0 sl sx, c110) x M' (zK0 sl sx) from ⟨zR_call (rest := []) 14 q110.1 (fun n => (if_pos g2).trans ((if_neg g3).trans ((if_neg g4).trans ((if_neg g5).trans ((if_pos g10).trans rfl))))) w110.1, w110.2⟩
            rcases zit h with ⟨g11, h⟩ | ⟨g11, h⟩
            · obtain ⟨rfl, rfl⟩ := zrI h
              exact ⟨zR_ret 3 ((if_pos g11).trans rfl), rfl⟩
            · obtain ⟨p111, g12, h⟩ := zOx h
              obtain rfl : rc110 = some p111 := g12
              obtain ⟨v112, M112, f112, h⟩ := zBx h
              have q112 := L_Re_readList (d := (d + 40)) f112 rfl
              obtain ⟨I112, L112, ⟨ra112, rb112, rc112, rd112⟩, K112, c112⟩ := M112
              obtain rfl : K112 = zK0 sl sx := q112.2
              suffices w112 : zLI (d + 43) tb_X6_readParkLine 145 [some (vR 5 (some a0)), some (vR 12 (some w102))] [vI v112] (I112, L112, (ra112, rb112, rc112, rd112), zK0 sl sx, c112) x M' (zK0 sl sx) from ⟨zR_call (rest := []) 7 q112.1 (fun n => (if_neg g11).trans rfl) w112.1, w112.2⟩
              rcases zit h with ⟨g13, h⟩ | ⟨g13, h⟩
              · obtain ⟨rfl, rfl⟩ := zrI h
                exact ⟨zR_ret 3 ((if_pos g13).trans rfl), rfl⟩
              · obtain ⟨v113, M113, f113, h⟩ := zBx h
                have q113 := L_Re_passSign (d := (d + 40)) f113 rfl
                obtain ⟨I113, L113, ⟨ra113, rb113, rc113, rd113⟩, K113, c113⟩ := M113
                obtain rfl : K113 = zK0 sl sx := q113.2
                suffices w113 : zLI (d + 43) tb_X6_readParkLine 154 [some (vR 5 (some a0)), some (vR 12 (some w102))] [vI v113] (I113, L113, (ra113, rb113, rc113, rd113), zK0 sl sx, c113) x M' (zK0 sl sx) from ⟨zR_call (rest := []) 4 q113.1 (fun n => (if_neg g13).trans rfl) w113.1, w113.2⟩
                rcases zit h with ⟨g14, h⟩ | ⟨g14, h⟩
                · obtain ⟨rfl, rfl⟩ := zrI h
                  exact ⟨zR_ret 3 ((if_pos g14).trans rfl), rfl⟩
                · obtain ⟨rfl, rfl⟩ := zrI h
                  exact ⟨zR_ret 4 ((if_neg g14).trans rfl), rfl⟩
          · rcases zit h with ⟨g15, h⟩ | ⟨g15, h⟩
            · obtain ⟨v114, M114, f114, h⟩ := zBx h
              have q114 := L_Re_once (d := (d + 40)) f114 rfl
              obtain ⟨I114, L114, ⟨ra114, rb114, rc114, rd114⟩, K114, c114⟩ := M114
              obtain rfl : K114 = zK0 sl sx := q114.2
              suffices w114 : zLI (d + 43) tb_X6_readParkLine 168 [some (vR 5 (some a0)), some (vR 12 (some w102))] [vI v114] (I114, L114, (ra114, rb114, rc114, rd114), zK0 sl sx, c114) x M' (zK0 sl sx) from ⟨zR_call (rest := []) 14 q114.1 (fun n => (if_pos g2).trans ((if_neg g3).trans ((if_neg g4).trans ((if_neg g5).trans ((if_neg g10).trans ((if_pos g15).trans rfl)))))) w114.1, w114.2⟩
              rcases zit h with ⟨g16, h⟩ | ⟨g16, h⟩
              · obtain ⟨rfl, rfl⟩ := zrI h
                exact ⟨zR_ret 3 ((if_pos g16).trans rfl), rfl⟩
              · obtain ⟨p115, g17, h⟩ := zOx h
                obtain rfl : rc114 = some p115 := g17
                obtain ⟨v116, M116, f116, h⟩ := zBx h
                have q116 := L_Re_readList (d := (d + 40)) f116 rfl
                obtain ⟨I116, L116, ⟨ra116, rb116, rc116, rd116⟩, K116, c116⟩ := M116
                obtain rfl : K116 = zK0 sl sx := q116.2
                suffices w116 : zLI (d + 43) tb_X6_readParkLine 184 [some (vR 5 (some a0)), some (vR 12 (some w102))] [vI v116] (I116, L116, (ra116, rb116, rc116, rd116), zK0 sl sx, c116) x M' (zK0 sl sx) from ⟨zR_call (rest := []) 7 q116.1 (fun n => (if_neg g16).trans rfl) w116.1, w116.2⟩
                rcases zit h with ⟨g18, h⟩ | ⟨g18, h⟩
                · obtain ⟨rfl, rfl⟩ := zrI h
                  exact ⟨zR_ret 3 ((if_pos g18).trans rfl), rfl⟩
                · obtain ⟨v117, M117, f117, h⟩ := zBx h
                  have q117 := L_Re_passSign (d := (d + 40)) f117 rfl
                  obtain ⟨I117, L117, ⟨ra117, rb117, rc117, rd117⟩, K117, c117⟩ := M117
                  obtain rfl : K117 = zK0 sl sx := q117.2
                  suffices w117 : zLI (d + 43) tb_X6_readParkLine 193 [some (vR 5 (some a0)), some (vR 12 (some w102))] [vI v117] (I117, L117, (ra117, rb117, rc117, rd117), zK0 sl sx, c117) x M' (zK0 sl sx) from ⟨zR_call (rest := []) 4 q117.1 (fun n => (if_neg g18).trans rfl) w117.1, w117.2⟩
                  rcases zit h with ⟨g19, h⟩ | ⟨g19, h⟩
                  · obtain ⟨rfl, rfl⟩ := zrI h
                    exact ⟨zR_ret 3 ((if_pos g19).trans rfl), rfl⟩
                  · obtain ⟨rfl, rfl⟩ := zrI h
                    exact ⟨zR_ret 4 ((if_neg g19).trans rfl), rfl⟩
            · rcases zit h with ⟨g20, h⟩ | ⟨g20, h⟩
              · obtain ⟨v118, M118, f118, h⟩ := zBx h
                have q118 := L_Re_once (d := (d + 40)) f118 rfl
                obtain ⟨I118, L118, ⟨ra118, rb118, rc118, rd118⟩, K118, c118⟩ := M118
                obtain rfl : K118 = zK0 sl sx := q118.2
                suffices w118 : zLI (d + 43) tb_X6_readParkLine 208 [some (vR 5 (some a0)), some (vR 12 (some w102))] [vI v118] (I118, L118, (ra118, rb118, rc118, rd118), zK0 sl sx, c118) x M' (zK0 sl sx) from ⟨zR_call (rest := []) 14 q118.1 (fun n => (if_pos g2).trans ((if_neg g3).trans ((if_neg g4).trans ((if_neg g5).trans ((if_neg g10).trans ((if_neg g15).trans ((if_pos g20).trans rfl))))))) w118.1, w118.2⟩
                rcases zit h with ⟨g21, h⟩ | ⟨g21, h⟩
                · obtain ⟨rfl, rfl⟩ := zrI h
                  exact ⟨zR_ret 3 ((if_pos g21).trans rfl), rfl⟩
                · obtain ⟨v119, M119, f119, h⟩ := zBx h
                  have q119 := L_Re_readWakes (d := (d + 39)) f119 rfl
                  obtain ⟨I119, L119, ⟨ra119, rb119, rc119, rd119⟩, K119, c119⟩ := M119
                  obtain rfl : K119 = zK0 sl sx := q119.2
                  suffices w119 : zLI (d + 43) tb_X6_readParkLine 215 [some (vR 5 (some a0)), some (vR 12 (some w102))] [vI v119] (I119, L119, (ra119, rb119, rc119, rd119), zK0 sl sx, c119) x M' (zK0 sl sx) from ⟨zR_call (rest := []) 3 q119.1 (fun n => (if_neg g21).trans rfl) w119.1, w119.2⟩
                  rcases zit h with ⟨g22, h⟩ | ⟨g22, h⟩
                  · obtain ⟨rfl, rfl⟩ := zrI h
                    exact ⟨zR_ret 3 ((if_pos g22).trans rfl), rfl⟩
                  · obtain ⟨v120, M120, f120, h⟩ := zBx h
                    have q120 := L_Re_passSign (d := (d + 40)) f120 rfl
                    obtain ⟨I120, L120, ⟨ra120, rb120, rc120, rd120⟩, K120, c120⟩ := M120
                    obtain rfl : K120 = zK0 sl sx := q120.2
                    suffices w120 : zLI (d + 43) tb_X6_readParkLine 224 [some (vR 5 (some a0)), some (vR 12 (some w102))] [vI v120] (I120, L120, (ra120, rb120, rc120, rd120), zK0 sl sx, c120) x M' (zK0 sl sx) from ⟨zR_call (rest := []) 4 q120.1 (fun n => (if_neg g22).trans rfl) w120.1, w120.2⟩
                    rcases zit h with ⟨g23, h⟩ | ⟨g23, h⟩
                    · obtain ⟨rfl, rfl⟩ := zrI h
                      exact ⟨zR_ret 3 ((if_pos g23).trans rfl), rfl⟩
                    · obtain ⟨rfl, rfl⟩ := zrI h
                      exact ⟨zR_ret 4 ((if_neg g23).trans rfl), rfl⟩
              · rcases zit h with ⟨g24, h⟩ | ⟨g24, h⟩
                · obtain ⟨v121, M121, f121, h⟩ := zBx h
                  have q121 := L_Re_once (d := (d + 40)) f121 rfl
                  obtain ⟨I121, L121, ⟨ra121, rb121, rc121, rd121⟩, K121, c121⟩ := M121
                  obtain rfl : K121 = zK0 sl sx := q121.2
                  suffices w121 : zLI (d + 43) tb_X6_readParkLine 239 [some (vR 5 (some a0)), some (vR 12 (some w102))] [vI v121] (I121, L121, (ra121, rb121, rc121, rd121), zK0 sl sx, c121) x M' (zK0 sl sx) from ⟨zR_call (rest := []) 14 q121.1 (fun n => (if_pos g2).trans ((if_neg g3).trans ((if_neg g4).trans ((if_neg g5).trans ((if_neg g10).trans ((if_neg g15).trans ((if_neg g20).trans ((if_pos g24).trans rfl)))))))) w121.1, w121.2⟩
                  rcases zit h with ⟨g25, h⟩ | ⟨g25, h⟩
                  · obtain ⟨rfl, rfl⟩ := zrI h
                    exact ⟨zR_ret 3 ((if_pos g25).trans rfl), rfl⟩
                  · obtain ⟨v122, M122, f122, h⟩ := zBx h
                    have q122 := L_Re_readWears (d := (d + 39)) f122 rfl
                    obtain ⟨I122, L122, ⟨ra122, rb122, rc122, rd122⟩, K122, c122⟩ := M122
                    obtain rfl : K122 = zK0 sl sx := q122.2
                    suffices w122 : zLI (d + 43) tb_X6_readParkLine 246 [some (vR 5 (some a0)), some (vR 12 (some w102))] [vI v122] (I122, L122, (ra122, rb122, rc122, rd122), zK0 sl sx, c122) x M' (zK0 sl sx) from ⟨zR_call (rest := []) 3 q122.1 (fun n => (if_neg g25).trans rfl) w122.1, w122.2⟩
                    rcases zit h with ⟨g26, h⟩ | ⟨g26, h⟩
                    · obtain ⟨rfl, rfl⟩ := zrI h
                      exact ⟨zR_ret 3 ((if_pos g26).trans rfl), rfl⟩
                    · obtain ⟨v123, M123, f123, h⟩ := zBx h
                      have q123 := L_Re_passSign (d := (d + 40)) f123 rfl
                      obtain ⟨I123, L123, ⟨ra123, rb123, rc123, rd123⟩, K123, c123⟩ := M123
                      obtain rfl : K123 = zK0 sl sx := q123.2
                      suffices w123 : zLI (d + 43) tb_X6_readParkLine 255 [some (vR 5 (some a0)), some (vR 12 (some w102))] [vI v123] (I123, L123, (ra123, rb123, rc123, rd123), zK0 sl sx, c123) x M' (zK0 sl sx) from ⟨zR_call (rest := []) 4 q123.1 (fun n => (if_neg g26).trans rfl) w123.1, w123.2⟩
                      rcases zit h with ⟨g27, h⟩ | ⟨g27, h⟩
                      · obtain ⟨rfl, rfl⟩ := zrI h
                        exact ⟨zR_ret 3 ((if_pos g27).trans rfl), rfl⟩
                      · obtain ⟨rfl, rfl⟩ := zrI h
                        exact ⟨zR_ret 4 ((if_neg g27).trans rfl), rfl⟩
                · rcases zit h with ⟨g28, h⟩ | ⟨g28, h⟩
                  · obtain ⟨v124, M124, f124, h⟩ := zBx h
                    have q124 := L_Re_once (d := (d + 40)) f124 rfl
                    obtain ⟨I124, L124, ⟨ra124, rb124, rc124, rd124⟩, K124, c124⟩ := M124
                    obtain rfl : K124 = zK0 sl sx := q124.2
                    suffices w124 : zLI (d + 43) tb_X6_readParkLine 270 [some (vR 5 (some a0)), some (vR 12 (some w102))] [vI v124] (I124, L124, (ra124, rb124, rc124, rd124), zK0 sl sx, c124) x M' (zK0 sl sx) from ⟨zR_call (rest := []) 14 q124.1 (fun n => (if_pos g2).trans ((if_neg g3).trans ((if_neg g4).trans ((if_neg g5).trans ((if_neg g10).trans ((if_neg g15).trans ((if_neg g20).trans ((if_neg g24).trans ((if_pos g28).trans rfl))))))))) w124.1, w124.2⟩
                    rcases zit h with ⟨g29, h⟩ | ⟨g29, h⟩
                    · obtain ⟨rfl, rfl⟩ := zrI h
                      exact ⟨zR_ret 3 ((if_pos g29).trans rfl), rfl⟩
                    · obtain ⟨v125, M125, f125, h⟩ := zBx h
                      have q125 := L_Re_readSlack (d := (d + 39)) f125 rfl
                      obtain ⟨I125, L125, ⟨ra125, rb125, rc125, rd125⟩, K125, c125⟩ := M125
                      obtain rfl : K125 = zK0 sl sx := q125.2
                      suffices w125 : zLI (d + 43) tb_X6_readParkLine 277 [some (vR 5 (some a0)), some (vR 12 (some w102))] [vI v125] (I125, L125, (ra125, rb125, rc125, rd125), zK0 sl sx, c125) x M' (zK0 sl sx) from ⟨zR_call (rest := []) 3 q125.1 (fun n => (if_neg g29).trans rfl) w125.1, w125.2⟩
                      rcases zit h with ⟨g30, h⟩ | ⟨g30, h⟩
                      · obtain ⟨rfl, rfl⟩ := zrI h
                        exact ⟨zR_ret 3 ((if_pos g30).trans rfl), rfl⟩
                      · obtain ⟨v126, M126, f126, h⟩ := zBx h
                        have q126 := L_Re_passSign (d := (d + 40)) f126 rfl
                        obtain ⟨I126, L126, ⟨ra126, rb126, rc126, rd126⟩, K126, c126⟩ := M126
                        obtain rfl : K126 = zK0 sl sx := q126.2
                        suffices w126 : zLI (d + 43) tb_X6_readParkLine 286 [some (vR 5 (some a0)), some (vR 12 (some w102))] [vI v126] (I126, L126, (ra126, rb126, rc126, rd126), zK0 sl sx, c126) x M' (zK0 sl sx) from ⟨zR_call (rest := []) 4 q126.1 (fun n => (if_neg g30).trans rfl) w126.1, w126.2⟩
                        rcases zit h with ⟨g31, h⟩ | ⟨g31, h⟩
                        · obtain ⟨rfl, rfl⟩ := zrI h
                          exact ⟨zR_ret 3 ((if_pos g31).trans rfl), rfl⟩
                        · obtain ⟨rfl, rfl⟩ := zrI h
                          exact ⟨zR_ret 4 ((if_neg g31).trans rfl), rfl⟩
                  · rcases zit h with ⟨g32, h⟩ | ⟨g32, h⟩
                    · obtain ⟨v127, M127, f127, h⟩ := zBx h
                      have q127 := L_Re_once (d := (d + 40)) f127 rfl
                      obtain ⟨I127, L127, ⟨ra127, rb127, rc127, rd127⟩, K127, c127⟩ := M127
                      obtain rfl : K127 = zK0 sl sx := q127.2
                      suffices w127 : zLI (d + 43) tb_X6_readParkLine 301 [some (vR 5 (some a0)), some (vR 12 (some w102))] [vI v127] (I127, L127, (ra127, rb127, rc127, rd127), zK0 sl sx, c127) x M' (zK0 sl sx) from ⟨zR_call (rest := []) 14 q127.1 (fun n => (if_pos g2).trans ((if_neg g3).trans ((if_neg g4).trans ((if_neg g5).trans ((if_neg g10).trans ((if_neg g15).trans ((if_neg g20).trans ((if_neg g24).trans ((if_neg g28).trans ((if_pos g32).trans rfl)))))))))) w127.1, w127.2⟩
                      rcases zit h with ⟨g33, h⟩ | ⟨g33, h⟩
                      · obtain ⟨rfl, rfl⟩ := zrI h
                        exact ⟨zR_ret 3 ((if_pos g33).trans rfl), rfl⟩
                      · obtain ⟨v128, M128, f128, h⟩ := zBx h
                        have q128 := L_Re_readE (d := d) f128 rfl
                        obtain ⟨I128, L128, ⟨ra128, rb128, rc128, rd128⟩, K128, c128⟩ := M128
                        obtain rfl : K128 = zK0 sl sx := q128.2
                        suffices w128 : zLI (d + 43) tb_X6_readParkLine 309 [some (vR 5 (some a0)), some (vR 12 (some w102))] [vI v128] (I128, L128, (ra128, rb128, rc128, rd128), zK0 sl sx, c128) x M' (zK0 sl sx) from ⟨zR_call (rest := []) 4 q128.1 (fun n => (if_neg g33).trans rfl) w128.1, w128.2⟩
                        rcases zit h with ⟨g34, h⟩ | ⟨g34, h⟩
                        · obtain ⟨rfl, rfl⟩ := zrI h
                          exact ⟨zR_ret 3 ((if_pos g34).trans rfl), rfl⟩
                        · obtain ⟨v129, M129, f129, h⟩ := zBx h
                          have q129 := L_Re_passSign (d := (d + 40)) f129 rfl
                          obtain ⟨I129, L129, ⟨ra129, rb129, rc129, rd129⟩, K129, c129⟩ := M129
                          obtain rfl : K129 = zK0 sl sx := q129.2
                          suffices w129 : zLI (d + 43) tb_X6_readParkLine 318 [some (vR 5 (some a0)), some (vR 12 (some w102))] [vI v129] (I129, L129, (ra129, rb129, rc129, rd129), zK0 sl sx, c129) x M' (zK0 sl sx) from ⟨zR_call (rest := []) 4 q129.1 (fun n => (if_neg g34).trans rfl) w129.1, w129.2⟩
                          rcases zit h with ⟨g35, h⟩ | ⟨g35, h⟩
                          · obtain ⟨rfl, rfl⟩ := zrI h
                            exact ⟨zR_ret 3 ((if_pos g35).trans rfl), rfl⟩
                          · obtain ⟨rfl, rfl⟩ := zrI h
                            exact ⟨zR_ret 4 ((if_neg g35).trans rfl), rfl⟩
                    · obtain ⟨v130, M130, f130, h⟩ := zBx h
                      have q130 := L_Re_fail (d := (d + 42)) f130 rfl
                      obtain ⟨I130, L130, ⟨ra130, rb130, rc130, rd130⟩, K130, c130⟩ := M130
                      obtain rfl : K130 = zK0 sl sx := q130.2
                      suffices w130 : zLI (d + 43) tb_X6_readParkLine 332 [some (vR 5 (some a0)), some (vR 12 (some w102))] [vI v130] (I130, L130, (ra130, rb130, rc130, rd130), zK0 sl sx, c130) x M' (zK0 sl sx) from ⟨zR_call (rest := []) 14 q130.1 (fun n => (if_pos g2).trans ((if_neg g3).trans ((if_neg g4).trans ((if_neg g5).trans ((if_neg g10).trans ((if_neg g15).trans ((if_neg g20).trans ((if_neg g24).trans ((if_neg g28).trans ((if_neg g32).trans rfl)))))))))) w130.1, w130.2⟩
                      obtain ⟨rfl, rfl⟩ := zrI h
                      exact ⟨zR_ret 1 (rfl), rfl⟩
set_option maxRecDepth 20000 in
theorem L_Ta_clear {N d sl : Nat} {sx : Nat → Int} {a0 : Nat} {M : ZM} {M' : ZM} (h : Ta_clear N a0 M = some M') (hK : mK M = zK0 sl sx) : zLV (d + 0) tb_X9_clear 0 [some (vR 8 (some a0))] [] M M' (zK0 sl sx) := by
  obtain ⟨I0, L0, ⟨ra0, rb0, rc0, rd0⟩, K0, c0⟩ := M
  obtain rfl : K0 = zK0 sl sx := hK
  replace h := zWx h
  obtain rfl := zrV h
  exact ⟨zR_ret 4 (rfl), rfl⟩
set_option maxRecDepth 20000 in
theorem L_Ta_start {N d sl : Nat} {sx : Nat → Int} {a0 : Nat} {M : ZM} {M' : ZM} (h : Ta_start N a0 M = some M') (hK : mK M = zK0 sl sx) : zLV (d + 2) tb_X9_start 0 [some (vR 8 (some a0))] [] M M' (zK0 sl sx) := by
  obtain ⟨I0, L0, ⟨ra0, rb0, rc0, rd0⟩, K0, c0⟩ := M
  obtain rfl : K0 = zK0 sl sx := hK
  replace h := zWx h
  obtain ⟨M102, f102, h⟩ := zBvx h
  have q102 := L_Ta_pass (d := d) f102 rfl
  obtain ⟨I102, L102, ⟨ra102, rb102, rc102, rd102⟩, K102, c102⟩ := M102
  obtain rfl : K102 = zK0 sl sx := q102.2
  suffices w102 : zLV (d + 2) tb_X9_start 9 [some (vR 8 (some a0))] [] (I102, L102, (ra102, rb102, rc102, rd102), zK0 sl sx, c102) M' (zK0 sl sx) from ⟨zR_call (rest := []) 5 q102.1 (fun n => rfl) w102.1, w102.2⟩
  obtain rfl := zrV h
  exact ⟨zR_ret 1 (rfl), rfl⟩
set_option maxRecDepth 20000 in
theorem L_Re_readPark_63 {N d sl : Nat} {sx : Nat → Int} {a0 : Nat} {M : ZM} {x : Int} {M' : ZM} (h : Re_readPark_63 N a0 M = some (x, M')) (hK : mK M = zK0 sl sx) : zLI (d + 44) tb_X6_readPark 63 [some (vR 5 (some a0)), none, none] [] M x M' (zK0 sl sx) := by
  obtain ⟨I0, L0, ⟨ra0, rb0, rc0, rd0⟩, K0, c0⟩ := M
  obtain rfl : K0 = zK0 sl sx := hK
  obtain ⟨M101, f101, h⟩ := zBvx h
  have q101 := L_Ta_clear (d := (d + 43)) f101 rfl
  obtain ⟨I101, L101, ⟨ra101, rb101, rc101, rd101⟩, K101, c101⟩ := M101
  obtain rfl : K101 = zK0 sl sx := q101.2
  suffices w101 : zLI (d + 44) tb_X6_readPark 70 [some (vR 5 (some a0)), none, none] [] (I101, L101, (ra101, rb101, rc101, rd101), zK0 sl sx, c101) x M' (zK0 sl sx) from ⟨zR_call (rest := []) 3 q101.1 (fun n => rfl) w101.1, w101.2⟩
  obtain ⟨rfl, rfl⟩ := zrI h
  exact ⟨zR_ret 3 (rfl), rfl⟩
set_option maxRecDepth 20000 in
theorem L_Re_readPark_28 {N d sl : Nat} {sx : Nat → Int} : ∀ {n : Nat} {a0 : Nat} {x2 : Int} {M : ZM} {x : Int} {M' : ZM}, Re_readPark_28 N n a0 x2 M = some (x, M') → mK M = zK0 sl sx → zLI (d + 44) tb_X6_readPark 28 [some (vR 5 (some a0)), none, some (vI x2)] [] M x M' (zK0 sl sx) := by
  intro n
  induction n with
  | zero => intros; rename_i h _; cases h
  | succ n ih =>
    intro a0 x2 M x M' h hK
    obtain ⟨I0, L0, ⟨ra0, rb0, rc0, rd0⟩, K0, c0⟩ := M
    obtain rfl : K0 = zK0 sl sx := hK
    rcases zit h with ⟨g1, h⟩ | ⟨g1, h⟩
    · rcases zit h with ⟨g2, h⟩ | ⟨g2, h⟩
      · rcases zit h with ⟨g3, h⟩ | ⟨g3, h⟩
        · have q := L_Re_readPark_63 (d := d) h rfl
          exact ⟨zR_go 10 (zR_up (ls' := [some (vR 5 (some a0)), none, some (vI x2)]) q.1 ⟨.inr rfl, .inr rfl, .inl rfl, trivial⟩) (fun n => (if_pos g1).trans ((if_pos g2).trans ((if_pos g3).trans rfl))), q.2⟩
        · obtain ⟨v101, M101, f101, h⟩ := zBx h
          have q101 := L_Re_readParkLine (d := d) f101 rfl
          obtain ⟨I101, L101, ⟨ra101, rb101, rc101, rd101⟩, K101, c101⟩ := M101
          obtain rfl : K101 = zK0 sl sx := q101.2
          suffices w101 : zLI (d + 44) tb_X6_readPark 56 [some (vR 5 (some a0)), none, some (vI x2)] [vI v101] (I101, L101, (ra101, rb101, rc101, rd101), zK0 sl sx, c101) x M' (zK0 sl sx) from ⟨zR_call (rest := []) 12 q101.1 (fun n => (if_pos g1).trans ((if_pos g2).trans ((if_neg g3).trans rfl))) w101.1, w101.2⟩
          replace h := zWx h
          have q := ih h rfl
          exact ⟨zR_go 3 q.1 (fun n => rfl), q.2⟩
      · have q := L_Re_readPark_63 (d := d) h rfl
        exact ⟨zR_go 6 (zR_up (ls' := [some (vR 5 (some a0)), none, some (vI x2)]) q.1 ⟨.inr rfl, .inr rfl, .inl rfl, trivial⟩) (fun n => (if_pos g1).trans ((if_neg g2).trans rfl)), q.2⟩
    · have q := L_Re_readPark_63 (d := d) h rfl
      exact ⟨zR_go 3 (zR_up (ls' := [some (vR 5 (some a0)), none, some (vI x2)]) q.1 ⟨.inr rfl, .inr rfl, .inl rfl, trivial⟩) (fun n => (if_neg g1).trans rfl), q.2⟩
set_option maxRecDepth 20000 in
theorem L_Re_readPark {N d sl : Nat} {sx : Nat → Int} {a0 : Nat} {a1 : Nat} {M : ZM} {x : Int} {M' : ZM} (h : Re_readPark N a0 a1 M = some (x, M')) (hK : mK M = zK0 sl sx) : zLI (d + 44) tb_X6_readPark 0 [some (vR 5 (some a0)), some (vR 4 (some a1)), none] [] M x M' (zK0 sl sx) := by
  obtain ⟨I0, L0, ⟨ra0, rb0, rc0, rd0⟩, K0, c0⟩ := M
  obtain rfl : K0 = zK0 sl sx := hK
  obtain ⟨M101, f101, h⟩ := zBvx h
  have q101 := L_Pa_clear (d := (d + 41)) f101 rfl
  obtain ⟨I101, L101, ⟨ra101, rb101, rc101, rd101⟩, K101, c101⟩ := M101
  obtain rfl : K101 = zK0 sl sx := q101.2
  suffices w101 : zLI (d + 44) tb_X6_readPark 4 [some (vR 5 (some a0)), some (vR 4 (some a1)), none] [] (I101, L101, (ra101, rb101, rc101, rd101), zK0 sl sx, c101) x M' (zK0 sl sx) from ⟨zR_call (rest := []) 2 q101.1 (fun n => rfl) w101.1, w101.2⟩
  replace h := zWx h
  replace h := zWx h
  replace h := zWx h
  obtain ⟨M105, f105, h⟩ := zBvx h
  have q105 := L_Ta_start (d := (d + 41)) f105 rfl
  obtain ⟨I105, L105, ⟨ra105, rb105, rc105, rd105⟩, K105, c105⟩ := M105
  obtain rfl : K105 = zK0 sl sx := q105.2
  suffices w105 : zLI (d + 44) tb_X6_readPark 26 [some (vR 5 (some a0)), some (vR 4 (some a1)), none] [] (I105, L105, (ra105, rb105, rc105, rd105), zK0 sl sx, c105) x M' (zK0 sl sx) from ⟨zR_call (rest := []) 12 q105.1 (fun n => rfl) w105.1, w105.2⟩
  have q := L_Re_readPark_28 (d := d) h rfl
  exact ⟨zR_go 2 (zR_up (ls' := [some (vR 5 (some a0)), some (vR 4 (some a1)), some (vI 0)]) q.1 ⟨.inr rfl, .inl rfl, .inr rfl, trivial⟩) (fun n => rfl), q.2⟩
set_option maxRecDepth 20000 in
theorem L_Re_deedOf {N d sl : Nat} {sx : Nat → Int} {o0 : Option Nat} {M : ZM} {x : Int} {M' : ZM} (h : Re_deedOf N o0 M = some (x, M')) (hK : mK M = zK0 sl sx) : zLI (d + 0) tb_X6_deedOf 0 [some (vR 12 o0)] [] M x M' (zK0 sl sx) := by
  obtain ⟨I0, L0, ⟨ra0, rb0, rc0, rd0⟩, K0, c0⟩ := M
  obtain rfl : K0 = zK0 sl sx := hK
  rcases zit h with ⟨g1, h⟩ | ⟨g1, h⟩
  · obtain ⟨rfl, rfl⟩ := zrI h
    exact ⟨zR_ret 5 ((if_pos g1).trans rfl), rfl⟩
  · rcases zit h with ⟨g2, h⟩ | ⟨g2, h⟩
    · obtain ⟨rfl, rfl⟩ := zrI h
      exact ⟨zR_ret 8 ((if_neg g1).trans ((if_pos g2).trans rfl)), rfl⟩
    · rcases zit h with ⟨g3, h⟩ | ⟨g3, h⟩
      · obtain ⟨rfl, rfl⟩ := zrI h
        exact ⟨zR_ret 11 ((if_neg g1).trans ((if_neg g2).trans ((if_pos g3).trans rfl))), rfl⟩
      · rcases zit h with ⟨g4, h⟩ | ⟨g4, h⟩
        · obtain ⟨rfl, rfl⟩ := zrI h
          exact ⟨zR_ret 14 ((if_neg g1).trans ((if_neg g2).trans ((if_neg g3).trans ((if_pos g4).trans rfl)))), rfl⟩
        · rcases zit h with ⟨g5, h⟩ | ⟨g5, h⟩
          · obtain ⟨rfl, rfl⟩ := zrI h
            exact ⟨zR_ret 18 ((if_neg g1).trans ((if_neg g2).trans ((if_neg g3).trans ((if_neg g4).trans ((if_pos g5).trans rfl))))), rfl⟩
          · obtain ⟨rfl, rfl⟩ := zrI h
            exact ⟨zR_ret 17 ((if_neg g1).trans ((if_neg g2).trans ((if_neg g3).trans ((if_neg g4).trans ((if_neg g5).trans rfl))))), rfl⟩
set_option maxRecDepth 20000 in
theorem L_Re_readDayLine_93 {N d sl : Nat} {sx : Nat → Int} {a0 : Nat} {x1 : Int} {M : ZM} {x : Int} {M' : ZM} (h : Re_readDayLine_93 N a0 x1 M = some (x, M')) (hK : mK M = zK0 sl sx) : zLI (d + 3) tb_X6_readDayLine 93 [some (vR 5 (some a0)), some (vI x1)] [] M x M' (zK0 sl sx) := by
  obtain ⟨I0, L0, ⟨ra0, rb0, rc0, rd0⟩, K0, c0⟩ := M
  obtain rfl : K0 = zK0 sl sx := hK
  obtain ⟨v101, M101, f101, h⟩ := zBx h
  have q101 := L_Nu_add (d := (d + 2)) f101 rfl
  obtain ⟨I101, L101, ⟨ra101, rb101, rc101, rd101⟩, K101, c101⟩ := M101
  obtain rfl : K101 = zK0 sl sx := q101.2
  suffices w101 : zLI (d + 3) tb_X6_readDayLine 117 [some (vR 5 (some a0)), some (vI x1)] [vI v101] (I101, L101, (ra101, rb101, rc101, rd101), zK0 sl sx, c101) x M' (zK0 sl sx) from ⟨zR_call (rest := []) 14 q101.1 (fun n => rfl) w101.1, w101.2⟩
  obtain ⟨v102, M102, f102, h⟩ := zBx h
  have q102 := L_Re_passSign (d := d) f102 rfl
  obtain ⟨I102, L102, ⟨ra102, rb102, rc102, rd102⟩, K102, c102⟩ := M102
  obtain rfl : K102 = zK0 sl sx := q102.2
  suffices w102 : zLI (d + 3) tb_X6_readDayLine 124 [some (vR 5 (some a0)), some (vI x1)] [vI v102] (I102, L102, (ra102, rb102, rc102, rd102), zK0 sl sx, c102) x M' (zK0 sl sx) from ⟨zR_call (rest := []) 4 q102.1 (fun n => rfl) w102.1, w102.2⟩
  obtain ⟨rfl, rfl⟩ := zrI h
  exact ⟨zR_ret 1 (rfl), rfl⟩
set_option maxRecDepth 20000 in
theorem L_Re_readDayLine_78 {N d sl : Nat} {sx : Nat → Int} {a0 : Nat} {x1 : Int} {M : ZM} {x : Int} {M' : ZM} (h : Re_readDayLine_78 N a0 x1 M = some (x, M')) (hK : mK M = zK0 sl sx) : zLI (d + 3) tb_X6_readDayLine 78 [some (vR 5 (some a0)), some (vI x1)] [] M x M' (zK0 sl sx) := by
  obtain ⟨I0, L0, ⟨ra0, rb0, rc0, rd0⟩, K0, c0⟩ := M
  obtain rfl : K0 = zK0 sl sx := hK
  rcases zit h with ⟨g1, h⟩ | ⟨g1, h⟩
  · obtain ⟨v101, M101, f101, h⟩ := zBx h
    have q101 := L_Re_passNumber (d := d) f101 rfl
    obtain ⟨I101, L101, ⟨ra101, rb101, rc101, rd101⟩, K101, c101⟩ := M101
    obtain rfl : K101 = zK0 sl sx := q101.2
    suffices w101 : zLI (d + 3) tb_X6_readDayLine 88 [some (vR 5 (some a0)), some (vI x1)] [vI v101] (I101, L101, (ra101, rb101, rc101, rd101), zK0 sl sx, c101) x M' (zK0 sl sx) from ⟨zR_call (rest := []) 6 q101.1 (fun n => (if_pos g1).trans rfl) w101.1, w101.2⟩
    rcases zit h with ⟨g2, h⟩ | ⟨g2, h⟩
    · obtain ⟨rfl, rfl⟩ := zrI h
      exact ⟨zR_ret 3 ((if_pos g2).trans rfl), rfl⟩
    · have q := L_Re_readDayLine_93 (d := d) h rfl
      exact ⟨zR_go 1 q.1 (fun n => (if_neg g2).trans rfl), q.2⟩
  · have q := L_Re_readDayLine_93 (d := d) h rfl
    exact ⟨zR_go 2 q.1 (fun n => (if_neg g1).trans rfl), q.2⟩
set_option maxRecDepth 20000 in
theorem L_Re_readDayLine {N d sl : Nat} {sx : Nat → Int} {a0 : Nat} {M : ZM} {x : Int} {M' : ZM} (h : Re_readDayLine N a0 M = some (x, M')) (hK : mK M = zK0 sl sx) : zLI (d + 3) tb_X6_readDayLine 0 [some (vR 5 (some a0)), none] [] M x M' (zK0 sl sx) := by
  obtain ⟨I0, L0, ⟨ra0, rb0, rc0, rd0⟩, K0, c0⟩ := M
  obtain rfl : K0 = zK0 sl sx := hK
  obtain ⟨v101, M101, f101, h⟩ := zBx h
  have q101 := L_Re_deedOf (d := (d + 2)) f101 rfl
  obtain ⟨I101, L101, ⟨ra101, rb101, rc101, rd101⟩, K101, c101⟩ := M101
  obtain rfl : K101 = zK0 sl sx := q101.2
  suffices w101 : zLI (d + 3) tb_X6_readDayLine 10 [some (vR 5 (some a0)), none] [vI v101] (I101, L101, (ra101, rb101, rc101, rd101), zK0 sl sx, c101) x M' (zK0 sl sx) from ⟨zR_call (rest := []) 4 q101.1 (fun n => rfl) w101.1, w101.2⟩
  rcases zit h with ⟨g1, h⟩ | ⟨g1, h⟩
  · obtain ⟨v102, M102, f102, h⟩ := zBx h
    have q102 := L_Re_fail (d := (d + 2)) f102 rfl
    obtain ⟨I102, L102, ⟨ra102, rb102, rc102, rd102⟩, K102, c102⟩ := M102
    obtain rfl : K102 = zK0 sl sx := q102.2
    suffices w102 : zLI (d + 3) tb_X6_readDayLine 21 [some (vR 5 (some a0)), some (vI v101)] [vI v102] (I102, L102, (ra102, rb102, rc102, rd102), zK0 sl sx, c102) x M' (zK0 sl sx) from ⟨zR_call (rest := []) 7 q102.1 (fun n => (if_pos g1).trans rfl) w102.1, w102.2⟩
    obtain ⟨rfl, rfl⟩ := zrI h
    exact ⟨zR_ret 1 (rfl), rfl⟩
  · rcases zit h with ⟨g2, h⟩ | ⟨g2, h⟩
    · obtain ⟨M103, f103, h⟩ := zBvx h
      have q103 := L_Ta_pass (d := (d + 1)) f103 rfl
      obtain ⟨I103, L103, ⟨ra103, rb103, rc103, rd103⟩, K103, c103⟩ := M103
      obtain rfl : K103 = zK0 sl sx := q103.2
      suffices w103 : zLI (d + 3) tb_X6_readDayLine 47 [some (vR 5 (some a0)), some (vI v101)] [] (I103, L103, (ra103, rb103, rc103, rd103), zK0 sl sx, c103) x M' (zK0 sl sx) from ⟨zR_call (rest := []) 12 q103.1 (fun n => (if_neg g1).trans ((if_pos g2).trans rfl)) w103.1, w103.2⟩
      replace h := zWx h
      replace h := zWx h
      rcases zit h with ⟨g3, h⟩ | ⟨g3, h⟩
      · have q := L_Re_readDayLine_78 (d := d) h rfl
        exact ⟨zR_go 9 q.1 (fun n => (if_pos g3).trans rfl), q.2⟩
      · obtain ⟨v106, M106, f106, h⟩ := zBx h
        have q106 := L_Re_isTurbine (d := (d + 1)) f106 rfl
        obtain ⟨I106, L106, ⟨ra106, rb106, rc106, rd106⟩, K106, c106⟩ := M106
        obtain rfl : K106 = zK0 sl sx := q106.2
        suffices w106 : zLI (d + 3) tb_X6_readDayLine 66 [some (vR 5 (some a0)), some (vI v101)] [vI v106] (I106, L106, (ra106, rb106, rc106, rd106), zK0 sl sx, c106) x M' (zK0 sl sx) from ⟨zR_call (rest := []) 11 q106.1 (fun n => (if_neg g3).trans rfl) w106.1, w106.2⟩
        rcases zit h with ⟨g4, h⟩ | ⟨g4, h⟩
        · obtain ⟨rfl, rfl⟩ := zrI h
          exact ⟨zR_ret 3 ((if_pos g4).trans rfl), rfl⟩
        · obtain ⟨M107, f107, h⟩ := zBvx h
          have q107 := L_Ta_pass (d := (d + 1)) f107 rfl
          obtain ⟨I107, L107, ⟨ra107, rb107, rc107, rd107⟩, K107, c107⟩ := M107
          obtain rfl : K107 = zK0 sl sx := q107.2
          suffices w107 : zLI (d + 3) tb_X6_readDayLine 78 [some (vR 5 (some a0)), some (vI v101)] [] (I107, L107, (ra107, rb107, rc107, rd107), zK0 sl sx, c107) x M' (zK0 sl sx) from ⟨zR_call (rest := []) 4 q107.1 (fun n => (if_neg g4).trans rfl) w107.1, w107.2⟩
          have q := L_Re_readDayLine_78 (d := d) h rfl
          exact ⟨q.1, q.2⟩
    · obtain ⟨v108, M108, f108, h⟩ := zBx h
      have q108 := L_Re_fail (d := (d + 2)) f108 rfl
      obtain ⟨I108, L108, ⟨ra108, rb108, rc108, rd108⟩, K108, c108⟩ := M108
      obtain rfl : K108 = zK0 sl sx := q108.2
      suffices w108 : zLI (d + 3) tb_X6_readDayLine 39 [some (vR 5 (some a0)), some (vI v101)] [vI v108] (I108, L108, (ra108, rb108, rc108, rd108), zK0 sl sx, c108) x M' (zK0 sl sx) from ⟨zR_call (rest := []) 12 q108.1 (fun n => (if_neg g1).trans ((if_neg g2).trans rfl)) w108.1, w108.2⟩
      obtain ⟨rfl, rfl⟩ := zrI h
      exact ⟨zR_ret 1 (rfl), rfl⟩
set_option maxRecDepth 20000 in
theorem L_Re_readDay_62 {N d sl : Nat} {sx : Nat → Int} {a0 : Nat} {a2 : Nat} {M : ZM} {x : Int} {M' : ZM} (h : Re_readDay_62 N a0 a2 M = some (x, M')) (hK : mK M = zK0 sl sx) : zLI (d + 4) tb_X6_readDay 62 [some (vR 5 (some a0)), none, some (vR 3 (some a2)), none] [] M x M' (zK0 sl sx) := by
  obtain ⟨I0, L0, ⟨ra0, rb0, rc0, rd0⟩, K0, c0⟩ := M
  obtain rfl : K0 = zK0 sl sx := hK
  obtain ⟨M101, f101, h⟩ := zBvx h
  have q101 := L_Ta_clear (d := (d + 3)) f101 rfl
  obtain ⟨I101, L101, ⟨ra101, rb101, rc101, rd101⟩, K101, c101⟩ := M101
  obtain rfl : K101 = zK0 sl sx := q101.2
  suffices w101 : zLI (d + 4) tb_X6_readDay 69 [some (vR 5 (some a0)), none, some (vR 3 (some a2)), none] [] (I101, L101, (ra101, rb101, rc101, rd101), zK0 sl sx, c101) x M' (zK0 sl sx) from ⟨zR_call (rest := []) 3 q101.1 (fun n => rfl) w101.1, w101.2⟩
  rcases zit h with ⟨g1, h⟩ | ⟨g1, h⟩
  · obtain ⟨M102, f102, h⟩ := zBvx h
    have q102 := L_Nu_copy (d := (d + 3)) f102 rfl
    obtain ⟨I102, L102, ⟨ra102, rb102, rc102, rd102⟩, K102, c102⟩ := M102
    obtain rfl : K102 = zK0 sl sx := q102.2
    suffices w102 : zLI (d + 4) tb_X6_readDay 84 [some (vR 5 (some a0)), none, some (vR 3 (some a2)), none] [] (I102, L102, (ra102, rb102, rc102, rd102), zK0 sl sx, c102) x M' (zK0 sl sx) from ⟨zR_call (rest := []) 7 q102.1 (fun n => (if_pos g1).trans rfl) w102.1, w102.2⟩
    obtain ⟨rfl, rfl⟩ := zrI h
    exact ⟨zR_ret 3 (rfl), rfl⟩
  · obtain ⟨rfl, rfl⟩ := zrI h
    exact ⟨zR_ret 6 ((if_neg g1).trans rfl), rfl⟩
set_option maxRecDepth 20000 in
theorem L_Re_readDay_27 {N d sl : Nat} {sx : Nat → Int} : ∀ {n : Nat} {a0 : Nat} {a2 : Nat} {x3 : Int} {M : ZM} {x : Int} {M' : ZM}, Re_readDay_27 N n a0 a2 x3 M = some (x, M') → mK M = zK0 sl sx → zLI (d + 4) tb_X6_readDay 27 [some (vR 5 (some a0)), none, some (vR 3 (some a2)), some (vI x3)] [] M x M' (zK0 sl sx) := by
  intro n
  induction n with
  | zero => intros; rename_i h _; cases h
  | succ n ih =>
    intro a0 a2 x3 M x M' h hK
    obtain ⟨I0, L0, ⟨ra0, rb0, rc0, rd0⟩, K0, c0⟩ := M
    obtain rfl : K0 = zK0 sl sx := hK
    rcases zit h with ⟨g1, h⟩ | ⟨g1, h⟩
    · rcases zit h with ⟨g2, h⟩ | ⟨g2, h⟩
      · rcases zit h with ⟨g3, h⟩ | ⟨g3, h⟩
        · have q := L_Re_readDay_62 (d := d) h rfl
          exact ⟨zR_go 10 (zR_up (ls' := [some (vR 5 (some a0)), none, some (vR 3 (some a2)), some (vI x3)]) q.1 ⟨.inr rfl, .inr rfl, .inr rfl, .inl rfl, trivial⟩) (fun n => (if_pos g1).trans ((if_pos g2).trans ((if_pos g3).trans rfl))), q.2⟩
        · obtain ⟨v101, M101, f101, h⟩ := zBx h
          have q101 := L_Re_readDayLine (d := d) f101 rfl
          obtain ⟨I101, L101, ⟨ra101, rb101, rc101, rd101⟩, K101, c101⟩ := M101
          obtain rfl : K101 = zK0 sl sx := q101.2
          suffices w101 : zLI (d + 4) tb_X6_readDay 55 [some (vR 5 (some a0)), none, some (vR 3 (some a2)), some (vI x3)] [vI v101] (I101, L101, (ra101, rb101, rc101, rd101), zK0 sl sx, c101) x M' (zK0 sl sx) from ⟨zR_call (rest := []) 12 q101.1 (fun n => (if_pos g1).trans ((if_pos g2).trans ((if_neg g3).trans rfl))) w101.1, w101.2⟩
          replace h := zWx h
          have q := ih h rfl
          exact ⟨zR_go 3 q.1 (fun n => rfl), q.2⟩
      · have q := L_Re_readDay_62 (d := d) h rfl
        exact ⟨zR_go 6 (zR_up (ls' := [some (vR 5 (some a0)), none, some (vR 3 (some a2)), some (vI x3)]) q.1 ⟨.inr rfl, .inr rfl, .inr rfl, .inl rfl, trivial⟩) (fun n => (if_pos g1).trans ((if_neg g2).trans rfl)), q.2⟩
    · have q := L_Re_readDay_62 (d := d) h rfl
      exact ⟨zR_go 3 (zR_up (ls' := [some (vR 5 (some a0)), none, some (vR 3 (some a2)), some (vI x3)]) q.1 ⟨.inr rfl, .inr rfl, .inr rfl, .inl rfl, trivial⟩) (fun n => (if_neg g1).trans rfl), q.2⟩
set_option maxRecDepth 20000 in
theorem L_Re_readDay {N d sl : Nat} {sx : Nat → Int} {a0 : Nat} {a1 : Nat} {a2 : Nat} {M : ZM} {x : Int} {M' : ZM} (h : Re_readDay N a0 a1 a2 M = some (x, M')) (hK : mK M = zK0 sl sx) : zLI (d + 4) tb_X6_readDay 0 [some (vR 5 (some a0)), some (vR 4 (some a1)), some (vR 3 (some a2)), none] [] M x M' (zK0 sl sx) := by
  obtain ⟨I0, L0, ⟨ra0, rb0, rc0, rd0⟩, K0, c0⟩ := M
  obtain rfl : K0 = zK0 sl sx := hK
  replace h := zWx h
  replace h := zWx h
  replace h := zWx h
  obtain ⟨M104, f104, h⟩ := zBvx h
  have q104 := L_Ta_start (d := (d + 1)) f104 rfl
  obtain ⟨I104, L104, ⟨ra104, rb104, rc104, rd104⟩, K104, c104⟩ := M104
  obtain rfl : K104 = zK0 sl sx := q104.2
  suffices w104 : zLI (d + 4) tb_X6_readDay 25 [some (vR 5 (some a0)), some (vR 4 (some a1)), some (vR 3 (some a2)), none] [] (I104, L104, (ra104, rb104, rc104, rd104), zK0 sl sx, c104) x M' (zK0 sl sx) from ⟨zR_call (rest := []) 13 q104.1 (fun n => rfl) w104.1, w104.2⟩
  have q := L_Re_readDay_27 (d := d) h rfl
  exact ⟨zR_go 2 (zR_up (ls' := [some (vR 5 (some a0)), some (vR 4 (some a1)), some (vR 3 (some a2)), some (vI 0)]) q.1 ⟨.inr rfl, .inl rfl, .inr rfl, .inr rfl, trivial⟩) (fun n => rfl), q.2⟩
set_option maxRecDepth 20000 in
theorem L_Se_foresee_78 {N d sl : Nat} {sx : Nat → Int} {rec36 : Nat → Nat → Nat → Int → Int → Int → Int → Int → ZM → Option ZM} {rec53 : Nat → Nat → Nat → Int → Int → Int → Int → Int → Int → Int → ZM → Option ZM} (hrec36 : ∀ {a0 : Nat} {a1 : Nat} {a2 : Nat} {x3 : Int} {x4 : Int} {x5 : Int} {x6 : Int} {x7 : Int} {M : ZM} {M' : ZM}, rec36 a0 a1 a2 x3 x4 x5 x6 x7 M = some M' → mK M = zK0 sl sx → zLV (d + 3) tb_X7_foresee 36 [some (vR 6 (some a0)), some (vR 4 (some a1)), some (vR 7 (some a2)), some (vI x3), some (vI x4), some (vI x5), some (vI x6), some (vI x7), none, none, none] [] M M' (zK0 sl sx)) (hrec53 : ∀ {a0 : Nat} {a1 : Nat} {a2 : Nat} {x3 : Int} {x4 : Int} {x5 : Int} {x6 : Int} {x7 : Int} {x8 : Int} {x9 : Int} {M : ZM} {M' : ZM}, rec53 a0 a1 a2 x3 x4 x5 x6 x7 x8 x9 M = some M' → mK M = zK0 sl sx → zLV (d + 3) tb_X7_foresee 53 [some (vR 6 (some a0)), some (vR 4 (some a1)), some (vR 7 (some a2)), some (vI x3), some (vI x4), some (vI x5), some (vI x6), some (vI x7), some (vI x8), some (vI x9), none] [] M M' (zK0 sl sx)) {a0 : Nat} {a1 : Nat} {a2 : Nat} {x3 : Int} {x4 : Int} {x5 : Int} {x6 : Int} {x7 : Int} {x8 : Int} {x9 : Int} {y0 : Int} {M : ZM} {M' : ZM} (h : Se_foresee_78 N rec36 rec53 a0 a1 a2 x3 x4 x5 x6 x7 x8 x9 y0 M = some M') (hK : mK M = zK0 sl sx) : zLV (d + 3) tb_X7_foresee 78 [some (vR 6 (some a0)), some (vR 4 (some a1)), some (vR 7 (some a2)), some (vI x3), some (vI x4), some (vI x5), some (vI x6), some (vI x7), some (vI x8), some (vI x9), none] [vI y0] M M' (zK0 sl sx) := by
  obtain ⟨I0, L0, ⟨ra0, rb0, rc0, rd0⟩, K0, c0⟩ := M
  obtain rfl : K0 = zK0 sl sx := hK
  rcases zit h with ⟨g1, h⟩ | ⟨g1, h⟩
  · obtain ⟨g2, h⟩ := zIx h
    replace h := zWx h
    replace h := zWx h
    have q := hrec53 h rfl
    exact ⟨zR_go 14 (zR_up (ls' := [some (vR 6 (some a0)), some (vR 4 (some a1)), some (vR 7 (some a2)), some (vI x3), some (vI x4), some (vI x5), some (vI x6), some (vI x7), some (vI x8), some (vI (z32 (x9 + 1))), some (vI y0)]) q.1 ⟨.inr rfl, .inr rfl, .inr rfl, .inr rfl, .inr rfl, .inr rfl, .inr rfl, .inr rfl, .inr rfl, .inr rfl, .inl rfl, trivial⟩) (fun n => (if_pos g1).trans ((if_pos g2).trans rfl)), q.2⟩
  · obtain ⟨v103, M103, f103, h⟩ := zBx h
    have q103 := L_Pa_tenths (d := d) f103 rfl
    obtain ⟨I103, L103, ⟨ra103, rb103, rc103, rd103⟩, K103, c103⟩ := M103
    obtain rfl : K103 = zK0 sl sx := q103.2
    suffices w103 : zLV (d + 3) tb_X7_foresee 108 [some (vR 6 (some a0)), some (vR 4 (some a1)), some (vR 7 (some a2)), some (vI x3), some (vI x4), some (vI x5), some (vI x6), some (vI x7), some (vI x8), some (vI x9), some (vI y0)] [vI v103, vI (z32 ((z32 (x8 * 6)) + x9)), vR 34 (some a0)] (I103, L103, (ra103, rb103, rc103, rd103), zK0 sl sx, c103) M' (zK0 sl sx) from ⟨zR_call (rest := [vI (z32 ((z32 (x8 * 6)) + x9)), vR 34 (some a0)]) 16 q103.1 (fun n => (if_neg g1).trans rfl) w103.1, w103.2⟩
    obtain ⟨g3, h⟩ := zIx h
    replace h := zWx h
    replace h := zWx h
    have q := hrec53 h rfl
    exact ⟨zR_go 4 (zR_up (ls' := [some (vR 6 (some a0)), some (vR 4 (some a1)), some (vR 7 (some a2)), some (vI x3), some (vI x4), some (vI x5), some (vI x6), some (vI x7), some (vI x8), some (vI (z32 (x9 + 1))), some (vI y0)]) q.1 ⟨.inr rfl, .inr rfl, .inr rfl, .inr rfl, .inr rfl, .inr rfl, .inr rfl, .inr rfl, .inr rfl, .inr rfl, .inl rfl, trivial⟩) (fun n => (if_pos g3).trans rfl), q.2⟩
set_option maxRecDepth 20000 in
theorem L_Se_foresee_122 {N d sl : Nat} {sx : Nat → Int} {rec36 : Nat → Nat → Nat → Int → Int → Int → Int → Int → ZM → Option ZM} (hrec36 : ∀ {a0 : Nat} {a1 : Nat} {a2 : Nat} {x3 : Int} {x4 : Int} {x5 : Int} {x6 : Int} {x7 : Int} {M : ZM} {M' : ZM}, rec36 a0 a1 a2 x3 x4 x5 x6 x7 M = some M' → mK M = zK0 sl sx → zLV (d + 3) tb_X7_foresee 36 [some (vR 6 (some a0)), some (vR 4 (some a1)), some (vR 7 (some a2)), some (vI x3), some (vI x4), some (vI x5), some (vI x6), some (vI x7), none, none, none] [] M M' (zK0 sl sx)) : ∀ {n : Nat} {a0 : Nat} {a1 : Nat} {a2 : Nat} {x3 : Int} {x4 : Int} {x5 : Int} {x6 : Int} {x7 : Int} {x8 : Int} {x9 : Int} {M : ZM} {M' : ZM}, Se_foresee_122 N rec36 n a0 a1 a2 x3 x4 x5 x6 x7 x8 x9 M = some M' → mK M = zK0 sl sx → zLV (d + 3) tb_X7_foresee 122 [some (vR 6 (some a0)), some (vR 4 (some a1)), some (vR 7 (some a2)), some (vI x3), some (vI x4), some (vI x5), some (vI x6), some (vI x7), some (vI x8), some (vI x9), none] [] M M' (zK0 sl sx) := by
  intro n
  induction n with
  | zero => intros; rename_i h _; cases h
  | succ n ih =>
    intro a0 a1 a2 x3 x4 x5 x6 x7 x8 x9 M M' h hK
    obtain ⟨I0, L0, ⟨ra0, rb0, rc0, rd0⟩, K0, c0⟩ := M
    obtain rfl : K0 = zK0 sl sx := hK
    rcases zit h with ⟨g1, h⟩ | ⟨g1, h⟩
    · obtain ⟨v101, M101, f101, h⟩ := zBx h
      have q101 := L_Pa_left (d := (d + 2)) f101 rfl
      obtain ⟨I101, L101, ⟨ra101, rb101, rc101, rd101⟩, K101, c101⟩ := M101
      obtain rfl : K101 = zK0 sl sx := q101.2
      suffices w101 : zLV (d + 3) tb_X7_foresee 136 [some (vR 6 (some a0)), some (vR 4 (some a1)), some (vR 7 (some a2)), some (vI x3), some (vI x4), some (vI x5), some (vI x6), some (vI x7), some (vI x8), some (vI x9), none] [vI v101] (I101, L101, (ra101, rb101, rc101, rd101), zK0 sl sx, c101) M' (zK0 sl sx) from ⟨zR_call (rest := []) 6 q101.1 (fun n => (if_pos g1).trans rfl) w101.1, w101.2⟩
      rcases zit h with ⟨g2, h⟩ | ⟨g2, h⟩
      · obtain ⟨g3, h⟩ := zIx h
        replace h := zWx h
        replace h := zWx h
        have q := ih h rfl
        exact ⟨zR_go 14 (zR_up (ls' := [some (vR 6 (some a0)), some (vR 4 (some a1)), some (vR 7 (some a2)), some (vI x3), some (vI x4), some (vI x5), some (vI x6), some (vI x7), some (vI x8), some (vI (z32 (x9 + 1))), some (vI v101)]) q.1 ⟨.inr rfl, .inr rfl, .inr rfl, .inr rfl, .inr rfl, .inr rfl, .inr rfl, .inr rfl, .inr rfl, .inr rfl, .inl rfl, trivial⟩) (fun n => (if_pos g2).trans ((if_pos g3).trans rfl)), q.2⟩
      · obtain ⟨g4, h⟩ := zIx h
        obtain ⟨v104, M104, f104, h⟩ := zBx h
        have q104 := L_Pa_gives (d := d) f104 rfl
        obtain ⟨I104, L104, ⟨ra104, rb104, rc104, rd104⟩, K104, c104⟩ := M104
        obtain rfl : K104 = zK0 sl sx := q104.2
        suffices w104 : zLV (d + 3) tb_X7_foresee 173 [some (vR 6 (some a0)), some (vR 4 (some a1)), some (vR 7 (some a2)), some (vI x3), some (vI x4), some (vI x5), some (vI x6), some (vI x7), some (vI x8), some (vI x9), some (vI v101)] [vI v104, vI (z32 ((z32 (x8 * 10)) + x9)), vR 35 (some a0)] (I104, L104, (ra104, rb104, rc104, rd104), zK0 sl sx, c104) M' (zK0 sl sx) from ⟨zR_call (rest := [vI (z32 ((z32 (x8 * 10)) + x9)), vR 35 (some a0)]) 20 q104.1 (fun n => (if_neg g2).trans ((if_pos g4).trans rfl)) w104.1, w104.2⟩
        obtain ⟨g5, h⟩ := zIx h
        replace h := zWx h
        replace h := zWx h
        have q := ih h rfl
        exact ⟨zR_go 4 (zR_up (ls' := [some (vR 6 (some a0)), some (vR 4 (some a1)), some (vR 7 (some a2)), some (vI x3), some (vI x4), some (vI x5), some (vI x6), some (vI x7), some (vI x8), some (vI (z32 (x9 + 1))), some (vI v101)]) q.1 ⟨.inr rfl, .inr rfl, .inr rfl, .inr rfl, .inr rfl, .inr rfl, .inr rfl, .inr rfl, .inr rfl, .inr rfl, .inl rfl, trivial⟩) (fun n => (if_pos g5).trans rfl), q.2⟩
    · replace h := zWx h
      have q := hrec36 h rfl
      exact ⟨zR_go 5 (zR_up (ls' := [some (vR 6 (some a0)), some (vR 4 (some a1)), some (vR 7 (some a2)), some (vI x3), some (vI x4), some (vI x5), some (vI x6), some (vI (z32 (x7 + 1))), some (vI x8), some (vI x9), none]) q.1 ⟨.inr rfl, .inr rfl, .inr rfl, .inr rfl, .inr rfl, .inr rfl, .inr rfl, .inr rfl, .inl rfl, .inl rfl, .inr rfl, trivial⟩) (fun n => (if_neg g1).trans rfl), q.2⟩
set_option maxRecDepth 20000 in
theorem L_Se_foresee_53 {N d sl : Nat} {sx : Nat → Int} {rec36 : Nat → Nat → Nat → Int → Int → Int → Int → Int → ZM → Option ZM} (hrec36 : ∀ {a0 : Nat} {a1 : Nat} {a2 : Nat} {x3 : Int} {x4 : Int} {x5 : Int} {x6 : Int} {x7 : Int} {M : ZM} {M' : ZM}, rec36 a0 a1 a2 x3 x4 x5 x6 x7 M = some M' → mK M = zK0 sl sx → zLV (d + 3) tb_X7_foresee 36 [some (vR 6 (some a0)), some (vR 4 (some a1)), some (vR 7 (some a2)), some (vI x3), some (vI x4), some (vI x5), some (vI x6), some (vI x7), none, none, none] [] M M' (zK0 sl sx)) : ∀ {n : Nat} {a0 : Nat} {a1 : Nat} {a2 : Nat} {x3 : Int} {x4 : Int} {x5 : Int} {x6 : Int} {x7 : Int} {x8 : Int} {x9 : Int} {M : ZM} {M' : ZM}, Se_foresee_53 N rec36 n a0 a1 a2 x3 x4 x5 x6 x7 x8 x9 M = some M' → mK M = zK0 sl sx → zLV (d + 3) tb_X7_foresee 53 [some (vR 6 (some a0)), some (vR 4 (some a1)), some (vR 7 (some a2)), some (vI x3), some (vI x4), some (vI x5), some (vI x6), some (vI x7), some (vI x8), some (vI x9), none] [] M M' (zK0 sl sx) := by
  intro n
  induction n with
  | zero => intros; rename_i h _; cases h
  | succ n ih =>
    intro a0 a1 a2 x3 x4 x5 x6 x7 x8 x9 M M' h hK
    obtain ⟨I0, L0, ⟨ra0, rb0, rc0, rd0⟩, K0, c0⟩ := M
    obtain rfl : K0 = zK0 sl sx := hK
    rcases zit h with ⟨g1, h⟩ | ⟨g1, h⟩
    · rcases zit h with ⟨g2, h⟩ | ⟨g2, h⟩
      · have q := L_Se_foresee_78 (d := d) hrec36 ih h rfl
        exact ⟨zR_go 7 q.1 (fun n => (if_pos g1).trans ((if_pos g2).trans rfl)), q.2⟩
      · rcases zit h with ⟨g3, h⟩ | ⟨g3, h⟩
        · have q := L_Se_foresee_78 (d := d) hrec36 ih h rfl
          exact ⟨zR_go 10 q.1 (fun n => (if_pos g1).trans ((if_neg g2).trans ((if_pos g3).trans rfl))), q.2⟩
        · have q := L_Se_foresee_78 (d := d) hrec36 ih h rfl
          exact ⟨zR_go 11 q.1 (fun n => (if_pos g1).trans ((if_neg g2).trans ((if_neg g3).trans rfl))), q.2⟩
    · have q := L_Se_foresee_122 (d := d) hrec36 h rfl
      exact ⟨zR_go 6 q.1 (fun n => (if_neg g1).trans rfl), q.2⟩
set_option maxRecDepth 20000 in
theorem L_Se_foresee_36 {N d sl : Nat} {sx : Nat → Int} : ∀ {n : Nat} {a0 : Nat} {a1 : Nat} {a2 : Nat} {x3 : Int} {x4 : Int} {x5 : Int} {x6 : Int} {x7 : Int} {M : ZM} {M' : ZM}, Se_foresee_36 N n a0 a1 a2 x3 x4 x5 x6 x7 M = some M' → mK M = zK0 sl sx → zLV (d + 3) tb_X7_foresee 36 [some (vR 6 (some a0)), some (vR 4 (some a1)), some (vR 7 (some a2)), some (vI x3), some (vI x4), some (vI x5), some (vI x6), some (vI x7), none, none, none] [] M M' (zK0 sl sx) := by
  intro n
  induction n with
  | zero => intros; rename_i h _; cases h
  | succ n ih =>
    intro a0 a1 a2 x3 x4 x5 x6 x7 M M' h hK
    obtain ⟨I0, L0, ⟨ra0, rb0, rc0, rd0⟩, K0, c0⟩ := M
    obtain rfl : K0 = zK0 sl sx := hK
    rcases zit h with ⟨g1, h⟩ | ⟨g1, h⟩
    · replace h := zWx h
      have q := L_Se_foresee_53 (d := d) ih h rfl
      exact ⟨zR_go 11 q.1 (fun n => (if_pos g1).trans rfl), q.2⟩
    · obtain rfl := zrV h
      exact ⟨zR_ret 4 ((if_neg g1).trans rfl), rfl⟩
set_option maxRecDepth 20000 in
theorem L_Se_foresee {N d sl : Nat} {sx : Nat → Int} {a0 : Nat} {a1 : Nat} {a2 : Nat} {x3 : Int} {M : ZM} {M' : ZM} (h : Se_foresee N a0 a1 a2 x3 M = some M') (hK : mK M = zK0 sl sx) : zLV (d + 3) tb_X7_foresee 0 [some (vR 6 (some a0)), some (vR 4 (some a1)), some (vR 7 (some a2)), some (vI x3), none, none, none, none, none, none, none] [] M M' (zK0 sl sx) := by
  obtain ⟨I0, L0, ⟨ra0, rb0, rc0, rd0⟩, K0, c0⟩ := M
  obtain rfl : K0 = zK0 sl sx := hK
  obtain ⟨v101, M101, f101, h⟩ := zBx h
  have q101 := L_Nu_round (d := (d + 2)) f101 rfl
  obtain ⟨I101, L101, ⟨ra101, rb101, rc101, rd101⟩, K101, c101⟩ := M101
  obtain rfl : K101 = zK0 sl sx := q101.2
  suffices w101 : zLV (d + 3) tb_X7_foresee 11 [some (vR 6 (some a0)), some (vR 4 (some a1)), some (vR 7 (some a2)), some (vI x3), none, none, none, none, none, none, none] [vI v101] (I101, L101, (ra101, rb101, rc101, rd101), zK0 sl sx, c101) M' (zK0 sl sx) from ⟨zR_call (rest := []) 5 q101.1 (fun n => rfl) w101.1, w101.2⟩
  obtain ⟨v102, M102, f102, h⟩ := zBx h
  have q102 := L_Nu_round (d := (d + 2)) f102 rfl
  obtain ⟨I102, L102, ⟨ra102, rb102, rc102, rd102⟩, K102, c102⟩ := M102
  obtain rfl : K102 = zK0 sl sx := q102.2
  suffices w102 : zLV (d + 3) tb_X7_foresee 24 [some (vR 6 (some a0)), some (vR 4 (some a1)), some (vR 7 (some a2)), some (vI x3), some (vI v101), none, none, none, none, none, none] [vI v102] (I102, L102, (ra102, rb102, rc102, rd102), zK0 sl sx, c102) M' (zK0 sl sx) from ⟨zR_call (rest := []) 6 q102.1 (fun n => rfl) w102.1, w102.2⟩
  obtain ⟨v103, M103, f103, h⟩ := zBx h
  have q103 := L_St_runs (d := (d + 1)) f103 rfl
  obtain ⟨I103, L103, ⟨ra103, rb103, rc103, rd103⟩, K103, c103⟩ := M103
  obtain rfl : K103 = zK0 sl sx := q103.2
  suffices w103 : zLV (d + 3) tb_X7_foresee 31 [some (vR 6 (some a0)), some (vR 4 (some a1)), some (vR 7 (some a2)), some (vI x3), some (vI v101), some (vI v102), none, none, none, none, none] [vI v103] (I103, L103, (ra103, rb103, rc103, rd103), zK0 sl sx, c103) M' (zK0 sl sx) from ⟨zR_call (rest := []) 4 q103.1 (fun n => rfl) w103.1, w103.2⟩
  have q := L_Se_foresee_36 (d := d) h rfl
  exact ⟨zR_go 3 q.1 (fun n => rfl), q.2⟩
set_option maxRecDepth 20000 in
theorem L_Se_isAlike_47 {N d sl : Nat} {sx : Nat → Int} : ∀ {n : Nat} {a0 : Nat} {x1 : Int} {x2 : Int} {x4 : Int} {M : ZM} {x : Int} {M' : ZM}, Se_isAlike_47 N n a0 x1 x2 x4 M = some (x, M') → mK M = zK0 sl sx → zLI (d + 0) tb_X7_isAlike 47 [some (vR 6 (some a0)), some (vI x1), some (vI x2), none, some (vI x4)] [] M x M' (zK0 sl sx) := by
  intro n
  induction n with
  | zero => intros; rename_i h _; cases h
  | succ n ih =>
    intro a0 x1 x2 x4 M x M' h hK
    obtain ⟨I0, L0, ⟨ra0, rb0, rc0, rd0⟩, K0, c0⟩ := M
    obtain rfl : K0 = zK0 sl sx := hK
    rcases zit h with ⟨g1, h⟩ | ⟨g1, h⟩
    · obtain ⟨g2, h⟩ := zIx h
      obtain ⟨g3, h⟩ := zIx h
      rcases zit h with ⟨g4, h⟩ | ⟨g4, h⟩
      · replace h := zWx h
        have q := ih h rfl
        exact ⟨zR_go 22 q.1 (fun n => (if_pos g1).trans ((if_pos g2).trans ((if_pos g3).trans ((if_pos g4).trans rfl)))), q.2⟩
      · obtain ⟨rfl, rfl⟩ := zrI h
        exact ⟨zR_ret 22 ((if_pos g1).trans ((if_pos g2).trans ((if_pos g3).trans ((if_neg g4).trans rfl)))), rfl⟩
    · obtain ⟨rfl, rfl⟩ := zrI h
      exact ⟨zR_ret 5 ((if_neg g1).trans rfl), rfl⟩
set_option maxRecDepth 20000 in
theorem L_Se_isAlike_3 {N d sl : Nat} {sx : Nat → Int} : ∀ {n : Nat} {a0 : Nat} {x1 : Int} {x2 : Int} {x3 : Int} {x4 : Int} {M : ZM} {x : Int} {M' : ZM}, Se_isAlike_3 N n a0 x1 x2 x3 x4 M = some (x, M') → mK M = zK0 sl sx → zLI (d + 0) tb_X7_isAlike 3 [some (vR 6 (some a0)), some (vI x1), some (vI x2), some (vI x3), some (vI x4)] [] M x M' (zK0 sl sx) := by
  intro n
  induction n with
  | zero => intros; rename_i h _; cases h
  | succ n ih =>
    intro a0 x1 x2 x3 x4 M x M' h hK
    obtain ⟨I0, L0, ⟨ra0, rb0, rc0, rd0⟩, K0, c0⟩ := M
    obtain rfl : K0 = zK0 sl sx := hK
    rcases zit h with ⟨g1, h⟩ | ⟨g1, h⟩
    · obtain ⟨g2, h⟩ := zIx h
      obtain ⟨g3, h⟩ := zIx h
      rcases zit h with ⟨g4, h⟩ | ⟨g4, h⟩
      · replace h := zWx h
        have q := ih h rfl
        exact ⟨zR_go 22 q.1 (fun n => (if_pos g1).trans ((if_pos g2).trans ((if_pos g3).trans ((if_pos g4).trans rfl)))), q.2⟩
      · obtain ⟨rfl, rfl⟩ := zrI h
        exact ⟨zR_ret 22 ((if_pos g1).trans ((if_pos g2).trans ((if_pos g3).trans ((if_neg g4).trans rfl)))), rfl⟩
    · have q := L_Se_isAlike_47 (d := d) h rfl
      exact ⟨zR_go 5 (zR_up (ls' := [some (vR 6 (some a0)), some (vI x1), some (vI x2), some (vI x3), some (vI 0)]) q.1 ⟨.inr rfl, .inr rfl, .inr rfl, .inl rfl, .inr rfl, trivial⟩) (fun n => (if_neg g1).trans rfl), q.2⟩
set_option maxRecDepth 20000 in
theorem L_Se_isAlike {N d sl : Nat} {sx : Nat → Int} {a0 : Nat} {x1 : Int} {x2 : Int} {x3 : Int} {M : ZM} {x : Int} {M' : ZM} (h : Se_isAlike N a0 x1 x2 x3 M = some (x, M')) (hK : mK M = zK0 sl sx) : zLI (d + 0) tb_X7_isAlike 0 [some (vR 6 (some a0)), some (vI x1), some (vI x2), some (vI x3), none] [] M x M' (zK0 sl sx) := by
  obtain ⟨I0, L0, ⟨ra0, rb0, rc0, rd0⟩, K0, c0⟩ := M
  obtain rfl : K0 = zK0 sl sx := hK
  have q := L_Se_isAlike_3 (d := d) h rfl
  exact ⟨zR_go 2 q.1 (fun n => rfl), q.2⟩
set_option maxRecDepth 20000 in
theorem L_Se_isNew_3 {N d sl : Nat} {sx : Nat → Int} : ∀ {n : Nat} {a0 : Nat} {x1 : Int} {x2 : Int} {x3 : Int} {x4 : Int} {M : ZM} {x : Int} {M' : ZM}, Se_isNew_3 N n a0 x1 x2 x3 x4 M = some (x, M') → mK M = zK0 sl sx → zLI (d + 1) tb_X7_isNew 3 [some (vR 6 (some a0)), some (vI x1), some (vI x2), some (vI x3), some (vI x4)] [] M x M' (zK0 sl sx) := by
  intro n
  induction n with
  | zero => intros; rename_i h _; cases h
  | succ n ih =>
    intro a0 x1 x2 x3 x4 M x M' h hK
    obtain ⟨I0, L0, ⟨ra0, rb0, rc0, rd0⟩, K0, c0⟩ := M
    obtain rfl : K0 = zK0 sl sx := hK
    rcases zit h with ⟨g1, h⟩ | ⟨g1, h⟩
    · obtain ⟨v101, M101, f101, h⟩ := zBx h
      have q101 := L_Se_isAlike (d := d) f101 rfl
      obtain ⟨I101, L101, ⟨ra101, rb101, rc101, rd101⟩, K101, c101⟩ := M101
      obtain rfl : K101 = zK0 sl sx := q101.2
      suffices w101 : zLI (d + 1) tb_X7_isNew 25 [some (vR 6 (some a0)), some (vI x1), some (vI x2), some (vI x3), some (vI x4)] [vI v101] (I101, L101, (ra101, rb101, rc101, rd101), zK0 sl sx, c101) x M' (zK0 sl sx) from ⟨zR_call (rest := []) 16 q101.1 (fun n => (if_pos g1).trans rfl) w101.1, w101.2⟩
      rcases zit h with ⟨g2, h⟩ | ⟨g2, h⟩
      · replace h := zWx h
        have q := ih h rfl
        exact ⟨zR_go 3 q.1 (fun n => (if_pos g2).trans rfl), q.2⟩
      · obtain ⟨rfl, rfl⟩ := zrI h
        exact ⟨zR_ret 3 ((if_neg g2).trans rfl), rfl⟩
    · obtain ⟨rfl, rfl⟩ := zrI h
      exact ⟨zR_ret 5 ((if_neg g1).trans rfl), rfl⟩
set_option maxRecDepth 20000 in
theorem L_Se_isNew {N d sl : Nat} {sx : Nat → Int} {a0 : Nat} {x1 : Int} {x2 : Int} {x3 : Int} {M : ZM} {x : Int} {M' : ZM} (h : Se_isNew N a0 x1 x2 x3 M = some (x, M')) (hK : mK M = zK0 sl sx) : zLI (d + 1) tb_X7_isNew 0 [some (vR 6 (some a0)), some (vI x1), some (vI x2), some (vI x3), none] [] M x M' (zK0 sl sx) := by
  obtain ⟨I0, L0, ⟨ra0, rb0, rc0, rd0⟩, K0, c0⟩ := M
  obtain rfl : K0 = zK0 sl sx := hK
  have q := L_Se_isNew_3 (d := d) h rfl
  exact ⟨zR_go 2 q.1 (fun n => rfl), q.2⟩
set_option maxRecDepth 20000 in
theorem L_Se_listTries_46 {N d sl : Nat} {sx : Nat → Int} {rec15 : Nat → Int → Int → Int → Int → Int → ZM → Option ZM} (hrec15 : ∀ {a0 : Nat} {x1 : Int} {x2 : Int} {x3 : Int} {x4 : Int} {x5 : Int} {M : ZM} {M' : ZM}, rec15 a0 x1 x2 x3 x4 x5 M = some M' → mK M = zK0 sl sx → zLV (d + 2) tb_X7_listTries 15 [some (vR 6 (some a0)), some (vI x1), some (vI x2), some (vI x3), some (vI x4), some (vI x5)] [] M M' (zK0 sl sx)) {a0 : Nat} {x1 : Int} {x2 : Int} {x3 : Int} {x4 : Int} {x5 : Int} {M : ZM} {M' : ZM} (h : Se_listTries_46 N rec15 a0 x1 x2 x3 x4 x5 M = some M') (hK : mK M = zK0 sl sx) : zLV (d + 2) tb_X7_listTries 46 [some (vR 6 (some a0)), some (vI x1), some (vI x2), some (vI x3), some (vI x4), some (vI x5)] [] M M' (zK0 sl sx) := by
  obtain ⟨I0, L0, ⟨ra0, rb0, rc0, rd0⟩, K0, c0⟩ := M
  obtain rfl : K0 = zK0 sl sx := hK
  obtain ⟨g1, h⟩ := zIx h
  obtain ⟨g2, h⟩ := zIx h
  replace h := zWx h
  obtain ⟨g3, h⟩ := zIx h
  obtain ⟨g4, h⟩ := zIx h
  replace h := zWx h
  replace h := zWx h
  have q := hrec15 h rfl
  exact ⟨zR_go 20 q.1 (fun n => (if_pos g1).trans ((if_pos g2).trans ((if_pos g3).trans ((if_pos g4).trans rfl)))), q.2⟩
set_option maxRecDepth 20000 in
theorem L_Se_listTries_15 {N d sl : Nat} {sx : Nat → Int} : ∀ {n : Nat} {a0 : Nat} {x1 : Int} {x2 : Int} {x3 : Int} {x4 : Int} {x5 : Int} {M : ZM} {M' : ZM}, Se_listTries_15 N n a0 x1 x2 x3 x4 x5 M = some M' → mK M = zK0 sl sx → zLV (d + 2) tb_X7_listTries 15 [some (vR 6 (some a0)), some (vI x1), some (vI x2), some (vI x3), some (vI x4), some (vI x5)] [] M M' (zK0 sl sx) := by
  intro n
  induction n with
  | zero => intros; rename_i h _; cases h
  | succ n ih =>
    intro a0 x1 x2 x3 x4 x5 M M' h hK
    obtain ⟨I0, L0, ⟨ra0, rb0, rc0, rd0⟩, K0, c0⟩ := M
    obtain rfl : K0 = zK0 sl sx := hK
    rcases zit h with ⟨g1, h⟩ | ⟨g1, h⟩
    · rcases zit h with ⟨g2, h⟩ | ⟨g2, h⟩
      · obtain ⟨v101, M101, f101, h⟩ := zBx h
        have q101 := L_Se_isNew (d := d) f101 rfl
        obtain ⟨I101, L101, ⟨ra101, rb101, rc101, rd101⟩, K101, c101⟩ := M101
        obtain rfl : K101 = zK0 sl sx := q101.2
        suffices w101 : zLV (d + 2) tb_X7_listTries 34 [some (vR 6 (some a0)), some (vI x1), some (vI x2), some (vI x3), some (vI x4), some (vI x5)] [vI v101] (I101, L101, (ra101, rb101, rc101, rd101), zK0 sl sx, c101) M' (zK0 sl sx) from ⟨zR_call (rest := []) 11 q101.1 (fun n => (if_pos g1).trans ((if_pos g2).trans rfl)) w101.1, w101.2⟩
        rcases zit h with ⟨g3, h⟩ | ⟨g3, h⟩
        · replace h := zWx h
          have q := ih h rfl
          exact ⟨zR_go 3 q.1 (fun n => (if_pos g3).trans rfl), q.2⟩
        · have q := L_Se_listTries_46 (d := d) ih h rfl
          exact ⟨zR_go 2 q.1 (fun n => (if_neg g3).trans rfl), q.2⟩
      · rcases zit h with ⟨g4, h⟩ | ⟨g4, h⟩
        · have q := L_Se_listTries_46 (d := d) ih h rfl
          exact ⟨zR_go 9 q.1 (fun n => (if_pos g1).trans ((if_neg g2).trans ((if_pos g4).trans rfl))), q.2⟩
        · replace h := zWx h
          have q := ih h rfl
          exact ⟨zR_go 11 q.1 (fun n => (if_pos g1).trans ((if_neg g2).trans ((if_neg g4).trans rfl))), q.2⟩
    · obtain rfl := zrV h
      exact ⟨zR_ret 4 ((if_neg g1).trans rfl), rfl⟩
set_option maxRecDepth 20000 in
theorem L_Se_listTries {N d sl : Nat} {sx : Nat → Int} {a0 : Nat} {x1 : Int} {x2 : Int} {x3 : Int} {M : ZM} {M' : ZM} (h : Se_listTries N a0 x1 x2 x3 M = some M') (hK : mK M = zK0 sl sx) : zLV (d + 2) tb_X7_listTries 0 [some (vR 6 (some a0)), some (vI x1), some (vI x2), some (vI x3), none, none] [] M M' (zK0 sl sx) := by
  obtain ⟨I0, L0, ⟨ra0, rb0, rc0, rd0⟩, K0, c0⟩ := M
  obtain rfl : K0 = zK0 sl sx := hK
  replace h := zWx h
  obtain ⟨g1, h⟩ := zIx h
  replace h := zWx h
  have q := L_Se_listTries_15 (d := d) h rfl
  exact ⟨zR_go 11 q.1 (fun n => (if_pos g1).trans rfl), q.2⟩
set_option maxRecDepth 20000 in
theorem L_Se_angleOf {N d sl : Nat} {sx : Nat → Int} {a0 : Nat} {x1 : Int} {M : ZM} {x : Int} {M' : ZM} (h : Se_angleOf N a0 x1 M = some (x, M')) (hK : mK M = zK0 sl sx) : zLI (d + 0) tb_X7_angleOf 0 [some (vR 6 (some a0)), some (vI x1)] [] M x M' (zK0 sl sx) := by
  obtain ⟨I0, L0, ⟨ra0, rb0, rc0, rd0⟩, K0, c0⟩ := M
  obtain rfl : K0 = zK0 sl sx := hK
  obtain ⟨g1, h⟩ := zIx h
  obtain ⟨g2, h⟩ := zIx h
  obtain ⟨rfl, rfl⟩ := zrI h
  exact ⟨zR_ret 12 ((if_pos g1).trans ((if_pos g2).trans rfl)), rfl⟩
set_option maxRecDepth 20000 in
theorem L_Se_keepRow_2 {N d sl : Nat} {sx : Nat → Int} : ∀ {n : Nat} {a0 : Nat} {x1 : Int} {x2 : Int} {M : ZM} {M' : ZM}, Se_keepRow_2 N n a0 x1 x2 M = some M' → mK M = zK0 sl sx → zLV (d + 1) tb_X7_keepRow 2 [some (vR 6 (some a0)), some (vI x1), some (vI x2)] [] M M' (zK0 sl sx) := by
  intro n
  induction n with
  | zero => intros; rename_i h _; cases h
  | succ n ih =>
    intro a0 x1 x2 M M' h hK
    obtain ⟨I0, L0, ⟨ra0, rb0, rc0, rd0⟩, K0, c0⟩ := M
    obtain rfl : K0 = zK0 sl sx := hK
    rcases zit h with ⟨g1, h⟩ | ⟨g1, h⟩
    · obtain ⟨v101, M101, f101, h⟩ := zBx h
      have q101 := L_Se_angleOf (d := d) f101 rfl
      obtain ⟨I101, L101, ⟨ra101, rb101, rc101, rd101⟩, K101, c101⟩ := M101
      obtain rfl : K101 = zK0 sl sx := q101.2
      suffices w101 : zLV (d + 1) tb_X7_keepRow 17 [some (vR 6 (some a0)), some (vI x1), some (vI x2)] [vI v101, vI x2, vR 33 (some a0)] (I101, L101, (ra101, rb101, rc101, rd101), zK0 sl sx, c101) M' (zK0 sl sx) from ⟨zR_call (rest := [vI x2, vR 33 (some a0)]) 9 q101.1 (fun n => (if_pos g1).trans rfl) w101.1, w101.2⟩
      obtain ⟨g2, h⟩ := zIx h
      replace h := zWx h
      replace h := zWx h
      have q := ih h rfl
      exact ⟨zR_go 3 q.1 (fun n => (if_pos g2).trans rfl), q.2⟩
    · obtain rfl := zrV h
      exact ⟨zR_ret 4 ((if_neg g1).trans rfl), rfl⟩
set_option maxRecDepth 20000 in
theorem L_Se_keepRow {N d sl : Nat} {sx : Nat → Int} {a0 : Nat} {x1 : Int} {M : ZM} {M' : ZM} (h : Se_keepRow N a0 x1 M = some M') (hK : mK M = zK0 sl sx) : zLV (d + 1) tb_X7_keepRow 0 [some (vR 6 (some a0)), some (vI x1), none] [] M M' (zK0 sl sx) := by
  obtain ⟨I0, L0, ⟨ra0, rb0, rc0, rd0⟩, K0, c0⟩ := M
  obtain rfl : K0 = zK0 sl sx := hK
  have q := L_Se_keepRow_2 (d := d) h rfl
  exact ⟨zR_go 2 q.1 (fun n => rfl), q.2⟩
set_option maxRecDepth 20000 in
theorem L_Se_next_4 {N d sl : Nat} {sx : Nat → Int} : ∀ {n : Nat} {a0 : Nat} {x2 : Int} {M : ZM} {x : Int} {M' : ZM}, Se_next_4 N n a0 x2 M = some (x, M') → mK M = zK0 sl sx → zLI (d + 0) tb_X7_next 4 [some (vR 6 (some a0)), none, some (vI x2)] [] M x M' (zK0 sl sx) := by
  intro n
  induction n with
  | zero => intros; rename_i h _; cases h
  | succ n ih =>
    intro a0 x2 M x M' h hK
    obtain ⟨I0, L0, ⟨ra0, rb0, rc0, rd0⟩, K0, c0⟩ := M
    obtain rfl : K0 = zK0 sl sx := hK
    rcases zit h with ⟨g1, h⟩ | ⟨g1, h⟩
    · obtain ⟨rfl, rfl⟩ := zrI h
      exact ⟨zR_ret 4 ((if_pos g1).trans rfl), rfl⟩
    · obtain ⟨g2, h⟩ := zIx h
      obtain ⟨g3, h⟩ := zIx h
      rcases zit h with ⟨g4, h⟩ | ⟨g4, h⟩
      · obtain ⟨g5, h⟩ := zIx h
        obtain ⟨g6, h⟩ := zIx h
        replace h := zWx h
        obtain ⟨rfl, rfl⟩ := zrI h
        exact ⟨zR_ret 23 ((if_neg g1).trans ((if_pos g2).trans ((if_pos g3).trans ((if_pos g4).trans ((if_pos g5).trans ((if_pos g6).trans rfl)))))), rfl⟩
      · obtain ⟨g7, h⟩ := zIx h
        replace h := zWx h
        replace h := zWx h
        have q := ih h rfl
        exact ⟨zR_go 20 q.1 (fun n => (if_neg g1).trans ((if_pos g2).trans ((if_pos g3).trans ((if_neg g4).trans ((if_pos g7).trans rfl))))), q.2⟩
set_option maxRecDepth 20000 in
theorem L_Se_next {N d sl : Nat} {sx : Nat → Int} {a0 : Nat} {x1 : Int} {M : ZM} {x : Int} {M' : ZM} (h : Se_next N a0 x1 M = some (x, M')) (hK : mK M = zK0 sl sx) : zLI (d + 0) tb_X7_next 0 [some (vR 6 (some a0)), some (vI x1), none] [] M x M' (zK0 sl sx) := by
  obtain ⟨I0, L0, ⟨ra0, rb0, rc0, rd0⟩, K0, c0⟩ := M
  obtain rfl : K0 = zK0 sl sx := hK
  replace h := zWx h
  have q := L_Se_next_4 (d := d) h rfl
  exact ⟨zR_go 4 (zR_up (ls' := [some (vR 6 (some a0)), some (vI x1), some (vI (z32 (x1 - 1)))]) q.1 ⟨.inr rfl, .inl rfl, .inr rfl, trivial⟩) (fun n => rfl), q.2⟩
set_option maxRecDepth 20000 in
theorem L_Se_addFrom_24 {N d sl : Nat} {sx : Nat → Int} {rec2 : Nat → Int → Int → ZM → Option ZM} (hrec2 : ∀ {a0 : Nat} {x2 : Int} {x3 : Int} {M : ZM} {M' : ZM}, rec2 a0 x2 x3 M = some M' → mK M = zK0 sl sx → zLV (d + 1) tb_X7_addFrom 2 [some (vR 6 (some a0)), none, some (vI x2), some (vI x3), none, none] [] M M' (zK0 sl sx)) : ∀ {n : Nat} {a0 : Nat} {x2 : Int} {x3 : Int} {x4 : Int} {x5 : Int} {M : ZM} {M' : ZM}, Se_addFrom_24 N rec2 n a0 x2 x3 x4 x5 M = some M' → mK M = zK0 sl sx → zLV (d + 1) tb_X7_addFrom 24 [some (vR 6 (some a0)), none, some (vI x2), some (vI x3), some (vI x4), some (vI x5)] [] M M' (zK0 sl sx) := by
  intro n
  induction n with
  | zero => intros; rename_i h _; cases h
  | succ n ih =>
    intro a0 x2 x3 x4 x5 M M' h hK
    obtain ⟨I0, L0, ⟨ra0, rb0, rc0, rd0⟩, K0, c0⟩ := M
    obtain rfl : K0 = zK0 sl sx := hK
    rcases zit h with ⟨g1, h⟩ | ⟨g1, h⟩
    · obtain ⟨g2, h⟩ := zIx h
      obtain ⟨g3, h⟩ := zIx h
      obtain ⟨g4, h⟩ := zIx h
      replace h := zWx h
      replace h := zWx h
      have q := ih h rfl
      exact ⟨zR_go 30 q.1 (fun n => (if_pos g1).trans ((if_pos g2).trans ((if_pos g3).trans ((if_pos g4).trans rfl)))), q.2⟩
    · replace h := zWx h
      have q := hrec2 h rfl
      exact ⟨zR_go 5 (zR_up (ls' := [some (vR 6 (some a0)), none, some (vI x2), some (vI (z32 (x3 + 1))), some (vI x4), some (vI x5)]) q.1 ⟨.inr rfl, .inr rfl, .inr rfl, .inr rfl, .inl rfl, .inl rfl, trivial⟩) (fun n => (if_neg g1).trans rfl), q.2⟩
set_option maxRecDepth 20000 in
theorem L_Se_addFrom_2 {N d sl : Nat} {sx : Nat → Int} : ∀ {n : Nat} {a0 : Nat} {x2 : Int} {x3 : Int} {M : ZM} {M' : ZM}, Se_addFrom_2 N n a0 x2 x3 M = some M' → mK M = zK0 sl sx → zLV (d + 1) tb_X7_addFrom 2 [some (vR 6 (some a0)), none, some (vI x2), some (vI x3), none, none] [] M M' (zK0 sl sx) := by
  intro n
  induction n with
  | zero => intros; rename_i h _; cases h
  | succ n ih =>
    intro a0 x2 x3 M M' h hK
    obtain ⟨I0, L0, ⟨ra0, rb0, rc0, rd0⟩, K0, c0⟩ := M
    obtain rfl : K0 = zK0 sl sx := hK
    rcases zit h with ⟨g1, h⟩ | ⟨g1, h⟩
    · obtain ⟨v101, M101, f101, h⟩ := zBx h
      have q101 := L_Se_angleOf (d := d) f101 rfl
      obtain ⟨I101, L101, ⟨ra101, rb101, rc101, rd101⟩, K101, c101⟩ := M101
      obtain rfl : K101 = zK0 sl sx := q101.2
      suffices w101 : zLV (d + 1) tb_X7_addFrom 15 [some (vR 6 (some a0)), none, some (vI x2), some (vI x3), none, none] [vI v101, vI (z32 (x3 * 5))] (I101, L101, (ra101, rb101, rc101, rd101), zK0 sl sx, c101) M' (zK0 sl sx) from ⟨zR_call (rest := [vI (z32 (x3 * 5))]) 9 q101.1 (fun n => (if_pos g1).trans rfl) w101.1, w101.2⟩
      replace h := zWx h
      have q := L_Se_addFrom_24 (d := d) ih h rfl
      exact ⟨zR_go 6 q.1 (fun n => rfl), q.2⟩
    · obtain rfl := zrV h
      exact ⟨zR_ret 4 ((if_neg g1).trans rfl), rfl⟩
set_option maxRecDepth 20000 in
theorem L_Se_addFrom {N d sl : Nat} {sx : Nat → Int} {a0 : Nat} {x1 : Int} {x2 : Int} {M : ZM} {M' : ZM} (h : Se_addFrom N a0 x1 x2 M = some M') (hK : mK M = zK0 sl sx) : zLV (d + 1) tb_X7_addFrom 0 [some (vR 6 (some a0)), some (vI x1), some (vI x2), none, none, none] [] M M' (zK0 sl sx) := by
  obtain ⟨I0, L0, ⟨ra0, rb0, rc0, rd0⟩, K0, c0⟩ := M
  obtain rfl : K0 = zK0 sl sx := hK
  have q := L_Se_addFrom_2 (d := d) h rfl
  exact ⟨zR_go 2 (zR_up (ls' := [some (vR 6 (some a0)), some (vI x1), some (vI x2), some (vI x1), none, none]) q.1 ⟨.inr rfl, .inl rfl, .inr rfl, .inr rfl, .inr rfl, .inr rfl, trivial⟩) (fun n => rfl), q.2⟩
set_option maxRecDepth 20000 in
theorem L_Se_giftOf {N d sl : Nat} {sx : Nat → Int} {a0 : Nat} {a1 : Nat} {x2 : Int} {M : ZM} {x : Int} {M' : ZM} (h : Se_giftOf N a0 a1 x2 M = some (x, M')) (hK : mK M = zK0 sl sx) : zLI (d + 1) tb_X7_giftOf 0 [some (vR 6 (some a0)), some (vR 4 (some a1)), some (vI x2), none] [] M x M' (zK0 sl sx) := by
  obtain ⟨I0, L0, ⟨ra0, rb0, rc0, rd0⟩, K0, c0⟩ := M
  obtain rfl : K0 = zK0 sl sx := hK
  obtain ⟨g1, h⟩ := zIx h
  obtain ⟨v101, M101, f101, h⟩ := zBx h
  have q101 := L_Pa_takenOf (d := d) f101 rfl
  obtain ⟨I101, L101, ⟨ra101, rb101, rc101, rd101⟩, K101, c101⟩ := M101
  obtain rfl : K101 = zK0 sl sx := q101.2
  suffices w101 : zLI (d + 1) tb_X7_giftOf 19 [some (vR 6 (some a0)), some (vR 4 (some a1)), some (vI x2), none] [vI v101] (I101, L101, (ra101, rb101, rc101, rd101), zK0 sl sx, c101) x M' (zK0 sl sx) from ⟨zR_call (rest := []) 12 q101.1 (fun n => (if_pos g1).trans rfl) w101.1, w101.2⟩
  obtain ⟨v102, M102, f102, h⟩ := zBx h
  have q102 := L_Se_angleOf (d := d) f102 rfl
  obtain ⟨I102, L102, ⟨ra102, rb102, rc102, rd102⟩, K102, c102⟩ := M102
  obtain rfl : K102 = zK0 sl sx := q102.2
  suffices w102 : zLI (d + 1) tb_X7_giftOf 32 [some (vR 6 (some a0)), some (vR 4 (some a1)), some (vI x2), some (vI v101)] [vI v102, vI (z32 (x2 * 5)), vR 35 (some a0)] (I102, L102, (ra102, rb102, rc102, rd102), zK0 sl sx, c102) x M' (zK0 sl sx) from ⟨zR_call (rest := [vI (z32 (x2 * 5)), vR 35 (some a0)]) 9 q102.1 (fun n => rfl) w102.1, w102.2⟩
  obtain ⟨g2, h⟩ := zIx h
  obtain ⟨rfl, rfl⟩ := zrI h
  exact ⟨zR_ret 7 ((if_pos g2).trans rfl), rfl⟩
set_option maxRecDepth 20000 in
theorem L_Se_sale_3 {N d sl : Nat} {sx : Nat → Int} : ∀ {n : Nat} {a0 : Nat} {a1 : Nat} {a2 : Nat} {x3 : Int} {x4 : Int} {M : ZM} {x : Int} {M' : ZM}, Se_sale_3 N n a0 a1 a2 x3 x4 M = some (x, M') → mK M = zK0 sl sx → zLI (d + 2) tb_X7_sale 3 [some (vR 6 (some a0)), some (vR 4 (some a1)), some (vR 0 (some a2)), some (vI x3), some (vI x4)] [] M x M' (zK0 sl sx) := by
  intro n
  induction n with
  | zero => intros; rename_i h _; cases h
  | succ n ih =>
    intro a0 a1 a2 x3 x4 M x M' h hK
    obtain ⟨I0, L0, ⟨ra0, rb0, rc0, rd0⟩, K0, c0⟩ := M
    obtain rfl : K0 = zK0 sl sx := hK
    rcases zit h with ⟨g1, h⟩ | ⟨g1, h⟩
    · obtain ⟨v101, M101, f101, h⟩ := zBx h
      have q101 := L_Se_giftOf (d := d) f101 rfl
      obtain ⟨I101, L101, ⟨ra101, rb101, rc101, rd101⟩, K101, c101⟩ := M101
      obtain rfl : K101 = zK0 sl sx := q101.2
      suffices w101 : zLI (d + 2) tb_X7_sale 25 [some (vR 6 (some a0)), some (vR 4 (some a1)), some (vR 0 (some a2)), some (vI x3), some (vI x4)] [vI v101, vI x4, vR 22 (some a2)] (I101, L101, (ra101, rb101, rc101, rd101), zK0 sl sx, c101) x M' (zK0 sl sx) from ⟨zR_call (rest := [vI x4, vR 22 (some a2)]) 11 q101.1 (fun n => (if_pos g1).trans rfl) w101.1, w101.2⟩
      obtain ⟨g2, h⟩ := zIx h
      replace h := zWx h
      replace h := zWx h
      have q := ih h rfl
      exact ⟨zR_go 3 q.1 (fun n => (if_pos g2).trans rfl), q.2⟩
    · obtain ⟨M104, f104, h⟩ := zBvx h
      have q104 := L_Fl_bring (d := d) f104 rfl
      obtain ⟨I104, L104, ⟨ra104, rb104, rc104, rd104⟩, K104, c104⟩ := M104
      obtain rfl : K104 = zK0 sl sx := q104.2
      suffices w104 : zLI (d + 2) tb_X7_sale 38 [some (vR 6 (some a0)), some (vR 4 (some a1)), some (vR 0 (some a2)), some (vI x3), some (vI x4)] [] (I104, L104, (ra104, rb104, rc104, rd104), zK0 sl sx, c104) x M' (zK0 sl sx) from ⟨zR_call (rest := []) 8 q104.1 (fun n => (if_neg g1).trans rfl) w104.1, w104.2⟩
      obtain ⟨rfl, rfl⟩ := zrI h
      exact ⟨zR_ret 5 (rfl), rfl⟩
set_option maxRecDepth 20000 in
theorem L_Se_sale {N d sl : Nat} {sx : Nat → Int} {a0 : Nat} {a1 : Nat} {a2 : Nat} {x3 : Int} {M : ZM} {x : Int} {M' : ZM} (h : Se_sale N a0 a1 a2 x3 M = some (x, M')) (hK : mK M = zK0 sl sx) : zLI (d + 2) tb_X7_sale 0 [some (vR 6 (some a0)), some (vR 4 (some a1)), some (vR 0 (some a2)), some (vI x3), none] [] M x M' (zK0 sl sx) := by
  obtain ⟨I0, L0, ⟨ra0, rb0, rc0, rd0⟩, K0, c0⟩ := M
  obtain rfl : K0 = zK0 sl sx := hK
  have q := L_Se_sale_3 (d := d) h rfl
  exact ⟨zR_go 2 q.1 (fun n => rfl), q.2⟩
set_option maxRecDepth 20000 in
theorem L_Se_share_5 {N d sl : Nat} {sx : Nat → Int} : ∀ {n : Nat} {a0 : Nat} {a1 : Nat} {x2 : Int} {x3 : Int} {x4 : Int} {M : ZM} {x : Int} {M' : ZM}, Se_share_5 N n a0 a1 x2 x3 x4 M = some (x, M') → mK M = zK0 sl sx → zLI (d + 2) tb_X7_share 5 [some (vR 6 (some a0)), some (vR 4 (some a1)), some (vI x2), some (vI x3), some (vI x4)] [] M x M' (zK0 sl sx) := by
  intro n
  induction n with
  | zero => intros; rename_i h _; cases h
  | succ n ih =>
    intro a0 a1 x2 x3 x4 M x M' h hK
    obtain ⟨I0, L0, ⟨ra0, rb0, rc0, rd0⟩, K0, c0⟩ := M
    obtain rfl : K0 = zK0 sl sx := hK
    rcases zit h with ⟨g1, h⟩ | ⟨g1, h⟩
    · obtain ⟨g2, h⟩ := zIx h
      rcases zit h with ⟨g3, h⟩ | ⟨g3, h⟩
      · obtain ⟨v101, M101, f101, h⟩ := zBx h
        have q101 := L_Se_giftOf (d := d) f101 rfl
        obtain ⟨I101, L101, ⟨ra101, rb101, rc101, rd101⟩, K101, c101⟩ := M101
        obtain rfl : K101 = zK0 sl sx := q101.2
        suffices w101 : zLI (d + 2) tb_X7_share 33 [some (vR 6 (some a0)), some (vR 4 (some a1)), some (vI x2), some (vI x3), some (vI x4)] [vI v101, vI x3] (I101, L101, (ra101, rb101, rc101, rd101), zK0 sl sx, c101) x M' (zK0 sl sx) from ⟨zR_call (rest := [vI x3]) 15 q101.1 (fun n => (if_pos g1).trans ((if_pos g2).trans ((if_pos g3).trans rfl))) w101.1, w101.2⟩
        replace h := zWx h
        replace h := zWx h
        have q := ih h rfl
        exact ⟨zR_go 4 q.1 (fun n => rfl), q.2⟩
      · replace h := zWx h
        have q := ih h rfl
        exact ⟨zR_go 12 q.1 (fun n => (if_pos g1).trans ((if_pos g2).trans ((if_neg g3).trans rfl))), q.2⟩
    · obtain ⟨rfl, rfl⟩ := zrI h
      exact ⟨zR_ret 6 ((if_neg g1).trans rfl), rfl⟩
set_option maxRecDepth 20000 in
theorem L_Se_share {N d sl : Nat} {sx : Nat → Int} {a0 : Nat} {a1 : Nat} {x2 : Int} {M : ZM} {x : Int} {M' : ZM} (h : Se_share N a0 a1 x2 M = some (x, M')) (hK : mK M = zK0 sl sx) : zLI (d + 2) tb_X7_share 0 [some (vR 6 (some a0)), some (vR 4 (some a1)), some (vI x2), none, none] [] M x M' (zK0 sl sx) := by
  obtain ⟨I0, L0, ⟨ra0, rb0, rc0, rd0⟩, K0, c0⟩ := M
  obtain rfl : K0 = zK0 sl sx := hK
  have q := L_Se_share_5 (d := d) h rfl
  exact ⟨zR_go 4 q.1 (fun n => rfl), q.2⟩
set_option maxRecDepth 20000 in
theorem L_Se_seek_67 {N d sl : Nat} {sx : Nat → Int} {rec3 : Nat → Nat → Nat → Nat → Int → Int → ZM → Option ZM} (hrec3 : ∀ {a0 : Nat} {a1 : Nat} {a2 : Nat} {a3 : Nat} {x4 : Int} {x5 : Int} {M : ZM} {M' : ZM}, rec3 a0 a1 a2 a3 x4 x5 M = some M' → mK M = zK0 sl sx → zLV (d + 4) tb_X7_seek 3 [some (vR 6 (some a0)), some (vR 4 (some a1)), some (vR 7 (some a2)), some (vR 0 (some a3)), some (vI x4), some (vI x5), none, none, none] [] M M' (zK0 sl sx)) {a0 : Nat} {a1 : Nat} {a2 : Nat} {a3 : Nat} {x4 : Int} {x5 : Int} {b0 : Nat} {y1 : Int} {y2 : Int} {y3 : Int} {M : ZM} {M' : ZM} (h : Se_seek_67 N rec3 a0 a1 a2 a3 x4 x5 b0 y1 y2 y3 M = some M') (hK : mK M = zK0 sl sx) : zLV (d + 4) tb_X7_seek 67 [some (vR 6 (some a0)), some (vR 4 (some a1)), some (vR 7 (some a2)), some (vR 0 (some a3)), some (vI x4), some (vI x5), none, none, none] [vI y3, vI y2, vI y1, vR 6 (some b0)] M M' (zK0 sl sx) := by
  obtain ⟨I0, L0, ⟨ra0, rb0, rc0, rd0⟩, K0, c0⟩ := M
  obtain rfl : K0 = zK0 sl sx := hK
  obtain ⟨M101, f101, h⟩ := zBvx h
  have q101 := L_Se_listTries (d := (d + 1)) f101 rfl
  obtain ⟨I101, L101, ⟨ra101, rb101, rc101, rd101⟩, K101, c101⟩ := M101
  obtain rfl : K101 = zK0 sl sx := q101.2
  suffices w101 : zLV (d + 4) tb_X7_seek 70 [some (vR 6 (some a0)), some (vR 4 (some a1)), some (vR 7 (some a2)), some (vR 0 (some a3)), some (vI x4), some (vI x5), none, none, none] [] (I101, L101, (ra101, rb101, rc101, rd101), zK0 sl sx, c101) M' (zK0 sl sx) from ⟨zR_call (rest := []) 1 q101.1 (fun n => rfl) w101.1, w101.2⟩
  obtain ⟨g1, h⟩ := zIx h
  replace h := zWx h
  replace h := zWx h
  have q := hrec3 h rfl
  exact ⟨zR_go 7 q.1 (fun n => (if_pos g1).trans rfl), q.2⟩
set_option maxRecDepth 20000 in
theorem L_Se_seek_42 {N d sl : Nat} {sx : Nat → Int} {rec3 : Nat → Nat → Nat → Nat → Int → Int → ZM → Option ZM} (hrec3 : ∀ {a0 : Nat} {a1 : Nat} {a2 : Nat} {a3 : Nat} {x4 : Int} {x5 : Int} {M : ZM} {M' : ZM}, rec3 a0 a1 a2 a3 x4 x5 M = some M' → mK M = zK0 sl sx → zLV (d + 4) tb_X7_seek 3 [some (vR 6 (some a0)), some (vR 4 (some a1)), some (vR 7 (some a2)), some (vR 0 (some a3)), some (vI x4), some (vI x5), none, none, none] [] M M' (zK0 sl sx)) {a0 : Nat} {a1 : Nat} {a2 : Nat} {a3 : Nat} {x4 : Int} {x5 : Int} {y0 : Int} {M : ZM} {M' : ZM} (h : Se_seek_42 N rec3 a0 a1 a2 a3 x4 x5 y0 M = some M') (hK : mK M = zK0 sl sx) : zLV (d + 4) tb_X7_seek 42 [some (vR 6 (some a0)), some (vR 4 (some a1)), some (vR 7 (some a2)), some (vR 0 (some a3)), some (vI x4), some (vI x5), none, none, none] [vI y0] M M' (zK0 sl sx) := by
  obtain ⟨I0, L0, ⟨ra0, rb0, rc0, rd0⟩, K0, c0⟩ := M
  obtain rfl : K0 = zK0 sl sx := hK
  rcases zit h with ⟨g1, h⟩ | ⟨g1, h⟩
  · obtain ⟨g2, h⟩ := zIx h
    have q := L_Se_seek_67 (d := d) hrec3 h rfl
    exact ⟨zR_go 11 (zR_up (ls' := [some (vR 6 (some a0)), some (vR 4 (some a1)), some (vR 7 (some a2)), some (vR 0 (some a3)), some (vI x4), some (vI x5), some (vI y0), none, none]) q.1 ⟨.inr rfl, .inr rfl, .inr rfl, .inr rfl, .inr rfl, .inr rfl, .inl rfl, .inr rfl, .inr rfl, trivial⟩) (fun n => (if_pos g1).trans ((if_pos g2).trans rfl)), q.2⟩
  · have q := L_Se_seek_67 (d := d) hrec3 h rfl
    exact ⟨zR_go 9 (zR_up (ls' := [some (vR 6 (some a0)), some (vR 4 (some a1)), some (vR 7 (some a2)), some (vR 0 (some a3)), some (vI x4), some (vI x5), some (vI y0), none, none]) q.1 ⟨.inr rfl, .inr rfl, .inr rfl, .inr rfl, .inr rfl, .inr rfl, .inl rfl, .inr rfl, .inr rfl, trivial⟩) (fun n => (if_neg g1).trans rfl), q.2⟩
set_option maxRecDepth 20000 in
theorem L_Se_seek_167 {N d sl : Nat} {sx : Nat → Int} {rec106 : Nat → Nat → Nat → Int → Int → Int → ZM → Option ZM} (hrec106 : ∀ {a0 : Nat} {a1 : Nat} {a3 : Nat} {x4 : Int} {x5 : Int} {x6 : Int} {M : ZM} {M' : ZM}, rec106 a0 a1 a3 x4 x5 x6 M = some M' → mK M = zK0 sl sx → zLV (d + 4) tb_X7_seek 106 [some (vR 6 (some a0)), some (vR 4 (some a1)), none, some (vR 0 (some a3)), some (vI x4), some (vI x5), some (vI x6), none, none] [] M M' (zK0 sl sx)) {a0 : Nat} {a1 : Nat} {a3 : Nat} {x4 : Int} {x5 : Int} {x6 : Int} {M : ZM} {M' : ZM} (h : Se_seek_167 N rec106 a0 a1 a3 x4 x5 x6 M = some M') (hK : mK M = zK0 sl sx) : zLV (d + 4) tb_X7_seek 167 [some (vR 6 (some a0)), some (vR 4 (some a1)), none, some (vR 0 (some a3)), some (vI x4), some (vI x5), some (vI x6), none, none] [] M M' (zK0 sl sx) := by
  obtain ⟨I0, L0, ⟨ra0, rb0, rc0, rd0⟩, K0, c0⟩ := M
  obtain rfl : K0 = zK0 sl sx := hK
  obtain ⟨v101, M101, f101, h⟩ := zBx h
  have q101 := L_Se_next (d := (d + 3)) f101 rfl
  obtain ⟨I101, L101, ⟨ra101, rb101, rc101, rd101⟩, K101, c101⟩ := M101
  obtain rfl : K101 = zK0 sl sx := q101.2
  suffices w101 : zLV (d + 4) tb_X7_seek 175 [some (vR 6 (some a0)), some (vR 4 (some a1)), none, some (vR 0 (some a3)), some (vI x4), some (vI x5), some (vI x6), none, none] [vI v101] (I101, L101, (ra101, rb101, rc101, rd101), zK0 sl sx, c101) M' (zK0 sl sx) from ⟨zR_call (rest := []) 4 q101.1 (fun n => rfl) w101.1, w101.2⟩
  rcases zit h with ⟨g1, h⟩ | ⟨g1, h⟩
  · obtain rfl := zrV h
    exact ⟨zR_ret 4 ((if_pos g1).trans rfl), rfl⟩
  · obtain ⟨M102, f102, h⟩ := zBvx h
    have q102 := L_Se_addFrom (d := (d + 2)) f102 rfl
    obtain ⟨I102, L102, ⟨ra102, rb102, rc102, rd102⟩, K102, c102⟩ := M102
    obtain rfl : K102 = zK0 sl sx := q102.2
    suffices w102 : zLV (d + 4) tb_X7_seek 193 [some (vR 6 (some a0)), some (vR 4 (some a1)), none, some (vR 0 (some a3)), some (vI x4), some (vI x5), some (vI x6), none, some (vI v101)] [] (I102, L102, (ra102, rb102, rc102, rd102), zK0 sl sx, c102) M' (zK0 sl sx) from ⟨zR_call (rest := []) 8 q102.1 (fun n => (if_neg g1).trans rfl) w102.1, w102.2⟩
    replace h := zWx h
    have q := hrec106 h rfl
    exact ⟨zR_go 2 (zR_up (ls' := [some (vR 6 (some a0)), some (vR 4 (some a1)), none, some (vR 0 (some a3)), some (vI x4), some (vI x5), some (vI (z32 (x6 + 1))), none, some (vI v101)]) q.1 ⟨.inr rfl, .inr rfl, .inr rfl, .inr rfl, .inr rfl, .inr rfl, .inr rfl, .inr rfl, .inl rfl, trivial⟩) (fun n => rfl), q.2⟩
set_option maxRecDepth 20000 in
theorem L_Se_seek_153 {N d sl : Nat} {sx : Nat → Int} {rec106 : Nat → Nat → Nat → Int → Int → Int → ZM → Option ZM} (hrec106 : ∀ {a0 : Nat} {a1 : Nat} {a3 : Nat} {x4 : Int} {x5 : Int} {x6 : Int} {M : ZM} {M' : ZM}, rec106 a0 a1 a3 x4 x5 x6 M = some M' → mK M = zK0 sl sx → zLV (d + 4) tb_X7_seek 106 [some (vR 6 (some a0)), some (vR 4 (some a1)), none, some (vR 0 (some a3)), some (vI x4), some (vI x5), some (vI x6), none, none] [] M M' (zK0 sl sx)) {a0 : Nat} {a1 : Nat} {a3 : Nat} {x4 : Int} {x5 : Int} {x6 : Int} {x7 : Int} {M : ZM} {M' : ZM} (h : Se_seek_153 N rec106 a0 a1 a3 x4 x5 x6 x7 M = some M') (hK : mK M = zK0 sl sx) : zLV (d + 4) tb_X7_seek 153 [some (vR 6 (some a0)), some (vR 4 (some a1)), none, some (vR 0 (some a3)), some (vI x4), some (vI x5), some (vI x6), some (vI x7), none] [] M M' (zK0 sl sx) := by
  obtain ⟨I0, L0, ⟨ra0, rb0, rc0, rd0⟩, K0, c0⟩ := M
  obtain rfl : K0 = zK0 sl sx := hK
  replace h := zWx h
  obtain ⟨M102, f102, h⟩ := zBvx h
  have q102 := L_Se_keepRow (d := (d + 2)) f102 rfl
  obtain ⟨I102, L102, ⟨ra102, rb102, rc102, rd102⟩, K102, c102⟩ := M102
  obtain rfl : K102 = zK0 sl sx := q102.2
  suffices w102 : zLV (d + 4) tb_X7_seek 167 [some (vR 6 (some a0)), some (vR 4 (some a1)), none, some (vR 0 (some a3)), some (vI x4), some (vI x5), some (vI x6), some (vI x7), none] [] (I102, L102, (ra102, rb102, rc102, rd102), zK0 sl sx, c102) M' (zK0 sl sx) from ⟨zR_call (rest := []) 7 q102.1 (fun n => rfl) w102.1, w102.2⟩
  have q := L_Se_seek_167 (d := d) hrec106 h rfl
  exact ⟨(zR_up (ls' := [some (vR 6 (some a0)), some (vR 4 (some a1)), none, some (vR 0 (some a3)), some (vI x4), some (vI x5), some (vI x6), some (vI x7), none]) q.1 ⟨.inr rfl, .inr rfl, .inr rfl, .inr rfl, .inr rfl, .inr rfl, .inr rfl, .inl rfl, .inr rfl, trivial⟩), q.2⟩
set_option maxRecDepth 20000 in
theorem L_Se_seek_137 {N d sl : Nat} {sx : Nat → Int} {rec106 : Nat → Nat → Nat → Int → Int → Int → ZM → Option ZM} (hrec106 : ∀ {a0 : Nat} {a1 : Nat} {a3 : Nat} {x4 : Int} {x5 : Int} {x6 : Int} {M : ZM} {M' : ZM}, rec106 a0 a1 a3 x4 x5 x6 M = some M' → mK M = zK0 sl sx → zLV (d + 4) tb_X7_seek 106 [some (vR 6 (some a0)), some (vR 4 (some a1)), none, some (vR 0 (some a3)), some (vI x4), some (vI x5), some (vI x6), none, none] [] M M' (zK0 sl sx)) {a0 : Nat} {a1 : Nat} {a3 : Nat} {x4 : Int} {x5 : Int} {x6 : Int} {y0 : Int} {M : ZM} {M' : ZM} (h : Se_seek_137 N rec106 a0 a1 a3 x4 x5 x6 y0 M = some M') (hK : mK M = zK0 sl sx) : zLV (d + 4) tb_X7_seek 137 [some (vR 6 (some a0)), some (vR 4 (some a1)), none, some (vR 0 (some a3)), some (vI x4), some (vI x5), some (vI x6), none, none] [vI y0] M M' (zK0 sl sx) := by
  obtain ⟨I0, L0, ⟨ra0, rb0, rc0, rd0⟩, K0, c0⟩ := M
  obtain rfl : K0 = zK0 sl sx := hK
  rcases zit h with ⟨g1, h⟩ | ⟨g1, h⟩
  · have q := L_Se_seek_153 (d := d) hrec106 h rfl
    exact ⟨zR_go 3 q.1 (fun n => (if_pos g1).trans rfl), q.2⟩
  · rcases zit h with ⟨g2, h⟩ | ⟨g2, h⟩
    · have q := L_Se_seek_153 (d := d) hrec106 h rfl
      exact ⟨zR_go 7 q.1 (fun n => (if_neg g1).trans ((if_pos g2).trans rfl)), q.2⟩
    · have q := L_Se_seek_167 (d := d) hrec106 h rfl
      exact ⟨zR_go 7 (zR_up (ls' := [some (vR 6 (some a0)), some (vR 4 (some a1)), none, some (vR 0 (some a3)), some (vI x4), some (vI x5), some (vI x6), some (vI y0), none]) q.1 ⟨.inr rfl, .inr rfl, .inr rfl, .inr rfl, .inr rfl, .inr rfl, .inr rfl, .inl rfl, .inr rfl, trivial⟩) (fun n => (if_neg g1).trans ((if_neg g2).trans rfl)), q.2⟩
set_option maxRecDepth 20000 in
theorem L_Se_seek_106 {N d sl : Nat} {sx : Nat → Int} : ∀ {n : Nat} {a0 : Nat} {a1 : Nat} {a3 : Nat} {x4 : Int} {x5 : Int} {x6 : Int} {M : ZM} {M' : ZM}, Se_seek_106 N n a0 a1 a3 x4 x5 x6 M = some M' → mK M = zK0 sl sx → zLV (d + 4) tb_X7_seek 106 [some (vR 6 (some a0)), some (vR 4 (some a1)), none, some (vR 0 (some a3)), some (vI x4), some (vI x5), some (vI x6), none, none] [] M M' (zK0 sl sx) := by
  intro n
  induction n with
  | zero => intros; rename_i h _; cases h
  | succ n ih =>
    intro a0 a1 a3 x4 x5 x6 M M' h hK
    obtain ⟨I0, L0, ⟨ra0, rb0, rc0, rd0⟩, K0, c0⟩ := M
    obtain rfl : K0 = zK0 sl sx := hK
    rcases zit h with ⟨g1, h⟩ | ⟨g1, h⟩
    · rcases zit h with ⟨g2, h⟩ | ⟨g2, h⟩
      · obtain ⟨v101, M101, f101, h⟩ := zBx h
        have q101 := L_Se_sale (d := (d + 1)) f101 rfl
        obtain ⟨I101, L101, ⟨ra101, rb101, rc101, rd101⟩, K101, c101⟩ := M101
        obtain rfl : K101 = zK0 sl sx := q101.2
        suffices w101 : zLV (d + 4) tb_X7_seek 127 [some (vR 6 (some a0)), some (vR 4 (some a1)), none, some (vR 0 (some a3)), some (vI x4), some (vI x5), some (vI x6), none, none] [vI v101] (I101, L101, (ra101, rb101, rc101, rd101), zK0 sl sx, c101) M' (zK0 sl sx) from ⟨zR_call (rest := []) 10 q101.1 (fun n => (if_pos g1).trans ((if_pos g2).trans rfl)) w101.1, w101.2⟩
        have q := L_Se_seek_137 (d := d) ih h rfl
        exact ⟨zR_go 1 q.1 (fun n => rfl), q.2⟩
      · obtain ⟨v102, M102, f102, h⟩ := zBx h
        have q102 := L_Se_share (d := (d + 1)) f102 rfl
        obtain ⟨I102, L102, ⟨ra102, rb102, rc102, rd102⟩, K102, c102⟩ := M102
        obtain rfl : K102 = zK0 sl sx := q102.2
        suffices w102 : zLV (d + 4) tb_X7_seek 137 [some (vR 6 (some a0)), some (vR 4 (some a1)), none, some (vR 0 (some a3)), some (vI x4), some (vI x5), some (vI x6), none, none] [vI v102] (I102, L102, (ra102, rb102, rc102, rd102), zK0 sl sx, c102) M' (zK0 sl sx) from ⟨zR_call (rest := []) 9 q102.1 (fun n => (if_pos g1).trans ((if_neg g2).trans rfl)) w102.1, w102.2⟩
        have q := L_Se_seek_137 (d := d) ih h rfl
        exact ⟨q.1, q.2⟩
    · obtain rfl := zrV h
      exact ⟨zR_ret 4 ((if_neg g1).trans rfl), rfl⟩
set_option maxRecDepth 20000 in
theorem L_Se_seek_3 {N d sl : Nat} {sx : Nat → Int} : ∀ {n : Nat} {a0 : Nat} {a1 : Nat} {a2 : Nat} {a3 : Nat} {x4 : Int} {x5 : Int} {M : ZM} {M' : ZM}, Se_seek_3 N n a0 a1 a2 a3 x4 x5 M = some M' → mK M = zK0 sl sx → zLV (d + 4) tb_X7_seek 3 [some (vR 6 (some a0)), some (vR 4 (some a1)), some (vR 7 (some a2)), some (vR 0 (some a3)), some (vI x4), some (vI x5), none, none, none] [] M M' (zK0 sl sx) := by
  intro n
  induction n with
  | zero => intros; rename_i h _; cases h
  | succ n ih =>
    intro a0 a1 a2 a3 x4 x5 M M' h hK
    obtain ⟨I0, L0, ⟨ra0, rb0, rc0, rd0⟩, K0, c0⟩ := M
    obtain rfl : K0 = zK0 sl sx := hK
    rcases zit h with ⟨g1, h⟩ | ⟨g1, h⟩
    · obtain ⟨M101, f101, h⟩ := zBvx h
      have q101 := L_Se_foresee (d := d) f101 rfl
      obtain ⟨I101, L101, ⟨ra101, rb101, rc101, rd101⟩, K101, c101⟩ := M101
      obtain rfl : K101 = zK0 sl sx := q101.2
      suffices w101 : zLV (d + 4) tb_X7_seek 20 [some (vR 6 (some a0)), some (vR 4 (some a1)), some (vR 7 (some a2)), some (vR 0 (some a3)), some (vI x4), some (vI x5), none, none, none] [] (I101, L101, (ra101, rb101, rc101, rd101), zK0 sl sx, c101) M' (zK0 sl sx) from ⟨zR_call (rest := []) 9 q101.1 (fun n => (if_pos g1).trans rfl) w101.1, w101.2⟩
      rcases zit h with ⟨g2, h⟩ | ⟨g2, h⟩
      · have q := L_Se_seek_42 (d := d) ih h rfl
        exact ⟨zR_go 4 q.1 (fun n => (if_pos g2).trans rfl), q.2⟩
      · obtain ⟨g3, h⟩ := zIx h
        rcases zit h with ⟨g4, h⟩ | ⟨g4, h⟩
        · have q := L_Se_seek_42 (d := d) ih h rfl
          exact ⟨zR_go 10 q.1 (fun n => (if_neg g2).trans ((if_pos g3).trans ((if_pos g4).trans rfl))), q.2⟩
        · have q := L_Se_seek_42 (d := d) ih h rfl
          exact ⟨zR_go 9 q.1 (fun n => (if_neg g2).trans ((if_pos g3).trans ((if_neg g4).trans rfl))), q.2⟩
    · obtain ⟨M102, f102, h⟩ := zBvx h
      have q102 := L_Se_addFrom (d := (d + 2)) f102 rfl
      obtain ⟨I102, L102, ⟨ra102, rb102, rc102, rd102⟩, K102, c102⟩ := M102
      obtain rfl : K102 = zK0 sl sx := q102.2
      suffices w102 : zLV (d + 4) tb_X7_seek 93 [some (vR 6 (some a0)), some (vR 4 (some a1)), some (vR 7 (some a2)), some (vR 0 (some a3)), some (vI x4), some (vI x5), none, none, none] [] (I102, L102, (ra102, rb102, rc102, rd102), zK0 sl sx, c102) M' (zK0 sl sx) from ⟨zR_call (rest := []) 9 q102.1 (fun n => (if_neg g1).trans rfl) w102.1, w102.2⟩
      obtain ⟨v103, M103, f103, h⟩ := zBx h
      have q103 := L_Pa_priceAt (d := (d + 2)) f103 rfl
      obtain ⟨I103, L103, ⟨ra103, rb103, rc103, rd103⟩, K103, c103⟩ := M103
      obtain rfl : K103 = zK0 sl sx := q103.2
      suffices w103 : zLV (d + 4) tb_X7_seek 101 [some (vR 6 (some a0)), some (vR 4 (some a1)), some (vR 7 (some a2)), some (vR 0 (some a3)), some (vI x4), some (vI x5), none, none, none] [vI v103] (I103, L103, (ra103, rb103, rc103, rd103), zK0 sl sx, c103) M' (zK0 sl sx) from ⟨zR_call (rest := []) 4 q103.1 (fun n => rfl) w103.1, w103.2⟩
      have q := L_Se_seek_106 (d := d) h rfl
      exact ⟨zR_go 3 (zR_up (ls' := [some (vR 6 (some a0)), some (vR 4 (some a1)), some (vR 7 (some a2)), some (vR 0 (some a3)), some (vI x4), some (vI v103), some (vI 0), none, none]) q.1 ⟨.inr rfl, .inr rfl, .inl rfl, .inr rfl, .inr rfl, .inr rfl, .inr rfl, .inr rfl, .inr rfl, trivial⟩) (fun n => rfl), q.2⟩
set_option maxRecDepth 20000 in
theorem L_Se_seek {N d sl : Nat} {sx : Nat → Int} {a0 : Nat} {a1 : Nat} {a2 : Nat} {a3 : Nat} {x4 : Int} {M : ZM} {M' : ZM} (h : Se_seek N a0 a1 a2 a3 x4 M = some M') (hK : mK M = zK0 sl sx) : zLV (d + 4) tb_X7_seek 0 [some (vR 6 (some a0)), some (vR 4 (some a1)), some (vR 7 (some a2)), some (vR 0 (some a3)), some (vI x4), none, none, none, none] [] M M' (zK0 sl sx) := by
  obtain ⟨I0, L0, ⟨ra0, rb0, rc0, rd0⟩, K0, c0⟩ := M
  obtain rfl : K0 = zK0 sl sx := hK
  have q := L_Se_seek_3 (d := d) h rfl
  exact ⟨zR_go 2 q.1 (fun n => rfl), q.2⟩
set_option maxRecDepth 20000 in
theorem L_St_everyone {N d sl : Nat} {sx : Nat → Int} {a0 : Nat} {a1 : Nat} {M : ZM} {x : Int} {M' : ZM} (h : St_everyone N a0 a1 M = some (x, M')) (hK : mK M = zK0 sl sx) : zLI (d + 0) tb_X8_everyone 0 [some (vR 7 (some a0)), some (vR 4 (some a1))] [] M x M' (zK0 sl sx) := by
  obtain ⟨I0, L0, ⟨ra0, rb0, rc0, rd0⟩, K0, c0⟩ := M
  obtain rfl : K0 = zK0 sl sx := hK
  obtain ⟨rfl, rfl⟩ := zrI h
  exact ⟨zR_ret 7 (rfl), rfl⟩
set_option maxRecDepth 20000 in
theorem L_St_begin {N d sl : Nat} {sx : Nat → Int} {a0 : Nat} {a1 : Nat} {M : ZM} {M' : ZM} (h : St_begin N a0 a1 M = some M') (hK : mK M = zK0 sl sx) : zLV (d + 1) tb_X8_begin 0 [some (vR 7 (some a0)), some (vR 4 (some a1))] [] M M' (zK0 sl sx) := by
  obtain ⟨I0, L0, ⟨ra0, rb0, rc0, rd0⟩, K0, c0⟩ := M
  obtain rfl : K0 = zK0 sl sx := hK
  obtain ⟨M101, f101, h⟩ := zBvx h
  have q101 := L_Ar_fill_40 (d := d) f101 rfl
  obtain ⟨I101, L101, ⟨ra101, rb101, rc101, rd101⟩, K101, c101⟩ := M101
  obtain rfl : K101 = zK0 sl sx := q101.2
  suffices w101 : zLV (d + 1) tb_X8_begin 8 [some (vR 7 (some a0)), some (vR 4 (some a1))] [] (I101, L101, (ra101, rb101, rc101, rd101), zK0 sl sx, c101) M' (zK0 sl sx) from ⟨zR_call (rest := []) 4 q101.1 (fun n => rfl) w101.1, w101.2⟩
  obtain ⟨M102, f102, h⟩ := zBvx h
  have q102 := L_Ar_fill_41 (d := d) f102 rfl
  obtain ⟨I102, L102, ⟨ra102, rb102, rc102, rd102⟩, K102, c102⟩ := M102
  obtain rfl : K102 = zK0 sl sx := q102.2
  suffices w102 : zLV (d + 1) tb_X8_begin 16 [some (vR 7 (some a0)), some (vR 4 (some a1))] [] (I102, L102, (ra102, rb102, rc102, rd102), zK0 sl sx, c102) M' (zK0 sl sx) from ⟨zR_call (rest := []) 4 q102.1 (fun n => rfl) w102.1, w102.2⟩
  obtain ⟨v103, M103, f103, h⟩ := zBx h
  have q103 := L_St_everyone (d := d) f103 rfl
  obtain ⟨I103, L103, ⟨ra103, rb103, rc103, rd103⟩, K103, c103⟩ := M103
  obtain rfl : K103 = zK0 sl sx := q103.2
  suffices w103 : zLV (d + 1) tb_X8_begin 22 [some (vR 7 (some a0)), some (vR 4 (some a1))] [vI v103, vR 7 (some a0)] (I103, L103, (ra103, rb103, rc103, rd103), zK0 sl sx, c103) M' (zK0 sl sx) from ⟨zR_call (rest := [vR 7 (some a0)]) 4 q103.1 (fun n => rfl) w103.1, w103.2⟩
  replace h := zWx h
  replace h := zWx h
  replace h := zWx h
  replace h := zWx h
  obtain rfl := zrV h
  exact ⟨zR_ret 11 (rfl), rfl⟩
