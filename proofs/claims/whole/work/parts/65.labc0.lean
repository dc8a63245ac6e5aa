set_option maxRecDepth 20000 in
theorem L_Nu_add {N d sl : Nat} {sx : Nat → Int} {a0 : Nat} {x1 : Int} {M : ZM} {x : Int} {M' : ZM} (h : Nu_add N a0 x1 M = some (x, M')) (hK : mK M = zK0 sl sx) : zLI (d + 0) tb_X4_add 0 [some (vR 3 (some a0)), some (vI x1)] [] M x M' (zK0 sl sx) := by
  obtain ⟨I0, L0, ⟨ra0, rb0, rc0, rd0⟩, K0, c0⟩ := M
  obtain rfl : K0 = zK0 sl sx := hK
  rcases zit h with ⟨g1, h⟩ | ⟨g1, h⟩
  · obtain ⟨g2, h⟩ := zIx h
    replace h := zWx h
    replace h := zWx h
    obtain ⟨rfl, rfl⟩ := zrI h
    exact ⟨zR_ret 20 ((if_pos g1).trans ((if_pos g2).trans rfl)), rfl⟩
  · obtain ⟨rfl, rfl⟩ := zrI h
    exact ⟨zR_ret 8 ((if_neg g1).trans rfl), rfl⟩
set_option maxRecDepth 20000 in
theorem L_Re_fail {N d sl : Nat} {sx : Nat → Int} {a0 : Nat} {x1 : Int} {M : ZM} {x : Int} {M' : ZM} (h : Re_fail N a0 x1 M = some (x, M')) (hK : mK M = zK0 sl sx) : zLI (d + 0) tb_X6_fail 0 [some (vR 5 (some a0)), some (vI x1)] [] M x M' (zK0 sl sx) := by
  obtain ⟨I0, L0, ⟨ra0, rb0, rc0, rd0⟩, K0, c0⟩ := M
  obtain rfl : K0 = zK0 sl sx := hK
  replace h := zWx h
  obtain ⟨rfl, rfl⟩ := zrI h
  exact ⟨zR_ret 11 (rfl), rfl⟩
set_option maxRecDepth 20000 in
theorem L_Ta_takeWord_92 {N d sl : Nat} {sx : Nat → Int} : ∀ {n : Nat} {a0 : Nat} {x3 : Int} {M : ZM} {M' : ZM}, Ta_takeWord_92 N n a0 x3 M = some M' → mK M = zK0 sl sx → zLV (d + 0) tb_X9_takeWord 92 [some (vR 8 (some a0)), none, none, some (vI x3)] [] M M' (zK0 sl sx) := by
  intro n
  induction n with
  | zero => intros; rename_i h _; cases h
  | succ n ih =>
    intro a0 x3 M M' h hK
    obtain ⟨I0, L0, ⟨ra0, rb0, rc0, rd0⟩, K0, c0⟩ := M
    obtain rfl : K0 = zK0 sl sx := hK
    rcases zit h with ⟨g1, h⟩ | ⟨g1, h⟩
    · rcases zNx h with ⟨g2, h⟩ | ⟨w101, g2, h⟩
      · obtain rfl : rd0 = none := g2
        rcases zit h with ⟨g3, h⟩ | ⟨g3, h⟩
        · obtain ⟨g4, h⟩ := zIx h
          rcases zit h with ⟨g5, h⟩ | ⟨g5, h⟩
          · obtain ⟨g6, h⟩ := zIx h
            replace h := zWx h
            replace h := zWx h
            have q := ih h rfl
            exact ⟨zR_go 27 q.1 (fun n => (if_pos g1).trans ((if_pos g3).trans ((if_pos g4).trans ((if_pos g5).trans ((if_pos g6).trans rfl))))), q.2⟩
          · replace h := zWx h
            replace h := zWx h
            have q := ih h rfl
            exact ⟨zR_go 24 q.1 (fun n => (if_pos g1).trans ((if_pos g3).trans ((if_pos g4).trans ((if_neg g5).trans rfl)))), q.2⟩
        · obtain rfl := zrV h
          exact ⟨zR_ret 12 ((if_pos g1).trans ((if_neg g3).trans rfl)), rfl⟩
      · obtain rfl : rd0 = some w101 := g2
        obtain rfl := zrV h
        exact ⟨zR_ret 8 ((if_pos g1).trans rfl), rfl⟩
    · obtain rfl := zrV h
      exact ⟨zR_ret 5 ((if_neg g1).trans rfl), rfl⟩
set_option maxRecDepth 20000 in
theorem L_Ta_takeWord_68 {N d sl : Nat} {sx : Nat → Int} {a0 : Nat} {x1 : Int} {x2 : Int} {M : ZM} {M' : ZM} (h : Ta_takeWord_68 N a0 x1 x2 M = some M') (hK : mK M = zK0 sl sx) : zLV (d + 0) tb_X9_takeWord 68 [some (vR 8 (some a0)), some (vI x1), some (vI x2), none] [] M M' (zK0 sl sx) := by
  obtain ⟨I0, L0, ⟨ra0, rb0, rc0, rd0⟩, K0, c0⟩ := M
  obtain rfl : K0 = zK0 sl sx := hK
  rcases zit h with ⟨g1, h⟩ | ⟨g1, h⟩
  · replace h := zWx h
    replace h := zWx h
    have q := L_Ta_takeWord_92 (d := d) h rfl
    exact ⟨zR_go 13 (zR_up (ls' := [some (vR 8 (some a0)), some (vI x1), some (vI x2), some (vI 0)]) q.1 ⟨.inr rfl, .inl rfl, .inl rfl, .inr rfl, trivial⟩) (fun n => (if_pos g1).trans rfl), q.2⟩
  · replace h := zWx h
    replace h := zWx h
    have q := L_Ta_takeWord_92 (d := d) h rfl
    exact ⟨zR_go 14 (zR_up (ls' := [some (vR 8 (some a0)), some (vI x1), some (vI x2), some (vI 0)]) q.1 ⟨.inr rfl, .inl rfl, .inl rfl, .inr rfl, trivial⟩) (fun n => (if_neg g1).trans rfl), q.2⟩
set_option maxRecDepth 20000 in
theorem L_Ta_takeWord_7 {N d sl : Nat} {sx : Nat → Int} : ∀ {n : Nat} {a0 : Nat} {x1 : Int} {x2 : Int} {M : ZM} {M' : ZM}, Ta_takeWord_7 N n a0 x1 x2 M = some M' → mK M = zK0 sl sx → zLV (d + 0) tb_X9_takeWord 7 [some (vR 8 (some a0)), some (vI x1), some (vI x2), none] [] M M' (zK0 sl sx) := by
  intro n
  induction n with
  | zero => intros; rename_i h _; cases h
  | succ n ih =>
    intro a0 x1 x2 M M' h hK
    obtain ⟨I0, L0, ⟨ra0, rb0, rc0, rd0⟩, K0, c0⟩ := M
    obtain rfl : K0 = zK0 sl sx := hK
    rcases zit h with ⟨g1, h⟩ | ⟨g1, h⟩
    · obtain ⟨g2, h⟩ := zIx h
      rcases zit h with ⟨g3, h⟩ | ⟨g3, h⟩
      · have q := L_Ta_takeWord_68 (d := d) h rfl
        exact ⟨zR_go 10 q.1 (fun n => (if_pos g1).trans ((if_pos g2).trans ((if_pos g3).trans rfl))), q.2⟩
      · obtain ⟨g4, h⟩ := zIx h
        rcases zit h with ⟨g5, h⟩ | ⟨g5, h⟩
        · have q := L_Ta_takeWord_68 (d := d) h rfl
          exact ⟨zR_go 16 q.1 (fun n => (if_pos g1).trans ((if_pos g2).trans ((if_neg g3).trans ((if_pos g4).trans ((if_pos g5).trans rfl))))), q.2⟩
        · obtain ⟨g6, h⟩ := zIx h
          replace h := zWx h
          replace h := zWx h
          have q := ih h rfl
          exact ⟨zR_go 34 q.1 (fun n => (if_pos g1).trans ((if_pos g2).trans ((if_neg g3).trans ((if_pos g4).trans ((if_neg g5).trans ((if_pos g6).trans rfl)))))), q.2⟩
    · have q := L_Ta_takeWord_68 (d := d) h rfl
      exact ⟨zR_go 4 q.1 (fun n => (if_neg g1).trans rfl), q.2⟩
set_option maxRecDepth 20000 in
theorem L_Ta_takeWord {N d sl : Nat} {sx : Nat → Int} {a0 : Nat} {x1 : Int} {M : ZM} {M' : ZM} (h : Ta_takeWord N a0 x1 M = some M') (hK : mK M = zK0 sl sx) : zLV (d + 0) tb_X9_takeWord 0 [some (vR 8 (some a0)), some (vI x1), none, none] [] M M' (zK0 sl sx) := by
  obtain ⟨I0, L0, ⟨ra0, rb0, rc0, rd0⟩, K0, c0⟩ := M
  obtain rfl : K0 = zK0 sl sx := hK
  replace h := zWx h
  have q := L_Ta_takeWord_7 (d := d) h rfl
  exact ⟨zR_go 5 q.1 (fun n => rfl), q.2⟩
set_option maxRecDepth 20000 in
theorem L_Ta_isSign {N d sl : Nat} {sx : Nat → Int} {x0 : Int} {M : ZM} {x : Int} {M' : ZM} (h : Ta_isSign N x0 M = some (x, M')) (hK : mK M = zK0 sl sx) : zLI (d + 0) tb_X9_isSign 0 [some (vI x0)] [] M x M' (zK0 sl sx) := by
  obtain ⟨I0, L0, ⟨ra0, rb0, rc0, rd0⟩, K0, c0⟩ := M
  obtain rfl : K0 = zK0 sl sx := hK
  rcases zit h with ⟨g1, h⟩ | ⟨g1, h⟩
  · obtain ⟨rfl, rfl⟩ := zrI h
    exact ⟨zR_ret 6 ((if_pos g1).trans rfl), rfl⟩
  · rcases zit h with ⟨g2, h⟩ | ⟨g2, h⟩
    · obtain ⟨rfl, rfl⟩ := zrI h
      exact ⟨zR_ret 9 ((if_neg g1).trans ((if_pos g2).trans rfl)), rfl⟩
    · rcases zit h with ⟨g3, h⟩ | ⟨g3, h⟩
      · obtain ⟨rfl, rfl⟩ := zrI h
        exact ⟨zR_ret 12 ((if_neg g1).trans ((if_neg g2).trans ((if_pos g3).trans rfl))), rfl⟩
      · rcases zit h with ⟨g4, h⟩ | ⟨g4, h⟩
        · obtain ⟨rfl, rfl⟩ := zrI h
          exact ⟨zR_ret 15 ((if_neg g1).trans ((if_neg g2).trans ((if_neg g3).trans ((if_pos g4).trans rfl)))), rfl⟩
        · rcases zit h with ⟨g5, h⟩ | ⟨g5, h⟩
          · obtain ⟨rfl, rfl⟩ := zrI h
            exact ⟨zR_ret 18 ((if_neg g1).trans ((if_neg g2).trans ((if_neg g3).trans ((if_neg g4).trans ((if_pos g5).trans rfl))))), rfl⟩
          · rcases zit h with ⟨g6, h⟩ | ⟨g6, h⟩
            · obtain ⟨rfl, rfl⟩ := zrI h
              exact ⟨zR_ret 21 ((if_neg g1).trans ((if_neg g2).trans ((if_neg g3).trans ((if_neg g4).trans ((if_neg g5).trans ((if_pos g6).trans rfl)))))), rfl⟩
            · rcases zit h with ⟨g7, h⟩ | ⟨g7, h⟩
              · obtain ⟨rfl, rfl⟩ := zrI h
                exact ⟨zR_ret 24 ((if_neg g1).trans ((if_neg g2).trans ((if_neg g3).trans ((if_neg g4).trans ((if_neg g5).trans ((if_neg g6).trans ((if_pos g7).trans rfl))))))), rfl⟩
              · rcases zit h with ⟨g8, h⟩ | ⟨g8, h⟩
                · obtain ⟨rfl, rfl⟩ := zrI h
                  exact ⟨zR_ret 27 ((if_neg g1).trans ((if_neg g2).trans ((if_neg g3).trans ((if_neg g4).trans ((if_neg g5).trans ((if_neg g6).trans ((if_neg g7).trans ((if_pos g8).trans rfl)))))))), rfl⟩
                · obtain ⟨rfl, rfl⟩ := zrI h
                  exact ⟨zR_ret 26 ((if_neg g1).trans ((if_neg g2).trans ((if_neg g3).trans ((if_neg g4).trans ((if_neg g5).trans ((if_neg g6).trans ((if_neg g7).trans ((if_neg g8).trans rfl)))))))), rfl⟩
set_option maxRecDepth 20000 in
theorem L_Ta_takeNumber_64 {N d sl : Nat} {sx : Nat → Int} {a0 : Nat} {x1 : Int} {x2 : Int} {M : ZM} {M' : ZM} (h : Ta_takeNumber_64 N a0 x1 x2 M = some M') (hK : mK M = zK0 sl sx) : zLV (d + 0) tb_X9_takeNumber 64 [some (vR 8 (some a0)), some (vI x1), some (vI x2)] [] M M' (zK0 sl sx) := by
  obtain ⟨I0, L0, ⟨ra0, rb0, rc0, rd0⟩, K0, c0⟩ := M
  obtain rfl : K0 = zK0 sl sx := hK
  rcases zit h with ⟨g1, h⟩ | ⟨g1, h⟩
  · replace h := zWx h
    replace h := zWx h
    obtain rfl := zrV h
    exact ⟨zR_ret 12 ((if_pos g1).trans rfl), rfl⟩
  · replace h := zWx h
    replace h := zWx h
    obtain rfl := zrV h
    exact ⟨zR_ret 13 ((if_neg g1).trans rfl), rfl⟩
set_option maxRecDepth 20000 in
theorem L_Ta_takeNumber_7 {N d sl : Nat} {sx : Nat → Int} : ∀ {n : Nat} {a0 : Nat} {x1 : Int} {x2 : Int} {M : ZM} {M' : ZM}, Ta_takeNumber_7 N n a0 x1 x2 M = some M' → mK M = zK0 sl sx → zLV (d + 0) tb_X9_takeNumber 7 [some (vR 8 (some a0)), some (vI x1), some (vI x2)] [] M M' (zK0 sl sx) := by
  intro n
  induction n with
  | zero => intros; rename_i h _; cases h
  | succ n ih =>
    intro a0 x1 x2 M M' h hK
    obtain ⟨I0, L0, ⟨ra0, rb0, rc0, rd0⟩, K0, c0⟩ := M
    obtain rfl : K0 = zK0 sl sx := hK
    rcases zit h with ⟨g1, h⟩ | ⟨g1, h⟩
    · obtain ⟨g2, h⟩ := zIx h
      rcases zit h with ⟨g3, h⟩ | ⟨g3, h⟩
      · have q := L_Ta_takeNumber_64 (d := d) h rfl
        exact ⟨zR_go 10 q.1 (fun n => (if_pos g1).trans ((if_pos g2).trans ((if_pos g3).trans rfl))), q.2⟩
      · obtain ⟨g4, h⟩ := zIx h
        rcases zit h with ⟨g5, h⟩ | ⟨g5, h⟩
        · have q := L_Ta_takeNumber_64 (d := d) h rfl
          exact ⟨zR_go 16 q.1 (fun n => (if_pos g1).trans ((if_pos g2).trans ((if_neg g3).trans ((if_pos g4).trans ((if_pos g5).trans rfl))))), q.2⟩
        · obtain ⟨g6, h⟩ := zIx h
          replace h := zWx h
          replace h := zWx h
          have q := ih h rfl
          exact ⟨zR_go 31 q.1 (fun n => (if_pos g1).trans ((if_pos g2).trans ((if_neg g3).trans ((if_pos g4).trans ((if_neg g5).trans ((if_pos g6).trans rfl)))))), q.2⟩
    · have q := L_Ta_takeNumber_64 (d := d) h rfl
      exact ⟨zR_go 4 q.1 (fun n => (if_neg g1).trans rfl), q.2⟩
set_option maxRecDepth 20000 in
theorem L_Ta_takeNumber {N d sl : Nat} {sx : Nat → Int} {a0 : Nat} {x1 : Int} {M : ZM} {M' : ZM} (h : Ta_takeNumber N a0 x1 M = some M') (hK : mK M = zK0 sl sx) : zLV (d + 0) tb_X9_takeNumber 0 [some (vR 8 (some a0)), some (vI x1), none] [] M M' (zK0 sl sx) := by
  obtain ⟨I0, L0, ⟨ra0, rb0, rc0, rd0⟩, K0, c0⟩ := M
  obtain rfl : K0 = zK0 sl sx := hK
  replace h := zWx h
  have q := L_Ta_takeNumber_7 (d := d) h rfl
  exact ⟨zR_go 5 q.1 (fun n => rfl), q.2⟩
set_option maxRecDepth 20000 in
theorem L_Ta_pass_135 {N d sl : Nat} {sx : Nat → Int} {a0 : Nat} {x1 : Int} {M : ZM} {M' : ZM} (h : Ta_pass_135 N a0 x1 M = some M') (hK : mK M = zK0 sl sx) : zLV (d + 1) tb_X9_pass 135 [some (vR 8 (some a0)), some (vI x1)] [] M M' (zK0 sl sx) := by
  obtain ⟨I0, L0, ⟨ra0, rb0, rc0, rd0⟩, K0, c0⟩ := M
  obtain rfl : K0 = zK0 sl sx := hK
  obtain ⟨g1, h⟩ := zIx h
  obtain ⟨v101, M101, f101, h⟩ := zBx h
  have q101 := L_Ta_isSign (d := d) f101 rfl
  obtain ⟨I101, L101, ⟨ra101, rb101, rc101, rd101⟩, K101, c101⟩ := M101
  obtain rfl : K101 = zK0 sl sx := q101.2
  suffices w101 : zLV (d + 1) tb_X9_pass 145 [some (vR 8 (some a0)), some (vI x1)] [vI v101, vR 8 (some a0)] (I101, L101, (ra101, rb101, rc101, rd101), zK0 sl sx, c101) M' (zK0 sl sx) from ⟨zR_call (rest := [vR 8 (some a0)]) 6 q101.1 (fun n => (if_pos g1).trans rfl) w101.1, w101.2⟩
  rcases zit h with ⟨g2, h⟩ | ⟨g2, h⟩
  · replace h := zWx h
    replace h := zWx h
    obtain rfl := zrV h
    exact ⟨zR_ret 9 ((if_pos g2).trans rfl), rfl⟩
  · obtain ⟨g3, h⟩ := zIx h
    replace h := zWx h
    replace h := zWx h
    obtain rfl := zrV h
    exact ⟨zR_ret 13 ((if_neg g2).trans ((if_pos g3).trans rfl)), rfl⟩
set_option maxRecDepth 20000 in
theorem L_Ta_pass_105 {N d sl : Nat} {sx : Nat → Int} {a0 : Nat} {x1 : Int} {M : ZM} {M' : ZM} (h : Ta_pass_105 N a0 x1 M = some M') (hK : mK M = zK0 sl sx) : zLV (d + 1) tb_X9_pass 105 [some (vR 8 (some a0)), some (vI x1)] [] M M' (zK0 sl sx) := by
  obtain ⟨I0, L0, ⟨ra0, rb0, rc0, rd0⟩, K0, c0⟩ := M
  obtain rfl : K0 = zK0 sl sx := hK
  obtain ⟨g1, h⟩ := zIx h
  rcases zit h with ⟨g2, h⟩ | ⟨g2, h⟩
  · have q := L_Ta_pass_135 (d := d) h rfl
    exact ⟨zR_go 6 q.1 (fun n => (if_pos g1).trans ((if_pos g2).trans rfl)), q.2⟩
  · obtain ⟨g3, h⟩ := zIx h
    rcases zit h with ⟨g4, h⟩ | ⟨g4, h⟩
    · have q := L_Ta_pass_135 (d := d) h rfl
      exact ⟨zR_go 12 q.1 (fun n => (if_pos g1).trans ((if_neg g2).trans ((if_pos g3).trans ((if_pos g4).trans rfl)))), q.2⟩
    · obtain ⟨M101, f101, h⟩ := zBvx h
      have q101 := L_Ta_takeNumber (d := d) f101 rfl
      obtain ⟨I101, L101, ⟨ra101, rb101, rc101, rd101⟩, K101, c101⟩ := M101
      obtain rfl : K101 = zK0 sl sx := q101.2
      suffices w101 : zLV (d + 1) tb_X9_pass 132 [some (vR 8 (some a0)), some (vI x1)] [] (I101, L101, (ra101, rb101, rc101, rd101), zK0 sl sx, c101) M' (zK0 sl sx) from ⟨zR_call (rest := []) 15 q101.1 (fun n => (if_pos g1).trans ((if_neg g2).trans ((if_pos g3).trans ((if_neg g4).trans rfl)))) w101.1, w101.2⟩
      obtain rfl := zrV h
      exact ⟨zR_ret 2 (rfl), rfl⟩
set_option maxRecDepth 20000 in
theorem L_Ta_pass_46 {N d sl : Nat} {sx : Nat → Int} {a0 : Nat} {x1 : Int} {M : ZM} {M' : ZM} (h : Ta_pass_46 N a0 x1 M = some M') (hK : mK M = zK0 sl sx) : zLV (d + 1) tb_X9_pass 46 [some (vR 8 (some a0)), some (vI x1)] [] M M' (zK0 sl sx) := by
  obtain ⟨I0, L0, ⟨ra0, rb0, rc0, rd0⟩, K0, c0⟩ := M
  obtain rfl : K0 = zK0 sl sx := hK
  replace h := zWx h
  rcases zit h with ⟨g1, h⟩ | ⟨g1, h⟩
  · obtain ⟨g2, h⟩ := zIx h
    rcases zit h with ⟨g3, h⟩ | ⟨g3, h⟩
    · have q := L_Ta_pass_105 (d := d) h rfl
      exact ⟨zR_go 13 q.1 (fun n => (if_pos g1).trans ((if_pos g2).trans ((if_pos g3).trans rfl))), q.2⟩
    · obtain ⟨g4, h⟩ := zIx h
      rcases zit h with ⟨g5, h⟩ | ⟨g5, h⟩
      · have q := L_Ta_pass_105 (d := d) h rfl
        exact ⟨zR_go 19 q.1 (fun n => (if_pos g1).trans ((if_pos g2).trans ((if_neg g3).trans ((if_pos g4).trans ((if_pos g5).trans rfl))))), q.2⟩
      · obtain ⟨M102, f102, h⟩ := zBvx h
        have q102 := L_Ta_takeWord (d := d) f102 rfl
        obtain ⟨I102, L102, ⟨ra102, rb102, rc102, rd102⟩, K102, c102⟩ := M102
        obtain rfl : K102 = zK0 sl sx := q102.2
        suffices w102 : zLV (d + 1) tb_X9_pass 102 [some (vR 8 (some a0)), some (vI x1)] [] (I102, L102, (ra102, rb102, rc102, rd102), zK0 sl sx, c102) M' (zK0 sl sx) from ⟨zR_call (rest := []) 22 q102.1 (fun n => (if_pos g1).trans ((if_pos g2).trans ((if_neg g3).trans ((if_pos g4).trans ((if_neg g5).trans rfl))))) w102.1, w102.2⟩
        obtain rfl := zrV h
        exact ⟨zR_ret 2 (rfl), rfl⟩
  · replace h := zWx h
    replace h := zWx h
    obtain rfl := zrV h
    exact ⟨zR_ret 16 ((if_neg g1).trans rfl), rfl⟩
set_option maxRecDepth 20000 in
theorem L_Ta_pass_10 {N d sl : Nat} {sx : Nat → Int} : ∀ {n : Nat} {a0 : Nat} {x1 : Int} {M : ZM} {M' : ZM}, Ta_pass_10 N n a0 x1 M = some M' → mK M = zK0 sl sx → zLV (d + 1) tb_X9_pass 10 [some (vR 8 (some a0)), some (vI x1)] [] M M' (zK0 sl sx) := by
  intro n
  induction n with
  | zero => intros; rename_i h _; cases h
  | succ n ih =>
    intro a0 x1 M M' h hK
    obtain ⟨I0, L0, ⟨ra0, rb0, rc0, rd0⟩, K0, c0⟩ := M
    obtain rfl : K0 = zK0 sl sx := hK
    rcases zit h with ⟨g1, h⟩ | ⟨g1, h⟩
    · obtain ⟨g2, h⟩ := zIx h
      rcases zit h with ⟨g3, h⟩ | ⟨g3, h⟩
      · replace h := zWx h
        have q := ih h rfl
        exact ⟨zR_go 12 q.1 (fun n => (if_pos g1).trans ((if_pos g2).trans ((if_pos g3).trans rfl))), q.2⟩
      · obtain ⟨g4, h⟩ := zIx h
        rcases zit h with ⟨g5, h⟩ | ⟨g5, h⟩
        · replace h := zWx h
          have q := ih h rfl
          exact ⟨zR_go 18 q.1 (fun n => (if_pos g1).trans ((if_pos g2).trans ((if_neg g3).trans ((if_pos g4).trans ((if_pos g5).trans rfl))))), q.2⟩
        · have q := L_Ta_pass_46 (d := d) h rfl
          exact ⟨zR_go 16 q.1 (fun n => (if_pos g1).trans ((if_pos g2).trans ((if_neg g3).trans ((if_pos g4).trans ((if_neg g5).trans rfl))))), q.2⟩
    · have q := L_Ta_pass_46 (d := d) h rfl
      exact ⟨zR_go 4 q.1 (fun n => (if_neg g1).trans rfl), q.2⟩
set_option maxRecDepth 20000 in
theorem L_Ta_pass {N d sl : Nat} {sx : Nat → Int} {a0 : Nat} {M : ZM} {M' : ZM} (h : Ta_pass N a0 M = some M') (hK : mK M = zK0 sl sx) : zLV (d + 1) tb_X9_pass 0 [some (vR 8 (some a0)), none] [] M M' (zK0 sl sx) := by
  obtain ⟨I0, L0, ⟨ra0, rb0, rc0, rd0⟩, K0, c0⟩ := M
  obtain rfl : K0 = zK0 sl sx := hK
  replace h := zWx h
  replace h := zWx h
  have q := L_Ta_pass_10 (d := d) h rfl
  exact ⟨zR_go 6 q.1 (fun n => rfl), q.2⟩
set_option maxRecDepth 20000 in
theorem L_Re_passSign {N d sl : Nat} {sx : Nat → Int} {a0 : Nat} {x1 : Int} {M : ZM} {x : Int} {M' : ZM} (h : Re_passSign N a0 x1 M = some (x, M')) (hK : mK M = zK0 sl sx) : zLI (d + 2) tb_X6_passSign 0 [some (vR 5 (some a0)), some (vI x1)] [] M x M' (zK0 sl sx) := by
  obtain ⟨I0, L0, ⟨ra0, rb0, rc0, rd0⟩, K0, c0⟩ := M
  obtain rfl : K0 = zK0 sl sx := hK
  rcases zit h with ⟨g1, h⟩ | ⟨g1, h⟩
  · obtain ⟨M101, f101, h⟩ := zBvx h
    have q101 := L_Ta_pass (d := d) f101 rfl
    obtain ⟨I101, L101, ⟨ra101, rb101, rc101, rd101⟩, K101, c101⟩ := M101
    obtain rfl : K101 = zK0 sl sx := q101.2
    suffices w101 : zLI (d + 2) tb_X6_passSign 24 [some (vR 5 (some a0)), some (vI x1)] [] (I101, L101, (ra101, rb101, rc101, rd101), zK0 sl sx, c101) x M' (zK0 sl sx) from ⟨zR_call (rest := []) 8 q101.1 (fun n => (if_pos g1).trans rfl) w101.1, w101.2⟩
    obtain ⟨rfl, rfl⟩ := zrI h
    exact ⟨zR_ret 2 (rfl), rfl⟩
  · obtain ⟨v102, M102, f102, h⟩ := zBx h
    have q102 := L_Re_fail (d := (d + 1)) f102 rfl
    obtain ⟨I102, L102, ⟨ra102, rb102, rc102, rd102⟩, K102, c102⟩ := M102
    obtain rfl : K102 = zK0 sl sx := q102.2
    suffices w102 : zLI (d + 2) tb_X6_passSign 16 [some (vR 5 (some a0)), some (vI x1)] [vI v102] (I102, L102, (ra102, rb102, rc102, rd102), zK0 sl sx, c102) x M' (zK0 sl sx) from ⟨zR_call (rest := []) 8 q102.1 (fun n => (if_neg g1).trans rfl) w102.1, w102.2⟩
    obtain ⟨rfl, rfl⟩ := zrI h
    exact ⟨zR_ret 1 (rfl), rfl⟩
set_option maxRecDepth 20000 in
theorem L_Re_factOf {N d sl : Nat} {sx : Nat → Int} {o0 : Option Nat} {M : ZM} {x : Int} {M' : ZM} (h : Re_factOf N o0 M = some (x, M')) (hK : mK M = zK0 sl sx) : zLI (d + 0) tb_X6_factOf 0 [some (vR 12 o0)] [] M x M' (zK0 sl sx) := by
  obtain ⟨I0, L0, ⟨ra0, rb0, rc0, rd0⟩, K0, c0⟩ := M
  obtain rfl : K0 = zK0 sl sx := hK
  rcases zit h with ⟨g1, h⟩ | ⟨g1, h⟩
  · obtain ⟨rfl, rfl⟩ := zrI h
    exact ⟨zR_ret 5 ((if_pos g1).trans rfl), rfl⟩
  · rcases zit h with ⟨g2, h⟩ | ⟨g2, h⟩
    · obtain ⟨rfl, rfl⟩ := zrI h
      exact ⟨zR_ret 8 ((if_neg g1).trans ((if_pos g2).trans rfl)), rfl⟩
    · rcases zit h with ⟨g3, h⟩ | ⟨g3, h⟩
      · obtain ⟨rfl, rfl⟩ := zrI h
        exact ⟨zR_ret 11 ((if_neg g1).trans ((if_neg g2).trans ((if_pos g3).trans rfl))), rfl⟩
      · rcases zit h with ⟨g4, h⟩ | ⟨g4, h⟩
        · obtain ⟨rfl, rfl⟩ := zrI h
          exact ⟨zR_ret 15 ((if_neg g1).trans ((if_neg g2).trans ((if_neg g3).trans ((if_pos g4).trans rfl)))), rfl⟩
        · obtain ⟨rfl, rfl⟩ := zrI h
          exact ⟨zR_ret 14 ((if_neg g1).trans ((if_neg g2).trans ((if_neg g3).trans ((if_neg g4).trans rfl)))), rfl⟩
set_option maxRecDepth 20000 in
theorem L_Re_readPart_b_51 {N d sl : Nat} {sx : Nat → Int} {cc_readE : Nat → Int → ZM → Option (Int × ZM)} {cc_readPart : Nat → Int → ZM → Option (Int × ZM)} (hcc_readE : ∀ {a0 : Nat} {x1 : Int} {M : ZM} {x : Int} {M' : ZM}, cc_readE a0 x1 M = some (x, M') → mK M = zK0 sl sx → zLI (d + 2) tb_X6_readE 0 [some (vR 5 (some a0)), some (vI x1), none, none] [] M x M' (zK0 sl sx)) (hcc_readPart : ∀ {a0 : Nat} {x1 : Int} {M : ZM} {x : Int} {M' : ZM}, cc_readPart a0 x1 M = some (x, M') → mK M = zK0 sl sx → zLI (d + 2) tb_X6_readPart 0 [some (vR 5 (some a0)), some (vI x1), none, none, none, none] [] M x M' (zK0 sl sx)) {a0 : Nat} {x1 : Int} {x2 : Int} {o3 : Option Nat} {x4 : Int} {M : ZM} {x : Int} {M' : ZM} (h : Re_readPart_b_51 N cc_readE cc_readPart a0 x1 x2 o3 x4 M = some (x, M')) (hK : mK M = zK0 sl sx) : zLI (d + 3) tb_X6_readPart 51 [some (vR 5 (some a0)), some (vI x1), some (vI x2), some (vR 12 o3), some (vI x4), none] [] M x M' (zK0 sl sx) := by
  obtain ⟨I0, L0, ⟨ra0, rb0, rc0, rd0⟩, K0, c0⟩ := M
  obtain rfl : K0 = zK0 sl sx := hK
  rcases zit h with ⟨g1, h⟩ | ⟨g1, h⟩
  · replace h := zWx h
    obtain ⟨M102, f102, h⟩ := zBvx h
    have q102 := L_Ta_pass (d := (d + 1)) f102 rfl
    obtain ⟨I102, L102, ⟨ra102, rb102, rc102, rd102⟩, K102, c102⟩ := M102
    obtain rfl : K102 = zK0 sl sx := q102.2
    suffices w102 : zLI (d + 3) tb_X6_readPart 78 [some (vR 5 (some a0)), some (vI x1), some (vI x2), some (vR 12 o3), some (vI x4), some (vI (mI (I0, L0, (ra0, rb0, rc0, rd0), zK0 sl sx, c0) 8 0 4))] [] (I102, L102, (ra102, rb102, rc102, rd102), zK0 sl sx, c102) x M' (zK0 sl sx) from ⟨zR_call (rest := []) 10 q102.1 (fun n => (if_pos g1).trans rfl) w102.1, w102.2⟩
    rcases zit h with ⟨g2, h⟩ | ⟨g2, h⟩
    · obtain ⟨v103, M103, f103, h⟩ := zBx h
      have q103 := hcc_readE f103 rfl
      obtain ⟨I103, L103, ⟨ra103, rb103, rc103, rd103⟩, K103, c103⟩ := M103
      obtain rfl : K103 = zK0 sl sx := q103.2
      suffices w103 : zLI (d + 3) tb_X6_readPart 91 [some (vR 5 (some a0)), some (vI x1), some (vI x2), some (vR 12 o3), some (vI x4), some (vI (mI (I0, L0, (ra0, rb0, rc0, rd0), zK0 sl sx, c0) 8 0 4))] [vI v103] (I103, L103, (ra103, rb103, rc103, rd103), zK0 sl sx, c103) x M' (zK0 sl sx) from ⟨zR_call (rest := []) 8 q103.1 (fun n => (if_pos g2).trans rfl) w103.1, w103.2⟩
      rcases zit h with ⟨g3, h⟩ | ⟨g3, h⟩
      · obtain ⟨rfl, rfl⟩ := zrI h
        exact ⟨zR_ret 3 ((if_pos g3).trans rfl), rfl⟩
      · obtain ⟨v104, M104, f104, h⟩ := zBx h
        have q104 := L_Re_passSign (d := d) f104 rfl
        obtain ⟨I104, L104, ⟨ra104, rb104, rc104, rd104⟩, K104, c104⟩ := M104
        obtain rfl : K104 = zK0 sl sx := q104.2
        suffices w104 : zLI (d + 3) tb_X6_readPart 100 [some (vR 5 (some a0)), some (vI x1), some (vI x2), some (vR 12 o3), some (vI x4), some (vI (mI (I0, L0, (ra0, rb0, rc0, rd0), zK0 sl sx, c0) 8 0 4))] [vI v104] (I104, L104, (ra104, rb104, rc104, rd104), zK0 sl sx, c104) x M' (zK0 sl sx) from ⟨zR_call (rest := []) 4 q104.1 (fun n => (if_neg g3).trans rfl) w104.1, w104.2⟩
        rcases zit h with ⟨g4, h⟩ | ⟨g4, h⟩
        · obtain ⟨rfl, rfl⟩ := zrI h
          exact ⟨zR_ret 3 ((if_pos g4).trans rfl), rfl⟩
        · obtain ⟨rfl, rfl⟩ := zrI h
          exact ⟨zR_ret 4 ((if_neg g4).trans rfl), rfl⟩
    · rcases zit h with ⟨g5, h⟩ | ⟨g5, h⟩
      · obtain ⟨v105, M105, f105, h⟩ := zBx h
        have q105 := hcc_readPart f105 rfl
        obtain ⟨I105, L105, ⟨ra105, rb105, rc105, rd105⟩, K105, c105⟩ := M105
        obtain rfl : K105 = zK0 sl sx := q105.2
        suffices w105 : zLI (d + 3) tb_X6_readPart 123 [some (vR 5 (some a0)), some (vI x1), some (vI x2), some (vR 12 o3), some (vI x4), some (vI (mI (I0, L0, (ra0, rb0, rc0, rd0), zK0 sl sx, c0) 8 0 4))] [vI v105] (I105, L105, (ra105, rb105, rc105, rd105), zK0 sl sx, c105) x M' (zK0 sl sx) from ⟨zR_call (rest := []) 11 q105.1 (fun n => (if_neg g2).trans ((if_pos g5).trans rfl)) w105.1, w105.2⟩
        rcases zit h with ⟨g6, h⟩ | ⟨g6, h⟩
        · obtain ⟨rfl, rfl⟩ := zrI h
          exact ⟨zR_ret 3 ((if_pos g6).trans rfl), rfl⟩
        · obtain ⟨p106, g7, h⟩ := zOx h
          obtain rfl : rc105 = some p106 := g7
          obtain ⟨v107, M107, f107, h⟩ := zBx h
          have q107 := L_Nu_add (d := (d + 2)) f107 rfl
          obtain ⟨I107, L107, ⟨ra107, rb107, rc107, rd107⟩, K107, c107⟩ := M107
          obtain rfl : K107 = zK0 sl sx := q107.2
          suffices w107 : zLI (d + 3) tb_X6_readPart 141 [some (vR 5 (some a0)), some (vI x1), some (vI x2), some (vR 12 o3), some (vI x4), some (vI (mI (I0, L0, (ra0, rb0, rc0, rd0), zK0 sl sx, c0) 8 0 4))] [vI v107] (I107, L107, (ra107, rb107, rc107, rd107), zK0 sl sx, c107) x M' (zK0 sl sx) from ⟨zR_call (rest := []) 7 q107.1 (fun n => (if_neg g6).trans rfl) w107.1, w107.2⟩
          rcases zit h with ⟨g8, h⟩ | ⟨g8, h⟩
          · obtain ⟨rfl, rfl⟩ := zrI h
            exact ⟨zR_ret 3 ((if_pos g8).trans rfl), rfl⟩
          · obtain ⟨rfl, rfl⟩ := zrI h
            exact ⟨zR_ret 4 ((if_neg g8).trans rfl), rfl⟩
      · obtain ⟨p108, g9, h⟩ := zOx h
        obtain rfl : rc102 = some p108 := g9
        rcases zit h with ⟨g10, h⟩ | ⟨g10, h⟩
        · obtain ⟨v109, M109, f109, h⟩ := zBx h
          have q109 := L_Nu_add (d := (d + 2)) f109 rfl
          obtain ⟨I109, L109, ⟨ra109, rb109, rc109, rd109⟩, K109, c109⟩ := M109
          obtain rfl : K109 = zK0 sl sx := q109.2
          suffices w109 : zLI (d + 3) tb_X6_readPart 175 [some (vR 5 (some a0)), some (vI x1), some (vI x2), some (vR 12 o3), some (vI x4), some (vI (mI (I0, L0, (ra0, rb0, rc0, rd0), zK0 sl sx, c0) 8 0 4))] [vI v109] (I109, L109, (ra109, rb109, rc109, rd109), zK0 sl sx, c109) x M' (zK0 sl sx) from ⟨zR_call (rest := []) 16 q109.1 (fun n => (if_neg g2).trans ((if_neg g5).trans ((if_pos g10).trans rfl))) w109.1, w109.2⟩
          obtain ⟨rfl, rfl⟩ := zrI h
          exact ⟨zR_ret 1 (rfl), rfl⟩
        · obtain ⟨v110, M110, f110, h⟩ := zBx h
          have q110 := L_Nu_add (d := (d + 2)) f110 rfl
          obtain ⟨I110, L110, ⟨ra110, rb110, rc110, rd110⟩, K110, c110⟩ := M110
          obtain rfl : K110 = zK0 sl sx := q110.2
          suffices w110 : zLI (d + 3) tb_X6_readPart 175 [some (vR 5 (some a0)), some (vI x1), some (vI x2), some (vR 12 o3), some (vI x4), some (vI (mI (I0, L0, (ra0, rb0, rc0, rd0), zK0 sl sx, c0) 8 0 4))] [vI v110] (I110, L110, (ra110, rb110, rc110, rd110), zK0 sl sx, c110) x M' (zK0 sl sx) from ⟨zR_call (rest := []) 15 q110.1 (fun n => (if_neg g2).trans ((if_neg g5).trans ((if_neg g10).trans rfl))) w110.1, w110.2⟩
          obtain ⟨rfl, rfl⟩ := zrI h
          exact ⟨zR_ret 1 (rfl), rfl⟩
  · obtain ⟨v111, M111, f111, h⟩ := zBx h
    have q111 := L_Re_fail (d := (d + 2)) f111 rfl
    obtain ⟨I111, L111, ⟨ra111, rb111, rc111, rd111⟩, K111, c111⟩ := M111
    obtain rfl : K111 = zK0 sl sx := q111.2
    suffices w111 : zLI (d + 3) tb_X6_readPart 61 [some (vR 5 (some a0)), some (vI x1), some (vI x2), some (vR 12 o3), some (vI x4), none] [vI v111] (I111, L111, (ra111, rb111, rc111, rd111), zK0 sl sx, c111) x M' (zK0 sl sx) from ⟨zR_call (rest := []) 6 q111.1 (fun n => (if_neg g1).trans rfl) w111.1, w111.2⟩
    obtain ⟨rfl, rfl⟩ := zrI h
    exact ⟨zR_ret 1 (rfl), rfl⟩
set_option maxRecDepth 20000 in
theorem L_Re_readPart_b {N d sl : Nat} {sx : Nat → Int} {cc_readE : Nat → Int → ZM → Option (Int × ZM)} {cc_readPart : Nat → Int → ZM → Option (Int × ZM)} (hcc_readE : ∀ {a0 : Nat} {x1 : Int} {M : ZM} {x : Int} {M' : ZM}, cc_readE a0 x1 M = some (x, M') → mK M = zK0 sl sx → zLI (d + 2) tb_X6_readE 0 [some (vR 5 (some a0)), some (vI x1), none, none] [] M x M' (zK0 sl sx)) (hcc_readPart : ∀ {a0 : Nat} {x1 : Int} {M : ZM} {x : Int} {M' : ZM}, cc_readPart a0 x1 M = some (x, M') → mK M = zK0 sl sx → zLI (d + 2) tb_X6_readPart 0 [some (vR 5 (some a0)), some (vI x1), none, none, none, none] [] M x M' (zK0 sl sx)) {a0 : Nat} {x1 : Int} {M : ZM} {x : Int} {M' : ZM} (h : Re_readPart_b N cc_readE cc_readPart a0 x1 M = some (x, M')) (hK : mK M = zK0 sl sx) : zLI (d + 3) tb_X6_readPart 0 [some (vR 5 (some a0)), some (vI x1), none, none, none, none] [] M x M' (zK0 sl sx) := by
  obtain ⟨I0, L0, ⟨ra0, rb0, rc0, rd0⟩, K0, c0⟩ := M
  obtain rfl : K0 = zK0 sl sx := hK
  replace h := zWx h
  replace h := zWx h
  obtain ⟨v103, M103, f103, h⟩ := zBx h
  have q103 := L_Re_factOf (d := (d + 2)) f103 rfl
  obtain ⟨I103, L103, ⟨ra103, rb103, rc103, rd103⟩, K103, c103⟩ := M103
  obtain rfl : K103 = zK0 sl sx := q103.2
  suffices w103 : zLI (d + 3) tb_X6_readPart 20 [some (vR 5 (some a0)), some (vI x1), some (vI (mI (I0, L0, (ra0, rb0, rc0, rd0), zK0 sl sx, c0) 8 0 2)), some (vR 12 rd0), none, none] [vI v103] (I103, L103, (ra103, rb103, rc103, rd103), zK0 sl sx, c103) x M' (zK0 sl sx) from ⟨zR_call (rest := []) 10 q103.1 (fun n => rfl) w103.1, w103.2⟩
  rcases zit h with ⟨g1, h⟩ | ⟨g1, h⟩
  · have q := L_Re_readPart_b_51 (d := d) hcc_readE hcc_readPart h rfl
    exact ⟨zR_go 4 q.1 (fun n => (if_pos g1).trans rfl), q.2⟩
  · rcases zit h with ⟨g2, h⟩ | ⟨g2, h⟩
    · have q := L_Re_readPart_b_51 (d := d) hcc_readE hcc_readPart h rfl
      exact ⟨zR_go 7 q.1 (fun n => (if_neg g1).trans ((if_pos g2).trans rfl)), q.2⟩
    · rcases zit h with ⟨g3, h⟩ | ⟨g3, h⟩
      · have q := L_Re_readPart_b_51 (d := d) hcc_readE hcc_readPart h rfl
        exact ⟨zR_go 10 q.1 (fun n => (if_neg g1).trans ((if_neg g2).trans ((if_pos g3).trans rfl))), q.2⟩
      · rcases zit h with ⟨g4, h⟩ | ⟨g4, h⟩
        · obtain ⟨v104, M104, f104, h⟩ := zBx h
          have q104 := L_Re_fail (d := (d + 2)) f104 rfl
          obtain ⟨I104, L104, ⟨ra104, rb104, rc104, rd104⟩, K104, c104⟩ := M104
          obtain rfl : K104 = zK0 sl sx := q104.2
          suffices w104 : zLI (d + 3) tb_X6_readPart 50 [some (vR 5 (some a0)), some (vI x1), some (vI (mI (I0, L0, (ra0, rb0, rc0, rd0), zK0 sl sx, c0) 8 0 2)), some (vR 12 rd0), some (vI v103), none] [vI v104] (I104, L104, (ra104, rb104, rc104, rd104), zK0 sl sx, c104) x M' (zK0 sl sx) from ⟨zR_call (rest := []) 15 q104.1 (fun n => (if_neg g1).trans ((if_neg g2).trans ((if_neg g3).trans ((if_pos g4).trans rfl)))) w104.1, w104.2⟩
          obtain ⟨rfl, rfl⟩ := zrI h
          exact ⟨zR_ret 1 (rfl), rfl⟩
        · have q := L_Re_readPart_b_51 (d := d) hcc_readE hcc_readPart h rfl
          exact ⟨zR_go 12 q.1 (fun n => (if_neg g1).trans ((if_neg g2).trans ((if_neg g3).trans ((if_neg g4).trans rfl)))), q.2⟩
set_option maxRecDepth 20000 in
theorem L_Re_readProduct_b_12 {N d sl : Nat} {sx : Nat → Int} {cc_readPart : Nat → Int → ZM → Option (Int × ZM)} (hcc_readPart : ∀ {a0 : Nat} {x1 : Int} {M : ZM} {x : Int} {M' : ZM}, cc_readPart a0 x1 M = some (x, M') → mK M = zK0 sl sx → zLI (d + 2) tb_X6_readPart 0 [some (vR 5 (some a0)), some (vI x1), none, none, none, none] [] M x M' (zK0 sl sx)) : ∀ {n : Nat} {a0 : Nat} {x1 : Int} {x2 : Int} {M : ZM} {x : Int} {M' : ZM}, Re_readProduct_b_12 N cc_readPart n a0 x1 x2 M = some (x, M') → mK M = zK0 sl sx → zLI (d + 3) tb_X6_readProduct 12 [some (vR 5 (some a0)), some (vI x1), some (vI x2)] [] M x M' (zK0 sl sx) := by
  intro n
  induction n with
  | zero => intros; rename_i h _; cases h
  | succ n ih =>
    intro a0 x1 x2 M x M' h hK
    obtain ⟨I0, L0, ⟨ra0, rb0, rc0, rd0⟩, K0, c0⟩ := M
    obtain rfl : K0 = zK0 sl sx := hK
    rcases zit h with ⟨g1, h⟩ | ⟨g1, h⟩
    · rcases zit h with ⟨g2, h⟩ | ⟨g2, h⟩
      · obtain ⟨M101, f101, h⟩ := zBvx h
        have q101 := L_Ta_pass (d := (d + 1)) f101 rfl
        obtain ⟨I101, L101, ⟨ra101, rb101, rc101, rd101⟩, K101, c101⟩ := M101
        obtain rfl : K101 = zK0 sl sx := q101.2
        suffices w101 : zLI (d + 3) tb_X6_readProduct 38 [some (vR 5 (some a0)), some (vI x1), some (vI x2)] [] (I101, L101, (ra101, rb101, rc101, rd101), zK0 sl sx, c101) x M' (zK0 sl sx) from ⟨zR_call (rest := []) 11 q101.1 (fun n => (if_pos g1).trans ((if_pos g2).trans rfl)) w101.1, w101.2⟩
        obtain ⟨v102, M102, f102, h⟩ := zBx h
        have q102 := hcc_readPart f102 rfl
        obtain ⟨I102, L102, ⟨ra102, rb102, rc102, rd102⟩, K102, c102⟩ := M102
        obtain rfl : K102 = zK0 sl sx := q102.2
        suffices w102 : zLI (d + 3) tb_X6_readProduct 43 [some (vR 5 (some a0)), some (vI x1), some (vI x2)] [vI v102] (I102, L102, (ra102, rb102, rc102, rd102), zK0 sl sx, c102) x M' (zK0 sl sx) from ⟨zR_call (rest := []) 3 q102.1 (fun n => rfl) w102.1, w102.2⟩
        rcases zit h with ⟨g3, h⟩ | ⟨g3, h⟩
        · obtain ⟨rfl, rfl⟩ := zrI h
          exact ⟨zR_ret 3 ((if_pos g3).trans rfl), rfl⟩
        · obtain ⟨p103, g4, h⟩ := zOx h
          obtain rfl : rc102 = some p103 := g4
          obtain ⟨v104, M104, f104, h⟩ := zBx h
          have q104 := L_Nu_add (d := (d + 2)) f104 rfl
          obtain ⟨I104, L104, ⟨ra104, rb104, rc104, rd104⟩, K104, c104⟩ := M104
          obtain rfl : K104 = zK0 sl sx := q104.2
          suffices w104 : zLI (d + 3) tb_X6_readProduct 63 [some (vR 5 (some a0)), some (vI x1), some (vI x2)] [vI v104] (I104, L104, (ra104, rb104, rc104, rd104), zK0 sl sx, c104) x M' (zK0 sl sx) from ⟨zR_call (rest := []) 7 q104.1 (fun n => (if_neg g3).trans rfl) w104.1, w104.2⟩
          replace h := zWx h
          have q := ih h rfl
          exact ⟨zR_go 3 q.1 (fun n => rfl), q.2⟩
      · obtain ⟨rfl, rfl⟩ := zrI h
        exact ⟨zR_ret 10 ((if_pos g1).trans ((if_neg g2).trans rfl)), rfl⟩
    · obtain ⟨rfl, rfl⟩ := zrI h
      exact ⟨zR_ret 5 ((if_neg g1).trans rfl), rfl⟩
set_option maxRecDepth 20000 in
theorem L_Re_readProduct_b {N d sl : Nat} {sx : Nat → Int} {cc_readPart : Nat → Int → ZM → Option (Int × ZM)} (hcc_readPart : ∀ {a0 : Nat} {x1 : Int} {M : ZM} {x : Int} {M' : ZM}, cc_readPart a0 x1 M = some (x, M') → mK M = zK0 sl sx → zLI (d + 2) tb_X6_readPart 0 [some (vR 5 (some a0)), some (vI x1), none, none, none, none] [] M x M' (zK0 sl sx)) {a0 : Nat} {x1 : Int} {M : ZM} {x : Int} {M' : ZM} (h : Re_readProduct_b N cc_readPart a0 x1 M = some (x, M')) (hK : mK M = zK0 sl sx) : zLI (d + 3) tb_X6_readProduct 0 [some (vR 5 (some a0)), some (vI x1), none] [] M x M' (zK0 sl sx) := by
  obtain ⟨I0, L0, ⟨ra0, rb0, rc0, rd0⟩, K0, c0⟩ := M
  obtain rfl : K0 = zK0 sl sx := hK
  obtain ⟨v101, M101, f101, h⟩ := zBx h
  have q101 := hcc_readPart f101 rfl
  obtain ⟨I101, L101, ⟨ra101, rb101, rc101, rd101⟩, K101, c101⟩ := M101
  obtain rfl : K101 = zK0 sl sx := q101.2
  suffices w101 : zLI (d + 3) tb_X6_readProduct 5 [some (vR 5 (some a0)), some (vI x1), none] [vI v101] (I101, L101, (ra101, rb101, rc101, rd101), zK0 sl sx, c101) x M' (zK0 sl sx) from ⟨zR_call (rest := []) 3 q101.1 (fun n => rfl) w101.1, w101.2⟩
  rcases zit h with ⟨g1, h⟩ | ⟨g1, h⟩
  · obtain ⟨rfl, rfl⟩ := zrI h
    exact ⟨zR_ret 3 ((if_pos g1).trans rfl), rfl⟩
  · have q := L_Re_readProduct_b_12 (d := d) hcc_readPart h rfl
    exact ⟨zR_go 3 q.1 (fun n => (if_neg g1).trans rfl), q.2⟩
set_option maxRecDepth 20000 in
theorem L_Re_readSum_b_91 {N d sl : Nat} {sx : Nat → Int} {cc_readProduct : Nat → Int → ZM → Option (Int × ZM)} {rec12 : Nat → Int → Int → ZM → Option (Int × ZM)} (hcc_readProduct : ∀ {a0 : Nat} {x1 : Int} {M : ZM} {x : Int} {M' : ZM}, cc_readProduct a0 x1 M = some (x, M') → mK M = zK0 sl sx → zLI (d + 2) tb_X6_readProduct 0 [some (vR 5 (some a0)), some (vI x1), none] [] M x M' (zK0 sl sx)) (hrec12 : ∀ {a0 : Nat} {x1 : Int} {x2 : Int} {M : ZM} {x : Int} {M' : ZM}, rec12 a0 x1 x2 M = some (x, M') → mK M = zK0 sl sx → zLI (d + 3) tb_X6_readSum 12 [some (vR 5 (some a0)), some (vI x1), some (vI x2), none] [] M x M' (zK0 sl sx)) {a0 : Nat} {x1 : Int} {x2 : Int} {b0 : Nat} {y1 : Int} {M : ZM} {x : Int} {M' : ZM} (h : Re_readSum_b_91 N cc_readProduct rec12 a0 x1 x2 b0 y1 M = some (x, M')) (hK : mK M = zK0 sl sx) : zLI (d + 3) tb_X6_readSum 91 [some (vR 5 (some a0)), some (vI x1), some (vI x2), none] [vI y1, vR 3 (some b0)] M x M' (zK0 sl sx) := by
  obtain ⟨I0, L0, ⟨ra0, rb0, rc0, rd0⟩, K0, c0⟩ := M
  obtain rfl : K0 = zK0 sl sx := hK
  obtain ⟨v101, M101, f101, h⟩ := zBx h
  have q101 := L_Nu_add (d := (d + 2)) f101 rfl
  obtain ⟨I101, L101, ⟨ra101, rb101, rc101, rd101⟩, K101, c101⟩ := M101
  obtain rfl : K101 = zK0 sl sx := q101.2
  suffices w101 : zLI (d + 3) tb_X6_readSum 94 [some (vR 5 (some a0)), some (vI x1), some (vI x2), none] [vI v101] (I101, L101, (ra101, rb101, rc101, rd101), zK0 sl sx, c101) x M' (zK0 sl sx) from ⟨zR_call (rest := []) 1 q101.1 (fun n => rfl) w101.1, w101.2⟩
  replace h := zWx h
  have q := hrec12 h rfl
  exact ⟨zR_go 3 q.1 (fun n => rfl), q.2⟩
set_option maxRecDepth 20000 in
theorem L_Re_readSum_b_43 {N d sl : Nat} {sx : Nat → Int} {cc_readProduct : Nat → Int → ZM → Option (Int × ZM)} {rec12 : Nat → Int → Int → ZM → Option (Int × ZM)} (hcc_readProduct : ∀ {a0 : Nat} {x1 : Int} {M : ZM} {x : Int} {M' : ZM}, cc_readProduct a0 x1 M = some (x, M') → mK M = zK0 sl sx → zLI (d + 2) tb_X6_readProduct 0 [some (vR 5 (some a0)), some (vI x1), none] [] M x M' (zK0 sl sx)) (hrec12 : ∀ {a0 : Nat} {x1 : Int} {x2 : Int} {M : ZM} {x : Int} {M' : ZM}, rec12 a0 x1 x2 M = some (x, M') → mK M = zK0 sl sx → zLI (d + 3) tb_X6_readSum 12 [some (vR 5 (some a0)), some (vI x1), some (vI x2), none] [] M x M' (zK0 sl sx)) {a0 : Nat} {x1 : Int} {x2 : Int} {M : ZM} {x : Int} {M' : ZM} (h : Re_readSum_b_43 N cc_readProduct rec12 a0 x1 x2 M = some (x, M')) (hK : mK M = zK0 sl sx) : zLI (d + 3) tb_X6_readSum 43 [some (vR 5 (some a0)), some (vI x1), some (vI x2), none] [] M x M' (zK0 sl sx) := by
  obtain ⟨I0, L0, ⟨ra0, rb0, rc0, rd0⟩, K0, c0⟩ := M
  obtain rfl : K0 = zK0 sl sx := hK
  replace h := zWx h
  obtain ⟨M102, f102, h⟩ := zBvx h
  have q102 := L_Ta_pass (d := (d + 1)) f102 rfl
  obtain ⟨I102, L102, ⟨ra102, rb102, rc102, rd102⟩, K102, c102⟩ := M102
  obtain rfl : K102 = zK0 sl sx := q102.2
  suffices w102 : zLI (d + 3) tb_X6_readSum 58 [some (vR 5 (some a0)), some (vI x1), some (vI x2), some (vI (mI (I0, L0, (ra0, rb0, rc0, rd0), zK0 sl sx, c0) 8 0 2))] [] (I102, L102, (ra102, rb102, rc102, rd102), zK0 sl sx, c102) x M' (zK0 sl sx) from ⟨zR_call (rest := []) 7 q102.1 (fun n => rfl) w102.1, w102.2⟩
  obtain ⟨v103, M103, f103, h⟩ := zBx h
  have q103 := hcc_readProduct f103 rfl
  obtain ⟨I103, L103, ⟨ra103, rb103, rc103, rd103⟩, K103, c103⟩ := M103
  obtain rfl : K103 = zK0 sl sx := q103.2
  suffices w103 : zLI (d + 3) tb_X6_readSum 63 [some (vR 5 (some a0)), some (vI x1), some (vI x2), some (vI (mI (I0, L0, (ra0, rb0, rc0, rd0), zK0 sl sx, c0) 8 0 2))] [vI v103] (I103, L103, (ra103, rb103, rc103, rd103), zK0 sl sx, c103) x M' (zK0 sl sx) from ⟨zR_call (rest := []) 3 q103.1 (fun n => rfl) w103.1, w103.2⟩
  rcases zit h with ⟨g1, h⟩ | ⟨g1, h⟩
  · obtain ⟨rfl, rfl⟩ := zrI h
    exact ⟨zR_ret 3 ((if_pos g1).trans rfl), rfl⟩
  · obtain ⟨p104, g2, h⟩ := zOx h
    obtain rfl : rc103 = some p104 := g2
    rcases zit h with ⟨g3, h⟩ | ⟨g3, h⟩
    · have q := L_Re_readSum_b_91 (d := d) hcc_readProduct hrec12 h rfl
      exact ⟨zR_go 10 (zR_up (ls' := [some (vR 5 (some a0)), some (vI x1), some (vI x2), some (vI (mI (I0, L0, (ra0, rb0, rc0, rd0), zK0 sl sx, c0) 8 0 2))]) q.1 ⟨.inr rfl, .inr rfl, .inr rfl, .inl rfl, trivial⟩) (fun n => (if_neg g1).trans ((if_pos g3).trans rfl)), q.2⟩
    · have q := L_Re_readSum_b_91 (d := d) hcc_readProduct hrec12 h rfl
      exact ⟨zR_go 9 (zR_up (ls' := [some (vR 5 (some a0)), some (vI x1), some (vI x2), some (vI (mI (I0, L0, (ra0, rb0, rc0, rd0), zK0 sl sx, c0) 8 0 2))]) q.1 ⟨.inr rfl, .inr rfl, .inr rfl, .inl rfl, trivial⟩) (fun n => (if_neg g1).trans ((if_neg g3).trans rfl)), q.2⟩
set_option maxRecDepth 20000 in
theorem L_Re_readSum_b_12 {N d sl : Nat} {sx : Nat → Int} {cc_readProduct : Nat → Int → ZM → Option (Int × ZM)} (hcc_readProduct : ∀ {a0 : Nat} {x1 : Int} {M : ZM} {x : Int} {M' : ZM}, cc_readProduct a0 x1 M = some (x, M') → mK M = zK0 sl sx → zLI (d + 2) tb_X6_readProduct 0 [some (vR 5 (some a0)), some (vI x1), none] [] M x M' (zK0 sl sx)) : ∀ {n : Nat} {a0 : Nat} {x1 : Int} {x2 : Int} {M : ZM} {x : Int} {M' : ZM}, Re_readSum_b_12 N cc_readProduct n a0 x1 x2 M = some (x, M') → mK M = zK0 sl sx → zLI (d + 3) tb_X6_readSum 12 [some (vR 5 (some a0)), some (vI x1), some (vI x2), none] [] M x M' (zK0 sl sx) := by
  intro n
  induction n with
  | zero => intros; rename_i h _; cases h
  | succ n ih =>
    intro a0 x1 x2 M x M' h hK
    obtain ⟨I0, L0, ⟨ra0, rb0, rc0, rd0⟩, K0, c0⟩ := M
    obtain rfl : K0 = zK0 sl sx := hK
    rcases zit h with ⟨g1, h⟩ | ⟨g1, h⟩
    · rcases zit h with ⟨g2, h⟩ | ⟨g2, h⟩
      · have q := L_Re_readSum_b_43 (d := d) hcc_readProduct ih h rfl
        exact ⟨zR_go 8 q.1 (fun n => (if_pos g1).trans ((if_pos g2).trans rfl)), q.2⟩
      · rcases zit h with ⟨g3, h⟩ | ⟨g3, h⟩
        · have q := L_Re_readSum_b_43 (d := d) hcc_readProduct ih h rfl
          exact ⟨zR_go 13 q.1 (fun n => (if_pos g1).trans ((if_neg g2).trans ((if_pos g3).trans rfl))), q.2⟩
        · obtain ⟨rfl, rfl⟩ := zrI h
          exact ⟨zR_ret 15 ((if_pos g1).trans ((if_neg g2).trans ((if_neg g3).trans rfl))), rfl⟩
    · obtain ⟨rfl, rfl⟩ := zrI h
      exact ⟨zR_ret 5 ((if_neg g1).trans rfl), rfl⟩
set_option maxRecDepth 20000 in
theorem L_Re_readSum_b {N d sl : Nat} {sx : Nat → Int} {cc_readProduct : Nat → Int → ZM → Option (Int × ZM)} (hcc_readProduct : ∀ {a0 : Nat} {x1 : Int} {M : ZM} {x : Int} {M' : ZM}, cc_readProduct a0 x1 M = some (x, M') → mK M = zK0 sl sx → zLI (d + 2) tb_X6_readProduct 0 [some (vR 5 (some a0)), some (vI x1), none] [] M x M' (zK0 sl sx)) {a0 : Nat} {x1 : Int} {M : ZM} {x : Int} {M' : ZM} (h : Re_readSum_b N cc_readProduct a0 x1 M = some (x, M')) (hK : mK M = zK0 sl sx) : zLI (d + 3) tb_X6_readSum 0 [some (vR 5 (some a0)), some (vI x1), none, none] [] M x M' (zK0 sl sx) := by
  obtain ⟨I0, L0, ⟨ra0, rb0, rc0, rd0⟩, K0, c0⟩ := M
  obtain rfl : K0 = zK0 sl sx := hK
  obtain ⟨v101, M101, f101, h⟩ := zBx h
  have q101 := hcc_readProduct f101 rfl
  obtain ⟨I101, L101, ⟨ra101, rb101, rc101, rd101⟩, K101, c101⟩ := M101
  obtain rfl : K101 = zK0 sl sx := q101.2
  suffices w101 : zLI (d + 3) tb_X6_readSum 5 [some (vR 5 (some a0)), some (vI x1), none, none] [vI v101] (I101, L101, (ra101, rb101, rc101, rd101), zK0 sl sx, c101) x M' (zK0 sl sx) from ⟨zR_call (rest := []) 3 q101.1 (fun n => rfl) w101.1, w101.2⟩
  rcases zit h with ⟨g1, h⟩ | ⟨g1, h⟩
  · obtain ⟨rfl, rfl⟩ := zrI h
    exact ⟨zR_ret 3 ((if_pos g1).trans rfl), rfl⟩
  · have q := L_Re_readSum_b_12 (d := d) hcc_readProduct h rfl
    exact ⟨zR_go 3 q.1 (fun n => (if_neg g1).trans rfl), q.2⟩
set_option maxRecDepth 20000 in
theorem L_Re_readTest_b_72 {N d sl : Nat} {sx : Nat → Int} {cc_readSum : Nat → Int → ZM → Option (Int × ZM)} (hcc_readSum : ∀ {a0 : Nat} {x1 : Int} {M : ZM} {x : Int} {M' : ZM}, cc_readSum a0 x1 M = some (x, M') → mK M = zK0 sl sx → zLI (d + 2) tb_X6_readSum 0 [some (vR 5 (some a0)), some (vI x1), none, none] [] M x M' (zK0 sl sx)) {b0 : Nat} {y1 : Int} {M : ZM} {x : Int} {M' : ZM} (h : Re_readTest_b_72 N cc_readSum b0 y1 M = some (x, M')) (hK : mK M = zK0 sl sx) : zLI (d + 3) tb_X6_readTest 72 [none, none, none] [vI y1, vR 3 (some b0)] M x M' (zK0 sl sx) := by
  obtain ⟨I0, L0, ⟨ra0, rb0, rc0, rd0⟩, K0, c0⟩ := M
  obtain rfl : K0 = zK0 sl sx := hK
  obtain ⟨v101, M101, f101, h⟩ := zBx h
  have q101 := L_Nu_add (d := (d + 2)) f101 rfl
  obtain ⟨I101, L101, ⟨ra101, rb101, rc101, rd101⟩, K101, c101⟩ := M101
  obtain rfl : K101 = zK0 sl sx := q101.2
  suffices w101 : zLI (d + 3) tb_X6_readTest 75 [none, none, none] [vI v101] (I101, L101, (ra101, rb101, rc101, rd101), zK0 sl sx, c101) x M' (zK0 sl sx) from ⟨zR_call (rest := []) 1 q101.1 (fun n => rfl) w101.1, w101.2⟩
  obtain ⟨rfl, rfl⟩ := zrI h
  exact ⟨zR_ret 3 (rfl), rfl⟩
set_option maxRecDepth 20000 in
theorem L_Re_readTest_b_32 {N d sl : Nat} {sx : Nat → Int} {cc_readSum : Nat → Int → ZM → Option (Int × ZM)} (hcc_readSum : ∀ {a0 : Nat} {x1 : Int} {M : ZM} {x : Int} {M' : ZM}, cc_readSum a0 x1 M = some (x, M') → mK M = zK0 sl sx → zLI (d + 2) tb_X6_readSum 0 [some (vR 5 (some a0)), some (vI x1), none, none] [] M x M' (zK0 sl sx)) {a0 : Nat} {x1 : Int} {x2 : Int} {M : ZM} {x : Int} {M' : ZM} (h : Re_readTest_b_32 N cc_readSum a0 x1 x2 M = some (x, M')) (hK : mK M = zK0 sl sx) : zLI (d + 3) tb_X6_readTest 32 [some (vR 5 (some a0)), some (vI x1), some (vI x2)] [] M x M' (zK0 sl sx) := by
  obtain ⟨I0, L0, ⟨ra0, rb0, rc0, rd0⟩, K0, c0⟩ := M
  obtain rfl : K0 = zK0 sl sx := hK
  obtain ⟨M101, f101, h⟩ := zBvx h
  have q101 := L_Ta_pass (d := (d + 1)) f101 rfl
  obtain ⟨I101, L101, ⟨ra101, rb101, rc101, rd101⟩, K101, c101⟩ := M101
  obtain rfl : K101 = zK0 sl sx := q101.2
  suffices w101 : zLI (d + 3) tb_X6_readTest 39 [some (vR 5 (some a0)), some (vI x1), some (vI x2)] [] (I101, L101, (ra101, rb101, rc101, rd101), zK0 sl sx, c101) x M' (zK0 sl sx) from ⟨zR_call (rest := []) 3 q101.1 (fun n => rfl) w101.1, w101.2⟩
  obtain ⟨v102, M102, f102, h⟩ := zBx h
  have q102 := hcc_readSum f102 rfl
  obtain ⟨I102, L102, ⟨ra102, rb102, rc102, rd102⟩, K102, c102⟩ := M102
  obtain rfl : K102 = zK0 sl sx := q102.2
  suffices w102 : zLI (d + 3) tb_X6_readTest 44 [some (vR 5 (some a0)), some (vI x1), some (vI x2)] [vI v102] (I102, L102, (ra102, rb102, rc102, rd102), zK0 sl sx, c102) x M' (zK0 sl sx) from ⟨zR_call (rest := []) 3 q102.1 (fun n => rfl) w102.1, w102.2⟩
  rcases zit h with ⟨g1, h⟩ | ⟨g1, h⟩
  · obtain ⟨rfl, rfl⟩ := zrI h
    exact ⟨zR_ret 3 ((if_pos g1).trans rfl), rfl⟩
  · obtain ⟨p103, g2, h⟩ := zOx h
    obtain rfl : rc102 = some p103 := g2
    rcases zit h with ⟨g3, h⟩ | ⟨g3, h⟩
    · have q := L_Re_readTest_b_72 (d := d) hcc_readSum h rfl
      exact ⟨zR_go 10 (zR_up (ls' := [some (vR 5 (some a0)), some (vI x1), some (vI x2)]) q.1 ⟨.inl rfl, .inl rfl, .inl rfl, trivial⟩) (fun n => (if_neg g1).trans ((if_pos g3).trans rfl)), q.2⟩
    · have q := L_Re_readTest_b_72 (d := d) hcc_readSum h rfl
      exact ⟨zR_go 9 (zR_up (ls' := [some (vR 5 (some a0)), some (vI x1), some (vI x2)]) q.1 ⟨.inl rfl, .inl rfl, .inl rfl, trivial⟩) (fun n => (if_neg g1).trans ((if_neg g3).trans rfl)), q.2⟩
set_option maxRecDepth 20000 in
theorem L_Re_readTest_b {N d sl : Nat} {sx : Nat → Int} {cc_readSum : Nat → Int → ZM → Option (Int × ZM)} (hcc_readSum : ∀ {a0 : Nat} {x1 : Int} {M : ZM} {x : Int} {M' : ZM}, cc_readSum a0 x1 M = some (x, M') → mK M = zK0 sl sx → zLI (d + 2) tb_X6_readSum 0 [some (vR 5 (some a0)), some (vI x1), none, none] [] M x M' (zK0 sl sx)) {a0 : Nat} {x1 : Int} {M : ZM} {x : Int} {M' : ZM} (h : Re_readTest_b N cc_readSum a0 x1 M = some (x, M')) (hK : mK M = zK0 sl sx) : zLI (d + 3) tb_X6_readTest 0 [some (vR 5 (some a0)), some (vI x1), none] [] M x M' (zK0 sl sx) := by
  obtain ⟨I0, L0, ⟨ra0, rb0, rc0, rd0⟩, K0, c0⟩ := M
  obtain rfl : K0 = zK0 sl sx := hK
  obtain ⟨v101, M101, f101, h⟩ := zBx h
  have q101 := hcc_readSum f101 rfl
  obtain ⟨I101, L101, ⟨ra101, rb101, rc101, rd101⟩, K101, c101⟩ := M101
  obtain rfl : K101 = zK0 sl sx := q101.2
  suffices w101 : zLI (d + 3) tb_X6_readTest 5 [some (vR 5 (some a0)), some (vI x1), none] [vI v101] (I101, L101, (ra101, rb101, rc101, rd101), zK0 sl sx, c101) x M' (zK0 sl sx) from ⟨zR_call (rest := []) 3 q101.1 (fun n => rfl) w101.1, w101.2⟩
  rcases zit h with ⟨g1, h⟩ | ⟨g1, h⟩
  · obtain ⟨rfl, rfl⟩ := zrI h
    exact ⟨zR_ret 3 ((if_pos g1).trans rfl), rfl⟩
  · replace h := zWx h
    rcases zit h with ⟨g2, h⟩ | ⟨g2, h⟩
    · have q := L_Re_readTest_b_32 (d := d) hcc_readSum h rfl
      exact ⟨zR_go 8 q.1 (fun n => (if_neg g1).trans ((if_pos g2).trans rfl)), q.2⟩
    · rcases zit h with ⟨g3, h⟩ | ⟨g3, h⟩
      · have q := L_Re_readTest_b_32 (d := d) hcc_readSum h rfl
        exact ⟨zR_go 11 q.1 (fun n => (if_neg g1).trans ((if_neg g2).trans ((if_pos g3).trans rfl))), q.2⟩
      · obtain ⟨rfl, rfl⟩ := zrI h
        exact ⟨zR_ret 13 ((if_neg g1).trans ((if_neg g2).trans ((if_neg g3).trans rfl))), rfl⟩
set_option maxRecDepth 20000 in
theorem L_Re_readE_b_84 {N d sl : Nat} {sx : Nat → Int} {cc_readTest : Nat → Int → ZM → Option (Int × ZM)} {rec12 : Nat → Int → Int → ZM → Option (Int × ZM)} (hcc_readTest : ∀ {a0 : Nat} {x1 : Int} {M : ZM} {x : Int} {M' : ZM}, cc_readTest a0 x1 M = some (x, M') → mK M = zK0 sl sx → zLI (d + 2) tb_X6_readTest 0 [some (vR 5 (some a0)), some (vI x1), none] [] M x M' (zK0 sl sx)) (hrec12 : ∀ {a0 : Nat} {x1 : Int} {x2 : Int} {M : ZM} {x : Int} {M' : ZM}, rec12 a0 x1 x2 M = some (x, M') → mK M = zK0 sl sx → zLI (d + 3) tb_X6_readE 12 [some (vR 5 (some a0)), some (vI x1), some (vI x2), none] [] M x M' (zK0 sl sx)) {a0 : Nat} {x1 : Int} {x2 : Int} {b0 : Nat} {y1 : Int} {M : ZM} {x : Int} {M' : ZM} (h : Re_readE_b_84 N cc_readTest rec12 a0 x1 x2 b0 y1 M = some (x, M')) (hK : mK M = zK0 sl sx) : zLI (d + 3) tb_X6_readE 84 [some (vR 5 (some a0)), some (vI x1), some (vI x2), none] [vI y1, vR 3 (some b0)] M x M' (zK0 sl sx) := by
  obtain ⟨I0, L0, ⟨ra0, rb0, rc0, rd0⟩, K0, c0⟩ := M
  obtain rfl : K0 = zK0 sl sx := hK
  obtain ⟨v101, M101, f101, h⟩ := zBx h
  have q101 := L_Nu_add (d := (d + 2)) f101 rfl
  obtain ⟨I101, L101, ⟨ra101, rb101, rc101, rd101⟩, K101, c101⟩ := M101
  obtain rfl : K101 = zK0 sl sx := q101.2
  suffices w101 : zLI (d + 3) tb_X6_readE 87 [some (vR 5 (some a0)), some (vI x1), some (vI x2), none] [vI v101] (I101, L101, (ra101, rb101, rc101, rd101), zK0 sl sx, c101) x M' (zK0 sl sx) from ⟨zR_call (rest := []) 1 q101.1 (fun n => rfl) w101.1, w101.2⟩
  replace h := zWx h
  have q := hrec12 h rfl
  exact ⟨zR_go 3 q.1 (fun n => rfl), q.2⟩
set_option maxRecDepth 20000 in
theorem L_Re_readE_b_43 {N d sl : Nat} {sx : Nat → Int} {cc_readTest : Nat → Int → ZM → Option (Int × ZM)} {rec12 : Nat → Int → Int → ZM → Option (Int × ZM)} (hcc_readTest : ∀ {a0 : Nat} {x1 : Int} {M : ZM} {x : Int} {M' : ZM}, cc_readTest a0 x1 M = some (x, M') → mK M = zK0 sl sx → zLI (d + 2) tb_X6_readTest 0 [some (vR 5 (some a0)), some (vI x1), none] [] M x M' (zK0 sl sx)) (hrec12 : ∀ {a0 : Nat} {x1 : Int} {x2 : Int} {M : ZM} {x : Int} {M' : ZM}, rec12 a0 x1 x2 M = some (x, M') → mK M = zK0 sl sx → zLI (d + 3) tb_X6_readE 12 [some (vR 5 (some a0)), some (vI x1), some (vI x2), none] [] M x M' (zK0 sl sx)) {a0 : Nat} {x1 : Int} {x2 : Int} {o3 : Option Nat} {M : ZM} {x : Int} {M' : ZM} (h : Re_readE_b_43 N cc_readTest rec12 a0 x1 x2 o3 M = some (x, M')) (hK : mK M = zK0 sl sx) : zLI (d + 3) tb_X6_readE 43 [some (vR 5 (some a0)), some (vI x1), some (vI x2), some (vR 12 o3)] [] M x M' (zK0 sl sx) := by
  obtain ⟨I0, L0, ⟨ra0, rb0, rc0, rd0⟩, K0, c0⟩ := M
  obtain rfl : K0 = zK0 sl sx := hK
  obtain ⟨M101, f101, h⟩ := zBvx h
  have q101 := L_Ta_pass (d := (d + 1)) f101 rfl
  obtain ⟨I101, L101, ⟨ra101, rb101, rc101, rd101⟩, K101, c101⟩ := M101
  obtain rfl : K101 = zK0 sl sx := q101.2
  suffices w101 : zLI (d + 3) tb_X6_readE 50 [some (vR 5 (some a0)), some (vI x1), some (vI x2), some (vR 12 o3)] [] (I101, L101, (ra101, rb101, rc101, rd101), zK0 sl sx, c101) x M' (zK0 sl sx) from ⟨zR_call (rest := []) 3 q101.1 (fun n => rfl) w101.1, w101.2⟩
  obtain ⟨v102, M102, f102, h⟩ := zBx h
  have q102 := hcc_readTest f102 rfl
  obtain ⟨I102, L102, ⟨ra102, rb102, rc102, rd102⟩, K102, c102⟩ := M102
  obtain rfl : K102 = zK0 sl sx := q102.2
  suffices w102 : zLI (d + 3) tb_X6_readE 55 [some (vR 5 (some a0)), some (vI x1), some (vI x2), some (vR 12 o3)] [vI v102] (I102, L102, (ra102, rb102, rc102, rd102), zK0 sl sx, c102) x M' (zK0 sl sx) from ⟨zR_call (rest := []) 3 q102.1 (fun n => rfl) w102.1, w102.2⟩
  rcases zit h with ⟨g1, h⟩ | ⟨g1, h⟩
  · obtain ⟨rfl, rfl⟩ := zrI h
    exact ⟨zR_ret 3 ((if_pos g1).trans rfl), rfl⟩
  · obtain ⟨p103, g2, h⟩ := zOx h
    obtain rfl : rc102 = some p103 := g2
    rcases zit h with ⟨g3, h⟩ | ⟨g3, h⟩
    · have q := L_Re_readE_b_84 (d := d) hcc_readTest hrec12 h rfl
      exact ⟨zR_go 10 (zR_up (ls' := [some (vR 5 (some a0)), some (vI x1), some (vI x2), some (vR 12 o3)]) q.1 ⟨.inr rfl, .inr rfl, .inr rfl, .inl rfl, trivial⟩) (fun n => (if_neg g1).trans ((if_pos g3).trans rfl)), q.2⟩
    · have q := L_Re_readE_b_84 (d := d) hcc_readTest hrec12 h rfl
      exact ⟨zR_go 9 (zR_up (ls' := [some (vR 5 (some a0)), some (vI x1), some (vI x2), some (vR 12 o3)]) q.1 ⟨.inr rfl, .inr rfl, .inr rfl, .inl rfl, trivial⟩) (fun n => (if_neg g1).trans ((if_neg g3).trans rfl)), q.2⟩
set_option maxRecDepth 20000 in
theorem L_Re_readE_b_12 {N d sl : Nat} {sx : Nat → Int} {cc_readTest : Nat → Int → ZM → Option (Int × ZM)} (hcc_readTest : ∀ {a0 : Nat} {x1 : Int} {M : ZM} {x : Int} {M' : ZM}, cc_readTest a0 x1 M = some (x, M') → mK M = zK0 sl sx → zLI (d + 2) tb_X6_readTest 0 [some (vR 5 (some a0)), some (vI x1), none] [] M x M' (zK0 sl sx)) : ∀ {n : Nat} {a0 : Nat} {x1 : Int} {x2 : Int} {M : ZM} {x : Int} {M' : ZM}, Re_readE_b_12 N cc_readTest n a0 x1 x2 M = some (x, M') → mK M = zK0 sl sx → zLI (d + 3) tb_X6_readE 12 [some (vR 5 (some a0)), some (vI x1), some (vI x2), none] [] M x M' (zK0 sl sx) := by
  intro n
  induction n with
  | zero => intros; rename_i h _; cases h
  | succ n ih =>
    intro a0 x1 x2 M x M' h hK
    obtain ⟨I0, L0, ⟨ra0, rb0, rc0, rd0⟩, K0, c0⟩ := M
    obtain rfl : K0 = zK0 sl sx := hK
    rcases zit h with ⟨g1, h⟩ | ⟨g1, h⟩
    · replace h := zWx h
      rcases zit h with ⟨g2, h⟩ | ⟨g2, h⟩
      · have q := L_Re_readE_b_43 (d := d) hcc_readTest ih h rfl
        exact ⟨zR_go 10 q.1 (fun n => (if_pos g1).trans ((if_pos g2).trans rfl)), q.2⟩
      · rcases zit h with ⟨g3, h⟩ | ⟨g3, h⟩
        · have q := L_Re_readE_b_43 (d := d) hcc_readTest ih h rfl
          exact ⟨zR_go 13 q.1 (fun n => (if_pos g1).trans ((if_neg g2).trans ((if_pos g3).trans rfl))), q.2⟩
        · obtain ⟨rfl, rfl⟩ := zrI h
          exact ⟨zR_ret 15 ((if_pos g1).trans ((if_neg g2).trans ((if_neg g3).trans rfl))), rfl⟩
    · obtain ⟨rfl, rfl⟩ := zrI h
      exact ⟨zR_ret 5 ((if_neg g1).trans rfl), rfl⟩
set_option maxRecDepth 20000 in
theorem L_Re_readE_b {N d sl : Nat} {sx : Nat → Int} {cc_readTest : Nat → Int → ZM → Option (Int × ZM)} (hcc_readTest : ∀ {a0 : Nat} {x1 : Int} {M : ZM} {x : Int} {M' : ZM}, cc_readTest a0 x1 M = some (x, M') → mK M = zK0 sl sx → zLI (d + 2) tb_X6_readTest 0 [some (vR 5 (some a0)), some (vI x1), none] [] M x M' (zK0 sl sx)) {a0 : Nat} {x1 : Int} {M : ZM} {x : Int} {M' : ZM} (h : Re_readE_b N cc_readTest a0 x1 M = some (x, M')) (hK : mK M = zK0 sl sx) : zLI (d + 3) tb_X6_readE 0 [some (vR 5 (some a0)), some (vI x1), none, none] [] M x M' (zK0 sl sx) := by
  obtain ⟨I0, L0, ⟨ra0, rb0, rc0, rd0⟩, K0, c0⟩ := M
  obtain rfl : K0 = zK0 sl sx := hK
  obtain ⟨v101, M101, f101, h⟩ := zBx h
  have q101 := hcc_readTest f101 rfl
  obtain ⟨I101, L101, ⟨ra101, rb101, rc101, rd101⟩, K101, c101⟩ := M101
  obtain rfl : K101 = zK0 sl sx := q101.2
  suffices w101 : zLI (d + 3) tb_X6_readE 5 [some (vR 5 (some a0)), some (vI x1), none, none] [vI v101] (I101, L101, (ra101, rb101, rc101, rd101), zK0 sl sx, c101) x M' (zK0 sl sx) from ⟨zR_call (rest := []) 3 q101.1 (fun n => rfl) w101.1, w101.2⟩
  rcases zit h with ⟨g1, h⟩ | ⟨g1, h⟩
  · obtain ⟨rfl, rfl⟩ := zrI h
    exact ⟨zR_ret 3 ((if_pos g1).trans rfl), rfl⟩
  · have q := L_Re_readE_b_12 (d := d) hcc_readTest h rfl
    exact ⟨zR_go 3 q.1 (fun n => (if_neg g1).trans rfl), q.2⟩
theorem L_Re_P {N sl : Nat} {sx : Nat → Int} : ∀ {k d : Nat} {a0 : Nat} {x1 : Int} {M : ZM} {x : Int} {M' : ZM}, Re_P N k a0 x1 M = some (x, M') → mK M = zK0 sl sx → zLI (d + 5 * k + 3) tb_X6_readPart 0 [some (vR 5 (some a0)), some (vI x1), none, none, none, none] [] M x M' (zK0 sl sx) := by
  intro k
  induction k with
  | zero => intros; rename_i h _; cases h
  | succ k ih =>
    intro d a0 x1 M x M' h hK
    have h5 : d + 5 * (k + 1) + 3 = d + 5 * k + 5 + 3 := by omega
    rw [h5]
    refine L_Re_readPart_b (d := d + 5 * k + 5) (fun h hK => ?_) (fun h hK => ?_) h hK
    · exact L_Re_readE_b (d := d + 5 * k + 4) (fun h hK => L_Re_readTest_b (d := d + 5 * k + 3) (fun h hK => L_Re_readSum_b (d := d + 5 * k + 2) (fun h hK => L_Re_readProduct_b (d := d + 5 * k + 1) (fun h hK => ih (d := d) h hK) h hK) h hK) h hK) h hK
    · have e : d + 5 * k + 5 + 2 = (d + 4) + 5 * k + 3 := by omega
      show zLI (d + 5 * k + 5 + 2) _ _ _ _ _ _ _ _
      rw [e]
      exact ih (d := d + 4) h hK
theorem L_Re_readE {N d sl : Nat} {sx : Nat → Int} {a0 : Nat} {x1 : Int} {M : ZM} {x : Int} {M' : ZM} (h : Re_readE N a0 x1 M = some (x, M')) (hK : mK M = zK0 sl sx) : zLI (d + 42) tb_X6_readE 0 [some (vR 5 (some a0)), some (vI x1), none, none] [] M x M' (zK0 sl sx) :=
  L_Re_readE_b (d := d + 39) (fun h hK => L_Re_readTest_b (d := d + 38) (fun h hK => L_Re_readSum_b (d := d + 37) (fun h hK => L_Re_readProduct_b (d := d + 36) (fun h hK => L_Re_P (k := 7) (d := d) h hK) h hK) h hK) h hK) h hK
set_option maxRecDepth 20000 in
theorem L_Nu_get {N d sl : Nat} {sx : Nat → Int} {a0 : Nat} {x1 : Int} {M : ZM} {x : Int} {M' : ZM} (h : Nu_get N a0 x1 M = some (x, M')) (hK : mK M = zK0 sl sx) : zLI (d + 0) tb_X4_get 0 [some (vR 3 (some a0)), some (vI x1)] [] M x M' (zK0 sl sx) := by
  obtain ⟨I0, L0, ⟨ra0, rb0, rc0, rd0⟩, K0, c0⟩ := M
  obtain rfl : K0 = zK0 sl sx := hK
  rcases zit h with ⟨g1, h⟩ | ⟨g1, h⟩
  · obtain ⟨rfl, rfl⟩ := zrI h
    exact ⟨zR_ret 4 ((if_pos g1).trans rfl), rfl⟩
  · rcases zit h with ⟨g2, h⟩ | ⟨g2, h⟩
    · obtain ⟨g3, h⟩ := zIx h
      obtain ⟨rfl, rfl⟩ := zrI h
      exact ⟨zR_ret 12 ((if_neg g1).trans ((if_pos g2).trans ((if_pos g3).trans rfl))), rfl⟩
    · obtain ⟨rfl, rfl⟩ := zrI h
      exact ⟨zR_ret 8 ((if_neg g1).trans ((if_neg g2).trans rfl)), rfl⟩
set_option maxRecDepth 20000 in
theorem L_Pa_turnedBy {N d sl : Nat} {sx : Nat → Int} {x0 : Int} {M : ZM} {x : Int} {M' : ZM} (h : Pa_turnedBy N x0 M = some (x, M')) (hK : mK M = zK0 sl sx) : zLI (d + 0) tb_X5_turnedBy 0 [some (vI x0)] [] M x M' (zK0 sl sx) := by
  obtain ⟨I0, L0, ⟨ra0, rb0, rc0, rd0⟩, K0, c0⟩ := M
  obtain rfl : K0 = zK0 sl sx := hK
  obtain ⟨rfl, rfl⟩ := zrI h
  exact ⟨zR_ret 5 (rfl), rfl⟩
set_option maxRecDepth 20000 in
theorem L_Pa_drift {N d sl : Nat} {sx : Nat → Int} {x0 : Int} {x1 : Int} {M : ZM} {x : Int} {M' : ZM} (h : Pa_drift N x0 x1 M = some (x, M')) (hK : mK M = zK0 sl sx) : zLI (d + 1) tb_X5_drift 0 [some (vI x0), some (vI x1), none] [] M x M' (zK0 sl sx) := by
  obtain ⟨I0, L0, ⟨ra0, rb0, rc0, rd0⟩, K0, c0⟩ := M
  obtain rfl : K0 = zK0 sl sx := hK
  obtain ⟨v101, M101, f101, h⟩ := zBx h
  have q101 := L_Pa_turnedBy (d := d) f101 rfl
  obtain ⟨I101, L101, ⟨ra101, rb101, rc101, rd101⟩, K101, c101⟩ := M101
  obtain rfl : K101 = zK0 sl sx := q101.2
  suffices w101 : zLI (d + 1) tb_X5_drift 4 [some (vI x0), some (vI x1), none] [vI v101] (I101, L101, (ra101, rb101, rc101, rd101), zK0 sl sx, c101) x M' (zK0 sl sx) from ⟨zR_call (rest := []) 2 q101.1 (fun n => rfl) w101.1, w101.2⟩
  rcases zit h with ⟨g1, h⟩ | ⟨g1, h⟩
  · obtain ⟨rfl, rfl⟩ := zrI h
    exact ⟨zR_ret 5 ((if_pos g1).trans rfl), rfl⟩
  · rcases zit h with ⟨g2, h⟩ | ⟨g2, h⟩
    · rcases zit h with ⟨g3, h⟩ | ⟨g3, h⟩
      · obtain ⟨rfl, rfl⟩ := zrI h
        exact ⟨zR_ret 11 ((if_neg g1).trans ((if_pos g2).trans ((if_pos g3).trans rfl))), rfl⟩
      · rcases zit h with ⟨g4, h⟩ | ⟨g4, h⟩
        · obtain ⟨rfl, rfl⟩ := zrI h
          exact ⟨zR_ret 15 ((if_neg g1).trans ((if_pos g2).trans ((if_neg g3).trans ((if_pos g4).trans rfl)))), rfl⟩
        · obtain ⟨rfl, rfl⟩ := zrI h
          exact ⟨zR_ret 14 ((if_neg g1).trans ((if_pos g2).trans ((if_neg g3).trans ((if_neg g4).trans rfl)))), rfl⟩
    · rcases zit h with ⟨g5, h⟩ | ⟨g5, h⟩
      · obtain ⟨rfl, rfl⟩ := zrI h
        exact ⟨zR_ret 12 ((if_neg g1).trans ((if_neg g2).trans ((if_pos g5).trans rfl))), rfl⟩
      · obtain ⟨rfl, rfl⟩ := zrI h
        exact ⟨zR_ret 11 ((if_neg g1).trans ((if_neg g2).trans ((if_neg g5).trans rfl))), rfl⟩
set_option maxRecDepth 20000 in
theorem L_Pa_tenths_156 {N d sl : Nat} {sx : Nat → Int} {y0 : Int} {y1 : Int} {M : ZM} {x : Int} {M' : ZM} (h : Pa_tenths_156 N y0 y1 M = some (x, M')) (hK : mK M = zK0 sl sx) : zLI (d + 2) tb_X5_tenths 156 [none, none, none, none, none, none, none, none, none, none] [vI y1, vI y0] M x M' (zK0 sl sx) := by
  obtain ⟨I0, L0, ⟨ra0, rb0, rc0, rd0⟩, K0, c0⟩ := M
  obtain rfl : K0 = zK0 sl sx := hK
  obtain ⟨rfl, rfl⟩ := zrI h
  exact ⟨zR_ret 4 (rfl), rfl⟩
set_option maxRecDepth 20000 in
theorem L_Pa_tenths_105 {N d sl : Nat} {sx : Nat → Int} {a0 : Nat} {x1 : Int} {x2 : Int} {x8 : Int} {x9 : Int} {M : ZM} {x : Int} {M' : ZM} (h : Pa_tenths_105 N a0 x1 x2 x8 x9 M = some (x, M')) (hK : mK M = zK0 sl sx) : zLI (d + 2) tb_X5_tenths 105 [some (vR 4 (some a0)), some (vI x1), some (vI x2), none, none, none, none, none, some (vI x8), some (vI x9)] [] M x M' (zK0 sl sx) := by
  obtain ⟨I0, L0, ⟨ra0, rb0, rc0, rd0⟩, K0, c0⟩ := M
  obtain rfl : K0 = zK0 sl sx := hK
  rcases zit h with ⟨g1, h⟩ | ⟨g1, h⟩
  · obtain ⟨rfl, rfl⟩ := zrI h
    exact ⟨zR_ret 5 ((if_pos g1).trans rfl), rfl⟩
  · rcases zit h with ⟨g2, h⟩ | ⟨g2, h⟩
    · obtain ⟨rfl, rfl⟩ := zrI h
      exact ⟨zR_ret 8 ((if_neg g1).trans ((if_pos g2).trans rfl)), rfl⟩
    · obtain ⟨v101, M101, f101, h⟩ := zBx h
      have q101 := L_Pa_drift (d := d) f101 rfl
      obtain ⟨I101, L101, ⟨ra101, rb101, rc101, rd101⟩, K101, c101⟩ := M101
      obtain rfl : K101 = zK0 sl sx := q101.2
      suffices w101 : zLI (d + 2) tb_X5_tenths 125 [some (vR 4 (some a0)), some (vI x1), some (vI x2), none, none, none, none, none, some (vI x8), some (vI x9)] [vI v101, vI x9] (I101, L101, (ra101, rb101, rc101, rd101), zK0 sl sx, c101) x M' (zK0 sl sx) from ⟨zR_call (rest := [vI x9]) 10 q101.1 (fun n => (if_neg g1).trans ((if_neg g2).trans rfl)) w101.1, w101.2⟩
      rcases zit h with ⟨g3, h⟩ | ⟨g3, h⟩
      · obtain ⟨v102, M102, f102, h⟩ := zBx h
        have q102 := L_Nu_get (d := (d + 1)) f102 rfl
        obtain ⟨I102, L102, ⟨ra102, rb102, rc102, rd102⟩, K102, c102⟩ := M102
        obtain rfl : K102 = zK0 sl sx := q102.2
        suffices w102 : zLI (d + 2) tb_X5_tenths 141 [some (vR 4 (some a0)), some (vI x1), some (vI x2), none, none, none, none, none, some (vI x8), some (vI x9)] [vI v102] (I102, L102, (ra102, rb102, rc102, rd102), zK0 sl sx, c102) x M' (zK0 sl sx) from ⟨zR_call (rest := []) 7 q102.1 (fun n => (if_pos g3).trans rfl) w102.1, w102.2⟩
        obtain ⟨g4, h⟩ := zIx h
        rcases zit h with ⟨g5, h⟩ | ⟨g5, h⟩
        · have q := L_Pa_tenths_156 (d := d) h rfl
          exact ⟨zR_go 8 (zR_up (ls' := [some (vR 4 (some a0)), some (vI x1), some (vI x2), none, none, none, none, none, some (vI x8), some (vI x9)]) q.1 ⟨.inl rfl, .inl rfl, .inl rfl, .inr rfl, .inr rfl, .inr rfl, .inr rfl, .inr rfl, .inl rfl, .inl rfl, trivial⟩) (fun n => (if_pos g4).trans ((if_pos g5).trans rfl)), q.2⟩
        · have q := L_Pa_tenths_156 (d := d) h rfl
          exact ⟨zR_go 7 (zR_up (ls' := [some (vR 4 (some a0)), some (vI x1), some (vI x2), none, none, none, none, none, some (vI x8), some (vI x9)]) q.1 ⟨.inl rfl, .inl rfl, .inl rfl, .inr rfl, .inr rfl, .inr rfl, .inr rfl, .inr rfl, .inl rfl, .inl rfl, trivial⟩) (fun n => (if_pos g4).trans ((if_neg g5).trans rfl)), q.2⟩
      · obtain ⟨rfl, rfl⟩ := zrI h
        exact ⟨zR_ret 3 ((if_neg g3).trans rfl), rfl⟩
set_option maxRecDepth 20000 in
theorem L_Pa_tenths_86 {N d sl : Nat} {sx : Nat → Int} {a0 : Nat} {x1 : Int} {x2 : Int} {x4 : Int} {x8 : Int} {y0 : Int} {M : ZM} {x : Int} {M' : ZM} (h : Pa_tenths_86 N a0 x1 x2 x4 x8 y0 M = some (x, M')) (hK : mK M = zK0 sl sx) : zLI (d + 2) tb_X5_tenths 86 [some (vR 4 (some a0)), some (vI x1), some (vI x2), none, some (vI x4), none, none, none, some (vI x8), none] [vI y0] M x M' (zK0 sl sx) := by
  obtain ⟨I0, L0, ⟨ra0, rb0, rc0, rd0⟩, K0, c0⟩ := M
  obtain rfl : K0 = zK0 sl sx := hK
  rcases zit h with ⟨g1, h⟩ | ⟨g1, h⟩
  · replace h := zWx h
    have q := L_Pa_tenths_105 (d := d) h rfl
    exact ⟨zR_go 7 (zR_up (ls' := [some (vR 4 (some a0)), some (vI x1), some (vI x2), none, some (vI x4), none, none, none, some (vI (z32 (-x8))), some (vI y0)]) q.1 ⟨.inr rfl, .inr rfl, .inr rfl, .inr rfl, .inl rfl, .inr rfl, .inr rfl, .inr rfl, .inr rfl, .inr rfl, trivial⟩) (fun n => (if_pos g1).trans rfl), q.2⟩
  · rcases zit h with ⟨g2, h⟩ | ⟨g2, h⟩
    · replace h := zWx h
      have q := L_Pa_tenths_105 (d := d) h rfl
      exact ⟨zR_go 10 (zR_up (ls' := [some (vR 4 (some a0)), some (vI x1), some (vI x2), none, some (vI x4), none, none, none, some (vI (z32 (-x8))), some (vI y0)]) q.1 ⟨.inr rfl, .inr rfl, .inr rfl, .inr rfl, .inl rfl, .inr rfl, .inr rfl, .inr rfl, .inr rfl, .inr rfl, trivial⟩) (fun n => (if_neg g1).trans ((if_pos g2).trans rfl)), q.2⟩
    · have q := L_Pa_tenths_105 (d := d) h rfl
      exact ⟨zR_go 7 (zR_up (ls' := [some (vR 4 (some a0)), some (vI x1), some (vI x2), none, some (vI x4), none, none, none, some (vI x8), some (vI y0)]) q.1 ⟨.inr rfl, .inr rfl, .inr rfl, .inr rfl, .inl rfl, .inr rfl, .inr rfl, .inr rfl, .inr rfl, .inr rfl, trivial⟩) (fun n => (if_neg g1).trans ((if_neg g2).trans rfl)), q.2⟩
set_option maxRecDepth 20000 in
theorem L_Pa_tenths_58 {N d sl : Nat} {sx : Nat → Int} {a0 : Nat} {x1 : Int} {x2 : Int} {x4 : Int} {x5 : Int} {x6 : Int} {y0 : Int} {M : ZM} {x : Int} {M' : ZM} (h : Pa_tenths_58 N a0 x1 x2 x4 x5 x6 y0 M = some (x, M')) (hK : mK M = zK0 sl sx) : zLI (d + 2) tb_X5_tenths 58 [some (vR 4 (some a0)), some (vI x1), some (vI x2), none, some (vI x4), some (vI x5), some (vI x6), none, none, none] [vI y0] M x M' (zK0 sl sx) := by
  obtain ⟨I0, L0, ⟨ra0, rb0, rc0, rd0⟩, K0, c0⟩ := M
  obtain rfl : K0 = zK0 sl sx := hK
  rcases zit h with ⟨g1, h⟩ | ⟨g1, h⟩
  · rcases zit h with ⟨g2, h⟩ | ⟨g2, h⟩
    · have q := L_Pa_tenths_86 (d := d) h rfl
      exact ⟨zR_go 8 (zR_up (ls' := [some (vR 4 (some a0)), some (vI x1), some (vI x2), none, some (vI x4), some (vI x5), some (vI x6), some (vI y0), some (vI x6), none]) q.1 ⟨.inr rfl, .inr rfl, .inr rfl, .inr rfl, .inr rfl, .inl rfl, .inl rfl, .inl rfl, .inr rfl, .inr rfl, trivial⟩) (fun n => (if_pos g1).trans ((if_pos g2).trans rfl)), q.2⟩
    · have q := L_Pa_tenths_86 (d := d) h rfl
      exact ⟨zR_go 9 (zR_up (ls' := [some (vR 4 (some a0)), some (vI x1), some (vI x2), none, some (vI x4), some (vI x5), some (vI x6), some (vI y0), some (vI x6), none]) q.1 ⟨.inr rfl, .inr rfl, .inr rfl, .inr rfl, .inr rfl, .inl rfl, .inl rfl, .inl rfl, .inr rfl, .inr rfl, trivial⟩) (fun n => (if_pos g1).trans ((if_neg g2).trans rfl)), q.2⟩
  · rcases zit h with ⟨g3, h⟩ | ⟨g3, h⟩
    · have q := L_Pa_tenths_86 (d := d) h rfl
      exact ⟨zR_go 9 (zR_up (ls' := [some (vR 4 (some a0)), some (vI x1), some (vI x2), none, some (vI x4), some (vI x5), some (vI x6), some (vI y0), some (vI x5), none]) q.1 ⟨.inr rfl, .inr rfl, .inr rfl, .inr rfl, .inr rfl, .inl rfl, .inl rfl, .inl rfl, .inr rfl, .inr rfl, trivial⟩) (fun n => (if_neg g1).trans ((if_pos g3).trans rfl)), q.2⟩
    · have q := L_Pa_tenths_86 (d := d) h rfl
      exact ⟨zR_go 10 (zR_up (ls' := [some (vR 4 (some a0)), some (vI x1), some (vI x2), none, some (vI x4), some (vI x5), some (vI x6), some (vI y0), some (vI x5), none]) q.1 ⟨.inr rfl, .inr rfl, .inr rfl, .inr rfl, .inr rfl, .inl rfl, .inl rfl, .inl rfl, .inr rfl, .inr rfl, trivial⟩) (fun n => (if_neg g1).trans ((if_neg g3).trans rfl)), q.2⟩
set_option maxRecDepth 20000 in
theorem L_Pa_tenths {N d sl : Nat} {sx : Nat → Int} {a0 : Nat} {x1 : Int} {x2 : Int} {x3 : Int} {x4 : Int} {M : ZM} {x : Int} {M' : ZM} (h : Pa_tenths N a0 x1 x2 x3 x4 M = some (x, M')) (hK : mK M = zK0 sl sx) : zLI (d + 2) tb_X5_tenths 0 [some (vR 4 (some a0)), some (vI x1), some (vI x2), some (vI x3), some (vI x4), none, none, none, none, none] [] M x M' (zK0 sl sx) := by
  obtain ⟨I0, L0, ⟨ra0, rb0, rc0, rd0⟩, K0, c0⟩ := M
  obtain rfl : K0 = zK0 sl sx := hK
  obtain ⟨g1, h⟩ := zIx h
  obtain ⟨g2, h⟩ := zIx h
  replace h := zWx h
  obtain ⟨g3, h⟩ := zIx h
  obtain ⟨g4, h⟩ := zIx h
  replace h := zWx h
  rcases zit h with ⟨g5, h⟩ | ⟨g5, h⟩
  · have q := L_Pa_tenths_58 (d := d) h rfl
    exact ⟨zR_go 32 (zR_up (ls' := [some (vR 4 (some a0)), some (vI x1), some (vI x2), some (vI x3), some (vI x4), some (vI (z32 ((z32 ((mI (I0, L0, (ra0, rb0, rc0, rd0), zK0 sl sx, c0) 30 a0 x3.toNat).tdiv 6)) - (z32 ((mI (I0, L0, (ra0, rb0, rc0, rd0), zK0 sl sx, c0) 30 a0 x1.toNat).tdiv 6))))), some (vI (z32 (((mI (I0, L0, (ra0, rb0, rc0, rd0), zK0 sl sx, c0) 30 a0 x3.toNat).tmod 6) - ((mI (I0, L0, (ra0, rb0, rc0, rd0), zK0 sl sx, c0) 30 a0 x1.toNat).tmod 6)))), none, none, none]) q.1 ⟨.inr rfl, .inr rfl, .inr rfl, .inl rfl, .inr rfl, .inr rfl, .inr rfl, .inr rfl, .inr rfl, .inr rfl, trivial⟩) (fun n => (if_pos g1).trans ((if_pos g2).trans ((if_pos g3).trans ((if_pos g4).trans ((if_pos g5).trans rfl))))), q.2⟩
  · rcases zit h with ⟨g6, h⟩ | ⟨g6, h⟩
    · have q := L_Pa_tenths_58 (d := d) h rfl
      exact ⟨zR_go 35 (zR_up (ls' := [some (vR 4 (some a0)), some (vI x1), some (vI x2), some (vI x3), some (vI x4), some (vI (z32 ((z32 ((mI (I0, L0, (ra0, rb0, rc0, rd0), zK0 sl sx, c0) 30 a0 x3.toNat).tdiv 6)) - (z32 ((mI (I0, L0, (ra0, rb0, rc0, rd0), zK0 sl sx, c0) 30 a0 x1.toNat).tdiv 6))))), some (vI (z32 (((mI (I0, L0, (ra0, rb0, rc0, rd0), zK0 sl sx, c0) 30 a0 x3.toNat).tmod 6) - ((mI (I0, L0, (ra0, rb0, rc0, rd0), zK0 sl sx, c0) 30 a0 x1.toNat).tmod 6)))), none, none, none]) q.1 ⟨.inr rfl, .inr rfl, .inr rfl, .inl rfl, .inr rfl, .inr rfl, .inr rfl, .inr rfl, .inr rfl, .inr rfl, trivial⟩) (fun n => (if_pos g1).trans ((if_pos g2).trans ((if_pos g3).trans ((if_pos g4).trans ((if_neg g5).trans ((if_pos g6).trans rfl)))))), q.2⟩
    · have q := L_Pa_tenths_58 (d := d) h rfl
      exact ⟨zR_go 34 (zR_up (ls' := [some (vR 4 (some a0)), some (vI x1), some (vI x2), some (vI x3), some (vI x4), some (vI (z32 ((z32 ((mI (I0, L0, (ra0, rb0, rc0, rd0), zK0 sl sx, c0) 30 a0 x3.toNat).tdiv 6)) - (z32 ((mI (I0, L0, (ra0, rb0, rc0, rd0), zK0 sl sx, c0) 30 a0 x1.toNat).tdiv 6))))), some (vI (z32 (((mI (I0, L0, (ra0, rb0, rc0, rd0), zK0 sl sx, c0) 30 a0 x3.toNat).tmod 6) - ((mI (I0, L0, (ra0, rb0, rc0, rd0), zK0 sl sx, c0) 30 a0 x1.toNat).tmod 6)))), none, none, none]) q.1 ⟨.inr rfl, .inr rfl, .inr rfl, .inl rfl, .inr rfl, .inr rfl, .inr rfl, .inr rfl, .inr rfl, .inr rfl, trivial⟩) (fun n => (if_pos g1).trans ((if_pos g2).trans ((if_pos g3).trans ((if_pos g4).trans ((if_neg g5).trans ((if_neg g6).trans rfl)))))), q.2⟩
set_option maxRecDepth 20000 in
theorem L_Pa_takenOf {N d sl : Nat} {sx : Nat → Int} {a0 : Nat} {x1 : Int} {x2 : Int} {M : ZM} {x : Int} {M' : ZM} (h : Pa_takenOf N a0 x1 x2 M = some (x, M')) (hK : mK M = zK0 sl sx) : zLI (d + 0) tb_X5_takenOf 0 [some (vR 4 (some a0)), some (vI x1), some (vI x2), none] [] M x M' (zK0 sl sx) := by
  obtain ⟨I0, L0, ⟨ra0, rb0, rc0, rd0⟩, K0, c0⟩ := M
  obtain rfl : K0 = zK0 sl sx := hK
  replace h := zWx h
  obtain ⟨g1, h⟩ := zIx h
  rcases zit h with ⟨g2, h⟩ | ⟨g2, h⟩
  · obtain ⟨rfl, rfl⟩ := zrI h
    exact ⟨zR_ret 17 ((if_pos g1).trans ((if_pos g2).trans rfl)), rfl⟩
  · obtain ⟨rfl, rfl⟩ := zrI h
    exact ⟨zR_ret 12 ((if_pos g1).trans ((if_neg g2).trans rfl)), rfl⟩
set_option maxRecDepth 20000 in
theorem L_St_isOpen {N d sl : Nat} {sx : Nat → Int} {a0 : Nat} {x1 : Int} {M : ZM} {x : Int} {M' : ZM} (h : St_isOpen N a0 x1 M = some (x, M')) (hK : mK M = zK0 sl sx) : zLI (d + 0) tb_X8_isOpen 0 [some (vR 7 (some a0)), some (vI x1)] [] M x M' (zK0 sl sx) := by
  obtain ⟨I0, L0, ⟨ra0, rb0, rc0, rd0⟩, K0, c0⟩ := M
  obtain rfl : K0 = zK0 sl sx := hK
  rcases zit h with ⟨g1, h⟩ | ⟨g1, h⟩
  · obtain ⟨rfl, rfl⟩ := zrI h
    exact ⟨zR_ret 9 ((if_pos g1).trans rfl), rfl⟩
  · obtain ⟨rfl, rfl⟩ := zrI h
    exact ⟨zR_ret 10 ((if_neg g1).trans rfl), rfl⟩
set_option maxRecDepth 20000 in
theorem L_St_isBroken {N d sl : Nat} {sx : Nat → Int} {a0 : Nat} {x1 : Int} {M : ZM} {x : Int} {M' : ZM} (h : St_isBroken N a0 x1 M = some (x, M')) (hK : mK M = zK0 sl sx) : zLI (d + 0) tb_X8_isBroken 0 [some (vR 7 (some a0)), some (vI x1)] [] M x M' (zK0 sl sx) := by
  obtain ⟨I0, L0, ⟨ra0, rb0, rc0, rd0⟩, K0, c0⟩ := M
  obtain rfl : K0 = zK0 sl sx := hK
  rcases zit h with ⟨g1, h⟩ | ⟨g1, h⟩
  · obtain ⟨rfl, rfl⟩ := zrI h
    exact ⟨zR_ret 9 ((if_pos g1).trans rfl), rfl⟩
  · obtain ⟨rfl, rfl⟩ := zrI h
    exact ⟨zR_ret 10 ((if_neg g1).trans rfl), rfl⟩
set_option maxRecDepth 20000 in
theorem L_St_runs {N d sl : Nat} {sx : Nat → Int} {a0 : Nat} {x1 : Int} {M : ZM} {x : Int} {M' : ZM} (h : St_runs N a0 x1 M = some (x, M')) (hK : mK M = zK0 sl sx) : zLI (d + 1) tb_X8_runs 0 [some (vR 7 (some a0)), some (vI x1)] [] M x M' (zK0 sl sx) := by
  obtain ⟨I0, L0, ⟨ra0, rb0, rc0, rd0⟩, K0, c0⟩ := M
  obtain rfl : K0 = zK0 sl sx := hK
  obtain ⟨v101, M101, f101, h⟩ := zBx h
  have q101 := L_St_isOpen (d := d) f101 rfl
  obtain ⟨I101, L101, ⟨ra101, rb101, rc101, rd101⟩, K101, c101⟩ := M101
  obtain rfl : K101 = zK0 sl sx := q101.2
  suffices w101 : zLI (d + 1) tb_X8_runs 5 [some (vR 7 (some a0)), some (vI x1)] [vI v101] (I101, L101, (ra101, rb101, rc101, rd101), zK0 sl sx, c101) x M' (zK0 sl sx) from ⟨zR_call (rest := []) 3 q101.1 (fun n => rfl) w101.1, w101.2⟩
  rcases zit h with ⟨g1, h⟩ | ⟨g1, h⟩
  · obtain ⟨rfl, rfl⟩ := zrI h
    exact ⟨zR_ret 3 ((if_pos g1).trans rfl), rfl⟩
  · obtain ⟨v102, M102, f102, h⟩ := zBx h
    have q102 := L_St_isBroken (d := d) f102 rfl
    obtain ⟨I102, L102, ⟨ra102, rb102, rc102, rd102⟩, K102, c102⟩ := M102
    obtain rfl : K102 = zK0 sl sx := q102.2
    suffices w102 : zLI (d + 1) tb_X8_runs 13 [some (vR 7 (some a0)), some (vI x1)] [vI v102] (I102, L102, (ra102, rb102, rc102, rd102), zK0 sl sx, c102) x M' (zK0 sl sx) from ⟨zR_call (rest := []) 4 q102.1 (fun n => (if_neg g1).trans rfl) w102.1, w102.2⟩
    rcases zit h with ⟨g2, h⟩ | ⟨g2, h⟩
    · obtain ⟨rfl, rfl⟩ := zrI h
      exact ⟨zR_ret 4 ((if_pos g2).trans rfl), rfl⟩
    · obtain ⟨rfl, rfl⟩ := zrI h
      exact ⟨zR_ret 3 ((if_neg g2).trans rfl), rfl⟩
set_option maxRecDepth 20000 in
theorem L_Fl_take_18 {N d sl : Nat} {sx : Nat → Int} {rec3 : Nat → Nat → Nat → Int → Int → ZM → Option ZM} (hrec3 : ∀ {a0 : Nat} {a1 : Nat} {a2 : Nat} {x3 : Int} {x4 : Int} {M : ZM} {M' : ZM}, rec3 a0 a1 a2 x3 x4 M = some M' → mK M = zK0 sl sx → zLV (d + 3) tb_X1_take 3 [some (vR 0 (some a0)), some (vR 4 (some a1)), some (vR 7 (some a2)), some (vI x3), some (vI x4), none, none] [] M M' (zK0 sl sx)) : ∀ {n : Nat} {a0 : Nat} {a1 : Nat} {a2 : Nat} {x3 : Int} {x4 : Int} {x5 : Int} {x6 : Int} {M : ZM} {M' : ZM}, Fl_take_18 N rec3 n a0 a1 a2 x3 x4 x5 x6 M = some M' → mK M = zK0 sl sx → zLV (d + 3) tb_X1_take 18 [some (vR 0 (some a0)), some (vR 4 (some a1)), some (vR 7 (some a2)), some (vI x3), some (vI x4), some (vI x5), some (vI x6)] [] M M' (zK0 sl sx) := by
  intro n
  induction n with
  | zero => intros; rename_i h _; cases h
  | succ n ih =>
    intro a0 a1 a2 x3 x4 x5 x6 M M' h hK
    obtain ⟨I0, L0, ⟨ra0, rb0, rc0, rd0⟩, K0, c0⟩ := M
    obtain rfl : K0 = zK0 sl sx := hK
    rcases zit h with ⟨g1, h⟩ | ⟨g1, h⟩
    · rcases zit h with ⟨g2, h⟩ | ⟨g2, h⟩
      · replace h := zWx h
        have q := ih h rfl
        exact ⟨zR_go 9 q.1 (fun n => (if_pos g1).trans ((if_pos g2).trans rfl)), q.2⟩
      · obtain ⟨v102, M102, f102, h⟩ := zBx h
        have q102 := L_St_runs (d := (d + 1)) f102 rfl
        obtain ⟨I102, L102, ⟨ra102, rb102, rc102, rd102⟩, K102, c102⟩ := M102
        obtain rfl : K102 = zK0 sl sx := q102.2
        suffices w102 : zLV (d + 3) tb_X1_take 40 [some (vR 0 (some a0)), some (vR 4 (some a1)), some (vR 7 (some a2)), some (vI x3), some (vI x4), some (vI x5), some (vI x6)] [vI v102] (I102, L102, (ra102, rb102, rc102, rd102), zK0 sl sx, c102) M' (zK0 sl sx) from ⟨zR_call (rest := []) 10 q102.1 (fun n => (if_pos g1).trans ((if_neg g2).trans rfl)) w102.1, w102.2⟩
        rcases zit h with ⟨g3, h⟩ | ⟨g3, h⟩
        · replace h := zWx h
          have q := ih h rfl
          exact ⟨zR_go 3 q.1 (fun n => (if_pos g3).trans rfl), q.2⟩
        · obtain ⟨g4, h⟩ := zIx h
          obtain ⟨v104, M104, f104, h⟩ := zBx h
          have q104 := L_Pa_tenths (d := d) f104 rfl
          obtain ⟨I104, L104, ⟨ra104, rb104, rc104, rd104⟩, K104, c104⟩ := M104
          obtain rfl : K104 = zK0 sl sx := q104.2
          suffices w104 : zLV (d + 3) tb_X1_take 61 [some (vR 0 (some a0)), some (vR 4 (some a1)), some (vR 7 (some a2)), some (vI x3), some (vI x4), some (vI x5), some (vI x6)] [vI v104, vI x5] (I104, L104, (ra104, rb104, rc104, rd104), zK0 sl sx, c104) M' (zK0 sl sx) from ⟨zR_call (rest := [vI x5]) 11 q104.1 (fun n => (if_neg g3).trans ((if_pos g4).trans rfl)) w104.1, w104.2⟩
          replace h := zWx h
          replace h := zWx h
          have q := ih h rfl
          exact ⟨zR_go 4 q.1 (fun n => rfl), q.2⟩
    · obtain ⟨v107, M107, f107, h⟩ := zBx h
      have q107 := L_Pa_takenOf (d := (d + 2)) f107 rfl
      obtain ⟨I107, L107, ⟨ra107, rb107, rc107, rd107⟩, K107, c107⟩ := M107
      obtain rfl : K107 = zK0 sl sx := q107.2
      suffices w107 : zLV (d + 3) tb_X1_take 84 [some (vR 0 (some a0)), some (vR 4 (some a1)), some (vR 7 (some a2)), some (vI x3), some (vI x4), some (vI x5), some (vI x6)] [vI v107, vI x4, vR 20 (some a0)] (I107, L107, (ra107, rb107, rc107, rd107), zK0 sl sx, c107) M' (zK0 sl sx) from ⟨zR_call (rest := [vI x4, vR 20 (some a0)]) 11 q107.1 (fun n => (if_neg g1).trans rfl) w107.1, w107.2⟩
      obtain ⟨g5, h⟩ := zIx h
      replace h := zWx h
      replace h := zWx h
      have q := hrec3 h rfl
      exact ⟨zR_go 3 (zR_up (ls' := [some (vR 0 (some a0)), some (vR 4 (some a1)), some (vR 7 (some a2)), some (vI x3), some (vI (z32 (x4 + 1))), some (vI x5), some (vI x6)]) q.1 ⟨.inr rfl, .inr rfl, .inr rfl, .inr rfl, .inr rfl, .inl rfl, .inl rfl, trivial⟩) (fun n => (if_pos g5).trans rfl), q.2⟩
set_option maxRecDepth 20000 in
theorem L_Fl_take_3 {N d sl : Nat} {sx : Nat → Int} : ∀ {n : Nat} {a0 : Nat} {a1 : Nat} {a2 : Nat} {x3 : Int} {x4 : Int} {M : ZM} {M' : ZM}, Fl_take_3 N n a0 a1 a2 x3 x4 M = some M' → mK M = zK0 sl sx → zLV (d + 3) tb_X1_take 3 [some (vR 0 (some a0)), some (vR 4 (some a1)), some (vR 7 (some a2)), some (vI x3), some (vI x4), none, none] [] M M' (zK0 sl sx) := by
  intro n
  induction n with
  | zero => intros; rename_i h _; cases h
  | succ n ih =>
    intro a0 a1 a2 x3 x4 M M' h hK
    obtain ⟨I0, L0, ⟨ra0, rb0, rc0, rd0⟩, K0, c0⟩ := M
    obtain rfl : K0 = zK0 sl sx := hK
    rcases zit h with ⟨g1, h⟩ | ⟨g1, h⟩
    · have q := L_Fl_take_18 (d := d) ih h rfl
      exact ⟨zR_go 8 q.1 (fun n => (if_pos g1).trans rfl), q.2⟩
    · obtain rfl := zrV h
      exact ⟨zR_ret 5 ((if_neg g1).trans rfl), rfl⟩
set_option maxRecDepth 20000 in
theorem L_Fl_take {N d sl : Nat} {sx : Nat → Int} {a0 : Nat} {a1 : Nat} {a2 : Nat} {x3 : Int} {M : ZM} {M' : ZM} (h : Fl_take N a0 a1 a2 x3 M = some M') (hK : mK M = zK0 sl sx) : zLV (d + 3) tb_X1_take 0 [some (vR 0 (some a0)), some (vR 4 (some a1)), some (vR 7 (some a2)), some (vI x3), none, none, none] [] M M' (zK0 sl sx) := by
  obtain ⟨I0, L0, ⟨ra0, rb0, rc0, rd0⟩, K0, c0⟩ := M
  obtain rfl : K0 = zK0 sl sx := hK
  have q := L_Fl_take_3 (d := d) h rfl
  exact ⟨zR_go 2 q.1 (fun n => rfl), q.2⟩
set_option maxRecDepth 20000 in
theorem L_La_fact {N d sl : Nat} {sx : Nat → Int} {x0 : Int} {x1 : Int} {x2 : Int} {x3 : Int} {x4 : Int} {M : ZM} {x : Int} {M' : ZM} (h : La_fact N x0 x1 x2 x3 x4 M = some (x, M')) (hK : mK M = zK0 sl sx) : zLI (d + 0) tb_X2_fact 0 [some (vI x0), some (vI x1), some (vI x2), some (vI x3), some (vI x4)] [] M x M' (zK0 sl sx) := by
  obtain ⟨I0, L0, ⟨ra0, rb0, rc0, rd0⟩, K0, c0⟩ := M
  obtain rfl : K0 = zK0 sl sx := hK
  rcases zit h with ⟨g1, h⟩ | ⟨g1, h⟩
  · obtain ⟨rfl, rfl⟩ := zrI h
    exact ⟨zR_ret 4 ((if_pos g1).trans rfl), rfl⟩
  · rcases zit h with ⟨g2, h⟩ | ⟨g2, h⟩
    · obtain ⟨rfl, rfl⟩ := zrI h
      exact ⟨zR_ret 4 ((if_neg g1).trans ((if_pos g2).trans rfl)), rfl⟩
    · rcases zit h with ⟨g3, h⟩ | ⟨g3, h⟩
      · obtain ⟨rfl, rfl⟩ := zrI h
        exact ⟨zR_ret 4 ((if_neg g1).trans ((if_neg g2).trans ((if_pos g3).trans rfl))), rfl⟩
      · obtain ⟨rfl, rfl⟩ := zrI h
        exact ⟨zR_ret 4 ((if_neg g1).trans ((if_neg g2).trans ((if_neg g3).trans rfl))), rfl⟩
set_option maxRecDepth 20000 in
theorem L_La_joined {N d sl : Nat} {sx : Nat → Int} {x0 : Int} {x1 : Int} {x2 : Int} {M : ZM} {x : Int} {M' : ZM} (h : La_joined N x0 x1 x2 M = some (x, M')) (hK : mK M = zK0 sl sx) : zLI (d + 0) tb_X2_joined 0 [some (vI x0), some (vI x1), some (vI x2)] [] M x M' (zK0 sl sx) := by
  obtain ⟨I0, L0, ⟨ra0, rb0, rc0, rd0⟩, K0, c0⟩ := M
  obtain rfl : K0 = zK0 sl sx := hK
  rcases zit h with ⟨g1, h⟩ | ⟨g1, h⟩
  · obtain ⟨rfl, rfl⟩ := zrI h
    exact ⟨zR_ret 6 ((if_pos g1).trans rfl), rfl⟩
  · rcases zit h with ⟨g2, h⟩ | ⟨g2, h⟩
    · obtain ⟨rfl, rfl⟩ := zrI h
      exact ⟨zR_ret 6 ((if_neg g1).trans ((if_pos g2).trans rfl)), rfl⟩
    · rcases zit h with ⟨g3, h⟩ | ⟨g3, h⟩
      · rcases zit h with ⟨g4, h⟩ | ⟨g4, h⟩
        · obtain ⟨rfl, rfl⟩ := zrI h
          exact ⟨zR_ret 8 ((if_neg g1).trans ((if_neg g2).trans ((if_pos g3).trans ((if_pos g4).trans rfl)))), rfl⟩
        · obtain ⟨rfl, rfl⟩ := zrI h
          exact ⟨zR_ret 7 ((if_neg g1).trans ((if_neg g2).trans ((if_pos g3).trans ((if_neg g4).trans rfl)))), rfl⟩
      · rcases zit h with ⟨g5, h⟩ | ⟨g5, h⟩
        · rcases zit h with ⟨g6, h⟩ | ⟨g6, h⟩
          · obtain ⟨rfl, rfl⟩ := zrI h
            exact ⟨zR_ret 8 ((if_neg g1).trans ((if_neg g2).trans ((if_neg g3).trans ((if_pos g5).trans ((if_pos g6).trans rfl))))), rfl⟩
          · obtain ⟨rfl, rfl⟩ := zrI h
            exact ⟨zR_ret 7 ((if_neg g1).trans ((if_neg g2).trans ((if_neg g3).trans ((if_pos g5).trans ((if_neg g6).trans rfl))))), rfl⟩
        · rcases zit h with ⟨g7, h⟩ | ⟨g7, h⟩
          · rcases zit h with ⟨g8, h⟩ | ⟨g8, h⟩
            · rcases zit h with ⟨g9, h⟩ | ⟨g9, h⟩
              · obtain ⟨rfl, rfl⟩ := zrI h
                exact ⟨zR_ret 8 ((if_neg g1).trans ((if_neg g2).trans ((if_neg g3).trans ((if_neg g5).trans ((if_pos g7).trans ((if_pos g8).trans ((if_pos g9).trans rfl))))))), rfl⟩
              · obtain ⟨rfl, rfl⟩ := zrI h
                exact ⟨zR_ret 9 ((if_neg g1).trans ((if_neg g2).trans ((if_neg g3).trans ((if_neg g5).trans ((if_pos g7).trans ((if_pos g8).trans ((if_neg g9).trans rfl))))))), rfl⟩
            · obtain ⟨rfl, rfl⟩ := zrI h
              exact ⟨zR_ret 7 ((if_neg g1).trans ((if_neg g2).trans ((if_neg g3).trans ((if_neg g5).trans ((if_pos g7).trans ((if_neg g8).trans rfl)))))), rfl⟩
          · rcases zit h with ⟨g10, h⟩ | ⟨g10, h⟩
            · rcases zit h with ⟨g11, h⟩ | ⟨g11, h⟩
              · obtain ⟨rfl, rfl⟩ := zrI h
                exact ⟨zR_ret 6 ((if_neg g1).trans ((if_neg g2).trans ((if_neg g3).trans ((if_neg g5).trans ((if_neg g7).trans ((if_pos g10).trans ((if_pos g11).trans rfl))))))), rfl⟩
              · rcases zit h with ⟨g12, h⟩ | ⟨g12, h⟩
                · obtain ⟨rfl, rfl⟩ := zrI h
                  exact ⟨zR_ret 8 ((if_neg g1).trans ((if_neg g2).trans ((if_neg g3).trans ((if_neg g5).trans ((if_neg g7).trans ((if_pos g10).trans ((if_neg g11).trans ((if_pos g12).trans rfl)))))))), rfl⟩
                · obtain ⟨rfl, rfl⟩ := zrI h
                  exact ⟨zR_ret 9 ((if_neg g1).trans ((if_neg g2).trans ((if_neg g3).trans ((if_neg g5).trans ((if_neg g7).trans ((if_pos g10).trans ((if_neg g11).trans ((if_neg g12).trans rfl)))))))), rfl⟩
            · obtain ⟨rfl, rfl⟩ := zrI h
              exact ⟨zR_ret 6 ((if_neg g1).trans ((if_neg g2).trans ((if_neg g3).trans ((if_neg g5).trans ((if_neg g7).trans ((if_neg g10).trans rfl)))))), rfl⟩
set_option maxRecDepth 20000 in
theorem L_La_value_6 {N d sl : Nat} {sx : Nat → Int} : ∀ {n : Nat} {a0 : Nat} {x1 : Int} {x2 : Int} {x3 : Int} {x4 : Int} {x5 : Int} {x6 : Int} {M : ZM} {x : Int} {M' : ZM}, La_value_6 N n a0 x1 x2 x3 x4 x5 x6 M = some (x, M') → mK M = zK0 sl sx → zLI (d + 1) tb_X2_value 6 [some (vR 1 (some a0)), some (vI x1), some (vI x2), some (vI x3), some (vI x4), some (vI x5), some (vI x6), none] [] M x M' (zK0 sl sx) := by
  intro n
  induction n with
  | zero => intros; rename_i h _; cases h
  | succ n ih =>
    intro a0 x1 x2 x3 x4 x5 x6 M x M' h hK
    obtain ⟨I0, L0, ⟨ra0, rb0, rc0, rd0⟩, K0, c0⟩ := M
    obtain rfl : K0 = zK0 sl sx := hK
    rcases zit h with ⟨g1, h⟩ | ⟨g1, h⟩
    · obtain ⟨v101, M101, f101, h⟩ := zBx h
      have q101 := L_Nu_get (d := d) f101 rfl
      obtain ⟨I101, L101, ⟨ra101, rb101, rc101, rd101⟩, K101, c101⟩ := M101
      obtain rfl : K101 = zK0 sl sx := q101.2
      suffices w101 : zLI (d + 1) tb_X2_value 27 [some (vR 1 (some a0)), some (vI x1), some (vI x2), some (vI x3), some (vI x4), some (vI x5), some (vI x6), none] [vI v101] (I101, L101, (ra101, rb101, rc101, rd101), zK0 sl sx, c101) x M' (zK0 sl sx) from ⟨zR_call (rest := []) 9 q101.1 (fun n => (if_pos g1).trans rfl) w101.1, w101.2⟩
      rcases zit h with ⟨g2, h⟩ | ⟨g2, h⟩
      · rcases zit h with ⟨g3, h⟩ | ⟨g3, h⟩
        · rcases zit h with ⟨g4, h⟩ | ⟨g4, h⟩
          · obtain ⟨rfl, rfl⟩ := zrI h
            exact ⟨zR_ret 12 ((if_pos g2).trans ((if_pos g3).trans ((if_pos g4).trans rfl))), rfl⟩
          · obtain ⟨g5, h⟩ := zIx h
            rcases zit h with ⟨g6, h⟩ | ⟨g6, h⟩
            · obtain ⟨g7, h⟩ := zIx h
              replace h := zWx h
              replace h := zWx h
              have q := ih h rfl
              exact ⟨zR_go 28 (zR_up (ls' := [some (vR 1 (some a0)), some (vI x1), some (vI x2), some (vI x3), some (vI x4), some (vI x5), some (vI (z32 (x6 + 1))), some (vI v101)]) q.1 ⟨.inr rfl, .inr rfl, .inr rfl, .inr rfl, .inr rfl, .inr rfl, .inr rfl, .inl rfl, trivial⟩) (fun n => (if_pos g2).trans ((if_pos g3).trans ((if_neg g4).trans ((if_pos g5).trans ((if_pos g6).trans ((if_pos g7).trans rfl)))))), q.2⟩
            · obtain ⟨g8, h⟩ := zIx h
              replace h := zWx h
              replace h := zWx h
              have q := ih h rfl
              exact ⟨zR_go 27 (zR_up (ls' := [some (vR 1 (some a0)), some (vI x1), some (vI x2), some (vI x3), some (vI x4), some (vI x5), some (vI (z32 (x6 + 1))), some (vI v101)]) q.1 ⟨.inr rfl, .inr rfl, .inr rfl, .inr rfl, .inr rfl, .inr rfl, .inr rfl, .inl rfl, trivial⟩) (fun n => (if_pos g2).trans ((if_pos g3).trans ((if_neg g4).trans ((if_pos g5).trans ((if_neg g6).trans ((if_pos g8).trans rfl)))))), q.2⟩
        · rcases zit h with ⟨g9, h⟩ | ⟨g9, h⟩
          · obtain ⟨rfl, rfl⟩ := zrI h
            exact ⟨zR_ret 12 ((if_pos g2).trans ((if_neg g3).trans ((if_pos g9).trans rfl))), rfl⟩
          · replace h := zWx h
            obtain ⟨g10, h⟩ := zIx h
            obtain ⟨g11, h⟩ := zIx h
            obtain ⟨v107, M107, f107, h⟩ := zBx h
            have q107 := L_La_joined (d := d) f107 rfl
            obtain ⟨I107, L107, ⟨ra107, rb107, rc107, rd107⟩, K107, c107⟩ := M107
            obtain rfl : K107 = zK0 sl sx := q107.2
            suffices w107 : zLI (d + 1) tb_X2_value 165 [some (vR 1 (some a0)), some (vI x1), some (vI x2), some (vI x3), some (vI x4), some (vI (z32 (x5 + (-1)))), some (vI x6), some (vI v101)] [vI v107, vI (z32 ((z32 (x5 + (-1))) - 1)), vR 25 (some a0)] (I107, L107, (ra107, rb107, rc107, rd107), zK0 sl sx, c107) x M' (zK0 sl sx) from ⟨zR_call (rest := [vI (z32 ((z32 (x5 + (-1))) - 1)), vR 25 (some a0)]) 28 q107.1 (fun n => (if_pos g2).trans ((if_neg g3).trans ((if_neg g9).trans ((if_pos g10).trans ((if_pos g11).trans rfl))))) w107.1, w107.2⟩
            obtain ⟨g12, h⟩ := zIx h
            replace h := zWx h
            replace h := zWx h
            have q := ih h rfl
            exact ⟨zR_go 3 (zR_up (ls' := [some (vR 1 (some a0)), some (vI x1), some (vI x2), some (vI x3), some (vI x4), some (vI (z32 (x5 + (-1)))), some (vI (z32 (x6 + 1))), some (vI v101)]) q.1 ⟨.inr rfl, .inr rfl, .inr rfl, .inr rfl, .inr rfl, .inr rfl, .inr rfl, .inl rfl, trivial⟩) (fun n => (if_pos g12).trans rfl), q.2⟩
      · rcases zit h with ⟨g13, h⟩ | ⟨g13, h⟩
        · rcases zit h with ⟨g14, h⟩ | ⟨g14, h⟩
          · obtain ⟨v110, M110, f110, h⟩ := zBx h
            have q110 := L_La_fact (d := d) f110 rfl
            obtain ⟨I110, L110, ⟨ra110, rb110, rc110, rd110⟩, K110, c110⟩ := M110
            obtain rfl : K110 = zK0 sl sx := q110.2
            suffices w110 : zLI (d + 1) tb_X2_value 74 [some (vR 1 (some a0)), some (vI x1), some (vI x2), some (vI x3), some (vI x4), some (vI x5), some (vI x6), some (vI v101)] [vI v110, vI x5, vR 25 (some a0)] (I110, L110, (ra110, rb110, rc110, rd110), zK0 sl sx, c110) x M' (zK0 sl sx) from ⟨zR_call (rest := [vI x5, vR 25 (some a0)]) 20 q110.1 (fun n => (if_neg g2).trans ((if_pos g13).trans ((if_pos g14).trans rfl))) w110.1, w110.2⟩
            obtain ⟨g15, h⟩ := zIx h
            replace h := zWx h
            replace h := zWx h
            replace h := zWx h
            have q := ih h rfl
            exact ⟨zR_go 5 (zR_up (ls' := [some (vR 1 (some a0)), some (vI x1), some (vI x2), some (vI x3), some (vI x4), some (vI (z32 (x5 + 1))), some (vI (z32 (x6 + 1))), some (vI v101)]) q.1 ⟨.inr rfl, .inr rfl, .inr rfl, .inr rfl, .inr rfl, .inr rfl, .inr rfl, .inl rfl, trivial⟩) (fun n => (if_pos g15).trans rfl), q.2⟩
          · obtain ⟨g16, h⟩ := zIx h
            replace h := zWx h
            replace h := zWx h
            replace h := zWx h
            have q := ih h rfl
            exact ⟨zR_go 21 (zR_up (ls' := [some (vR 1 (some a0)), some (vI x1), some (vI x2), some (vI x3), some (vI x4), some (vI (z32 (x5 + 1))), some (vI (z32 (x6 + 1))), some (vI v101)]) q.1 ⟨.inr rfl, .inr rfl, .inr rfl, .inr rfl, .inr rfl, .inr rfl, .inr rfl, .inl rfl, trivial⟩) (fun n => (if_neg g2).trans ((if_pos g13).trans ((if_neg g14).trans ((if_pos g16).trans rfl)))), q.2⟩
        · obtain ⟨rfl, rfl⟩ := zrI h
          exact ⟨zR_ret 11 ((if_neg g2).trans ((if_neg g13).trans rfl)), rfl⟩
    · rcases zit h with ⟨g17, h⟩ | ⟨g17, h⟩
      · obtain ⟨g18, h⟩ := zIx h
        obtain ⟨rfl, rfl⟩ := zrI h
        exact ⟨zR_ret 15 ((if_neg g1).trans ((if_pos g17).trans ((if_pos g18).trans rfl))), rfl⟩
      · obtain ⟨rfl, rfl⟩ := zrI h
        exact ⟨zR_ret 9 ((if_neg g1).trans ((if_neg g17).trans rfl)), rfl⟩
set_option maxRecDepth 20000 in
theorem L_La_value {N d sl : Nat} {sx : Nat → Int} {a0 : Nat} {x1 : Int} {x2 : Int} {x3 : Int} {x4 : Int} {M : ZM} {x : Int} {M' : ZM} (h : La_value N a0 x1 x2 x3 x4 M = some (x, M')) (hK : mK M = zK0 sl sx) : zLI (d + 1) tb_X2_value 0 [some (vR 1 (some a0)), some (vI x1), some (vI x2), some (vI x3), some (vI x4), none, none, none] [] M x M' (zK0 sl sx) := by
  obtain ⟨I0, L0, ⟨ra0, rb0, rc0, rd0⟩, K0, c0⟩ := M
  obtain rfl : K0 = zK0 sl sx := hK
  have q := L_La_value_6 (d := d) h rfl
  exact ⟨zR_go 4 q.1 (fun n => rfl), q.2⟩
set_option maxRecDepth 20000 in
theorem L_Pa_gives_21 {N d sl : Nat} {sx : Nat → Int} {a0 : Nat} {x1 : Int} {x2 : Int} {x5 : Int} {y0 : Int} {M : ZM} {x : Int} {M' : ZM} (h : Pa_gives_21 N a0 x1 x2 x5 y0 M = some (x, M')) (hK : mK M = zK0 sl sx) : zLI (d + 2) tb_X5_gives 21 [some (vR 4 (some a0)), some (vI x1), some (vI x2), none, none, some (vI x5), none, none] [vI y0] M x M' (zK0 sl sx) := by
  obtain ⟨I0, L0, ⟨ra0, rb0, rc0, rd0⟩, K0, c0⟩ := M
  obtain rfl : K0 = zK0 sl sx := hK
  obtain ⟨v101, M101, f101, h⟩ := zBx h
  have q101 := L_La_value (d := d) f101 rfl
  obtain ⟨I101, L101, ⟨ra101, rb101, rc101, rd101⟩, K101, c101⟩ := M101
  obtain rfl : K101 = zK0 sl sx := q101.2
  suffices w101 : zLI (d + 2) tb_X5_gives 37 [some (vR 4 (some a0)), some (vI x1), some (vI x2), none, none, some (vI x5), some (vI y0), none] [vI v101, vI 0] (I101, L101, (ra101, rb101, rc101, rd101), zK0 sl sx, c101) x M' (zK0 sl sx) from ⟨zR_call (rest := [vI 0]) 9 q101.1 (fun n => rfl) w101.1, w101.2⟩
  replace h := zWx h
  rcases zit h with ⟨g1, h⟩ | ⟨g1, h⟩
  · obtain ⟨rfl, rfl⟩ := zrI h
    exact ⟨zR_ret 9 ((if_pos g1).trans rfl), rfl⟩
  · rcases zit h with ⟨g2, h⟩ | ⟨g2, h⟩
    · obtain ⟨rfl, rfl⟩ := zrI h
      exact ⟨zR_ret 16 ((if_neg g1).trans ((if_pos g2).trans rfl)), rfl⟩
    · obtain ⟨rfl, rfl⟩ := zrI h
      exact ⟨zR_ret 15 ((if_neg g1).trans ((if_neg g2).trans rfl)), rfl⟩
set_option maxRecDepth 20000 in
theorem L_Pa_gives {N d sl : Nat} {sx : Nat → Int} {a0 : Nat} {x1 : Int} {x2 : Int} {x3 : Int} {x4 : Int} {M : ZM} {x : Int} {M' : ZM} (h : Pa_gives N a0 x1 x2 x3 x4 M = some (x, M')) (hK : mK M = zK0 sl sx) : zLI (d + 2) tb_X5_gives 0 [some (vR 4 (some a0)), some (vI x1), some (vI x2), some (vI x3), some (vI x4), none, none, none] [] M x M' (zK0 sl sx) := by
  obtain ⟨I0, L0, ⟨ra0, rb0, rc0, rd0⟩, K0, c0⟩ := M
  obtain rfl : K0 = zK0 sl sx := hK
  obtain ⟨v101, M101, f101, h⟩ := zBx h
  have q101 := L_Pa_turnedBy (d := (d + 1)) f101 rfl
  obtain ⟨I101, L101, ⟨ra101, rb101, rc101, rd101⟩, K101, c101⟩ := M101
  obtain rfl : K101 = zK0 sl sx := q101.2
  suffices w101 : zLI (d + 2) tb_X5_gives 4 [some (vR 4 (some a0)), some (vI x1), some (vI x2), some (vI x3), some (vI x4), none, none, none] [vI v101] (I101, L101, (ra101, rb101, rc101, rd101), zK0 sl sx, c101) x M' (zK0 sl sx) from ⟨zR_call (rest := []) 2 q101.1 (fun n => rfl) w101.1, w101.2⟩
  rcases zit h with ⟨g1, h⟩ | ⟨g1, h⟩
  · have q := L_Pa_gives_21 (d := d) h rfl
    exact ⟨zR_go 7 (zR_up (ls' := [some (vR 4 (some a0)), some (vI x1), some (vI x2), some (vI x3), some (vI x4), some (vI v101), none, none]) q.1 ⟨.inr rfl, .inr rfl, .inr rfl, .inl rfl, .inl rfl, .inr rfl, .inr rfl, .inr rfl, trivial⟩) (fun n => (if_pos g1).trans rfl), q.2⟩
  · have q := L_Pa_gives_21 (d := d) h rfl
    exact ⟨zR_go 8 (zR_up (ls' := [some (vR 4 (some a0)), some (vI x1), some (vI x2), some (vI x3), some (vI x4), some (vI v101), none, none]) q.1 ⟨.inr rfl, .inr rfl, .inr rfl, .inl rfl, .inl rfl, .inr rfl, .inr rfl, .inr rfl, trivial⟩) (fun n => (if_neg g1).trans rfl), q.2⟩
set_option maxRecDepth 20000 in
theorem L_Pa_left {N d sl : Nat} {sx : Nat → Int} {x0 : Int} {x1 : Int} {M : ZM} {x : Int} {M' : ZM} (h : Pa_left N x0 x1 M = some (x, M')) (hK : mK M = zK0 sl sx) : zLI (d + 0) tb_X5_left 0 [some (vI x0), some (vI x1)] [] M x M' (zK0 sl sx) := by
  obtain ⟨I0, L0, ⟨ra0, rb0, rc0, rd0⟩, K0, c0⟩ := M
  obtain rfl : K0 = zK0 sl sx := hK
  obtain ⟨rfl, rfl⟩ := zrI h
  exact ⟨zR_ret 8 (rfl), rfl⟩
set_option maxRecDepth 20000 in
theorem L_Fl_give_83 {N d sl : Nat} {sx : Nat → Int} {rec8 : Nat → Nat → Nat → Int → Int → ZM → Option ZM} (hrec8 : ∀ {a0 : Nat} {a1 : Nat} {a2 : Nat} {x3 : Int} {x4 : Int} {M : ZM} {M' : ZM}, rec8 a0 a1 a2 x3 x4 M = some M' → mK M = zK0 sl sx → zLV (d + 3) tb_X1_give 8 [some (vR 0 (some a0)), some (vR 4 (some a1)), some (vR 7 (some a2)), some (vI x3), some (vI x4)] [] M M' (zK0 sl sx)) {a0 : Nat} {a1 : Nat} {a2 : Nat} {x3 : Int} {x4 : Int} {b0 : Nat} {y1 : Int} {y2 : Int} {M : ZM} {M' : ZM} (h : Fl_give_83 N rec8 a0 a1 a2 x3 x4 b0 y1 y2 M = some M') (hK : mK M = zK0 sl sx) : zLV (d + 3) tb_X1_give 83 [some (vR 0 (some a0)), some (vR 4 (some a1)), some (vR 7 (some a2)), some (vI x3), some (vI x4)] [vI y2, vI y1, vR 22 (some b0)] M M' (zK0 sl sx) := by
  obtain ⟨I0, L0, ⟨ra0, rb0, rc0, rd0⟩, K0, c0⟩ := M
  obtain rfl : K0 = zK0 sl sx := hK
  obtain ⟨g1, h⟩ := zIx h
  replace h := zWx h
  obtain ⟨g2, h⟩ := zIx h
  replace h := zWx h
  replace h := zWx h
  have q := hrec8 h rfl
  exact ⟨zR_go 12 q.1 (fun n => (if_pos g1).trans ((if_pos g2).trans rfl)), q.2⟩
set_option maxRecDepth 20000 in
theorem L_Fl_give_8 {N d sl : Nat} {sx : Nat → Int} : ∀ {n : Nat} {a0 : Nat} {a1 : Nat} {a2 : Nat} {x3 : Int} {x4 : Int} {M : ZM} {M' : ZM}, Fl_give_8 N n a0 a1 a2 x3 x4 M = some M' → mK M = zK0 sl sx → zLV (d + 3) tb_X1_give 8 [some (vR 0 (some a0)), some (vR 4 (some a1)), some (vR 7 (some a2)), some (vI x3), some (vI x4)] [] M M' (zK0 sl sx) := by
  intro n
  induction n with
  | zero => intros; rename_i h _; cases h
  | succ n ih =>
    intro a0 a1 a2 x3 x4 M M' h hK
    obtain ⟨I0, L0, ⟨ra0, rb0, rc0, rd0⟩, K0, c0⟩ := M
    obtain rfl : K0 = zK0 sl sx := hK
    rcases zit h with ⟨g1, h⟩ | ⟨g1, h⟩
    · obtain ⟨g2, h⟩ := zIx h
      obtain ⟨v101, M101, f101, h⟩ := zBx h
      have q101 := L_Pa_left (d := (d + 2)) f101 rfl
      obtain ⟨I101, L101, ⟨ra101, rb101, rc101, rd101⟩, K101, c101⟩ := M101
      obtain rfl : K101 = zK0 sl sx := q101.2
      suffices w101 : zLV (d + 3) tb_X1_give 34 [some (vR 0 (some a0)), some (vR 4 (some a1)), some (vR 7 (some a2)), some (vI x3), some (vI x4)] [vI v101, vI x4, vR 21 (some a0)] (I101, L101, (ra101, rb101, rc101, rd101), zK0 sl sx, c101) M' (zK0 sl sx) from ⟨zR_call (rest := [vI x4, vR 21 (some a0)]) 13 q101.1 (fun n => (if_pos g1).trans ((if_pos g2).trans rfl)) w101.1, w101.2⟩
      obtain ⟨g3, h⟩ := zIx h
      replace h := zWx h
      obtain ⟨v103, M103, f103, h⟩ := zBx h
      have q103 := L_St_runs (d := (d + 1)) f103 rfl
      obtain ⟨I103, L103, ⟨ra103, rb103, rc103, rd103⟩, K103, c103⟩ := M103
      obtain rfl : K103 = zK0 sl sx := q103.2
      suffices w103 : zLV (d + 3) tb_X1_give 47 [some (vR 0 (some a0)), some (vR 4 (some a1)), some (vR 7 (some a2)), some (vI x3), some (vI x4)] [vI v103, vI x4, vR 22 (some a0)] (I103, L103, (ra103, rb103, rc103, rd103), zK0 sl sx, c103) M' (zK0 sl sx) from ⟨zR_call (rest := [vI x4, vR 22 (some a0)]) 7 q103.1 (fun n => (if_pos g3).trans rfl) w103.1, w103.2⟩
      rcases zit h with ⟨g4, h⟩ | ⟨g4, h⟩
      · have q := L_Fl_give_83 (d := d) ih h rfl
        exact ⟨zR_go 2 q.1 (fun n => (if_pos g4).trans rfl), q.2⟩
      · obtain ⟨g5, h⟩ := zIx h
        obtain ⟨g6, h⟩ := zIx h
        obtain ⟨g7, h⟩ := zIx h
        obtain ⟨v104, M104, f104, h⟩ := zBx h
        have q104 := L_Pa_gives (d := d) f104 rfl
        obtain ⟨I104, L104, ⟨ra104, rb104, rc104, rd104⟩, K104, c104⟩ := M104
        obtain rfl : K104 = zK0 sl sx := q104.2
        suffices w104 : zLV (d + 3) tb_X1_give 79 [some (vR 0 (some a0)), some (vR 4 (some a1)), some (vR 7 (some a2)), some (vI x3), some (vI x4)] [vI v104, vI x4, vR 22 (some a0)] (I104, L104, (ra104, rb104, rc104, rd104), zK0 sl sx, c104) M' (zK0 sl sx) from ⟨zR_call (rest := [vI x4, vR 22 (some a0)]) 17 q104.1 (fun n => (if_neg g4).trans ((if_pos g5).trans ((if_pos g6).trans ((if_pos g7).trans rfl)))) w104.1, w104.2⟩
        have q := L_Fl_give_83 (d := d) ih h rfl
        exact ⟨zR_go 1 q.1 (fun n => rfl), q.2⟩
    · obtain rfl := zrV h
      exact ⟨zR_ret 5 ((if_neg g1).trans rfl), rfl⟩
set_option maxRecDepth 20000 in
theorem L_Fl_give {N d sl : Nat} {sx : Nat → Int} {a0 : Nat} {a1 : Nat} {a2 : Nat} {x3 : Int} {M : ZM} {M' : ZM} (h : Fl_give N a0 a1 a2 x3 M = some M') (hK : mK M = zK0 sl sx) : zLV (d + 3) tb_X1_give 0 [some (vR 0 (some a0)), some (vR 4 (some a1)), some (vR 7 (some a2)), some (vI x3), none] [] M M' (zK0 sl sx) := by
  obtain ⟨I0, L0, ⟨ra0, rb0, rc0, rd0⟩, K0, c0⟩ := M
  obtain rfl : K0 = zK0 sl sx := hK
  replace h := zWx h
  have q := L_Fl_give_8 (d := d) h rfl
  exact ⟨zR_go 5 q.1 (fun n => rfl), q.2⟩
set_option maxRecDepth 20000 in
theorem L_Ar_fill_23_p5 {N d sl : Nat} {sx : Nat → Int} : ∀ {n : Nat} {a0 : Nat} {x1 : Int} {x2 : Int} {x3 : Int} {M : ZM} {M' : ZM}, Ar_fill_5 N n 23 a0 x1 x2 x3 M = some M' → mK M = zK0 sl sx → zLV (d + 0) tb_J7_fill_53178 5 [some (vR 23 (some a0)), some (vI x1), some (vI x2), some (vI x3)] [] M M' (zK0 sl sx) := by
  intro n
  induction n with
  | zero => intros; rename_i h _; cases h
  | succ n ih =>
    intro a0 x1 x2 x3 M M' h hK
    obtain ⟨I0, L0, ⟨ra0, rb0, rc0, rd0⟩, K0, c0⟩ := M
    obtain rfl : K0 = zK0 sl sx := hK
    rcases zit h with ⟨g1, h⟩ | ⟨g1, h⟩
    · obtain ⟨g2, h⟩ := zIx h
      replace h := zWx h
      replace h := zWx h
      have q := ih h rfl
      exact ⟨zR_go 9 q.1 (fun n => (if_pos g1).trans ((if_pos g2).trans rfl)), q.2⟩
    · obtain rfl := zrV h
      exact ⟨zR_ret 4 ((if_neg g1).trans rfl), rfl⟩
set_option maxRecDepth 20000 in
theorem L_Ar_fill_23 {N d sl : Nat} {sx : Nat → Int} {i0 : Nat} {x1 : Int} {M : ZM} {M' : ZM} (h : Ar_fill N 23 i0 x1 M = some M') (hK : mK M = zK0 sl sx) : zLV (d + 0) tb_J7_fill_53178 0 [some (vR 23 (some i0)), some (vI x1), none, none] [] M M' (zK0 sl sx) := by
  obtain ⟨I0, L0, ⟨ra0, rb0, rc0, rd0⟩, K0, c0⟩ := M
  obtain rfl : K0 = zK0 sl sx := hK
  replace h := zWx h
  have q := L_Ar_fill_23_p5 (d := d) h rfl
  exact ⟨zR_go 5 q.1 (fun n => rfl), q.2⟩
set_option maxRecDepth 20000 in
theorem L_Ar_fill_24_p5 {N d sl : Nat} {sx : Nat → Int} : ∀ {n : Nat} {a0 : Nat} {x1 : Int} {x2 : Int} {x3 : Int} {M : ZM} {M' : ZM}, Ar_fill_5 N n 24 a0 x1 x2 x3 M = some M' → mK M = zK0 sl sx → zLV (d + 0) tb_J7_fill_53178 5 [some (vR 24 (some a0)), some (vI x1), some (vI x2), some (vI x3)] [] M M' (zK0 sl sx) := by
  intro n
  induction n with
  | zero => intros; rename_i h _; cases h
  | succ n ih =>
    intro a0 x1 x2 x3 M M' h hK
    obtain ⟨I0, L0, ⟨ra0, rb0, rc0, rd0⟩, K0, c0⟩ := M
    obtain rfl : K0 = zK0 sl sx := hK
    rcases zit h with ⟨g1, h⟩ | ⟨g1, h⟩
    · obtain ⟨g2, h⟩ := zIx h
      replace h := zWx h
      replace h := zWx h
      have q := ih h rfl
      exact ⟨zR_go 9 q.1 (fun n => (if_pos g1).trans ((if_pos g2).trans rfl)), q.2⟩
    · obtain rfl := zrV h
      exact ⟨zR_ret 4 ((if_neg g1).trans rfl), rfl⟩
set_option maxRecDepth 20000 in
theorem L_Ar_fill_24 {N d sl : Nat} {sx : Nat → Int} {i0 : Nat} {x1 : Int} {M : ZM} {M' : ZM} (h : Ar_fill N 24 i0 x1 M = some M') (hK : mK M = zK0 sl sx) : zLV (d + 0) tb_J7_fill_53178 0 [some (vR 24 (some i0)), some (vI x1), none, none] [] M M' (zK0 sl sx) := by
  obtain ⟨I0, L0, ⟨ra0, rb0, rc0, rd0⟩, K0, c0⟩ := M
  obtain rfl : K0 = zK0 sl sx := hK
  replace h := zWx h
  have q := L_Ar_fill_24_p5 (d := d) h rfl
  exact ⟨zR_go 5 q.1 (fun n => rfl), q.2⟩
set_option maxRecDepth 20000 in
theorem L_Ar_fill_40_p5 {N d sl : Nat} {sx : Nat → Int} : ∀ {n : Nat} {a0 : Nat} {x1 : Int} {x2 : Int} {x3 : Int} {M : ZM} {M' : ZM}, Ar_fill_5 N n 40 a0 x1 x2 x3 M = some M' → mK M = zK0 sl sx → zLV (d + 0) tb_J7_fill_53178 5 [some (vR 40 (some a0)), some (vI x1), some (vI x2), some (vI x3)] [] M M' (zK0 sl sx) := by
  intro n
  induction n with
  | zero => intros; rename_i h _; cases h
  | succ n ih =>
    intro a0 x1 x2 x3 M M' h hK
    obtain ⟨I0, L0, ⟨ra0, rb0, rc0, rd0⟩, K0, c0⟩ := M
    obtain rfl : K0 = zK0 sl sx := hK
    rcases zit h with ⟨g1, h⟩ | ⟨g1, h⟩
    · obtain ⟨g2, h⟩ := zIx h
      replace h := zWx h
      replace h := zWx h
      have q := ih h rfl
      exact ⟨zR_go 9 q.1 (fun n => (if_pos g1).trans ((if_pos g2).trans rfl)), q.2⟩
    · obtain rfl := zrV h
      exact ⟨zR_ret 4 ((if_neg g1).trans rfl), rfl⟩
set_option maxRecDepth 20000 in
theorem L_Ar_fill_40 {N d sl : Nat} {sx : Nat → Int} {i0 : Nat} {x1 : Int} {M : ZM} {M' : ZM} (h : Ar_fill N 40 i0 x1 M = some M') (hK : mK M = zK0 sl sx) : zLV (d + 0) tb_J7_fill_53178 0 [some (vR 40 (some i0)), some (vI x1), none, none] [] M M' (zK0 sl sx) := by
  obtain ⟨I0, L0, ⟨ra0, rb0, rc0, rd0⟩, K0, c0⟩ := M
  obtain rfl : K0 = zK0 sl sx := hK
  replace h := zWx h
  have q := L_Ar_fill_40_p5 (d := d) h rfl
  exact ⟨zR_go 5 q.1 (fun n => rfl), q.2⟩
set_option maxRecDepth 20000 in
theorem L_Ar_fill_41_p5 {N d sl : Nat} {sx : Nat → Int} : ∀ {n : Nat} {a0 : Nat} {x1 : Int} {x2 : Int} {x3 : Int} {M : ZM} {M' : ZM}, Ar_fill_5 N n 41 a0 x1 x2 x3 M = some M' → mK M = zK0 sl sx → zLV (d + 0) tb_J7_fill_53178 5 [some (vR 41 (some a0)), some (vI x1), some (vI x2), some (vI x3)] [] M M' (zK0 sl sx) := by
  intro n
  induction n with
  | zero => intros; rename_i h _; cases h
  | succ n ih =>
    intro a0 x1 x2 x3 M M' h hK
    obtain ⟨I0, L0, ⟨ra0, rb0, rc0, rd0⟩, K0, c0⟩ := M
    obtain rfl : K0 = zK0 sl sx := hK
    rcases zit h with ⟨g1, h⟩ | ⟨g1, h⟩
    · obtain ⟨g2, h⟩ := zIx h
      replace h := zWx h
      replace h := zWx h
      have q := ih h rfl
      exact ⟨zR_go 9 q.1 (fun n => (if_pos g1).trans ((if_pos g2).trans rfl)), q.2⟩
    · obtain rfl := zrV h
      exact ⟨zR_ret 4 ((if_neg g1).trans rfl), rfl⟩
set_option maxRecDepth 20000 in
theorem L_Ar_fill_41 {N d sl : Nat} {sx : Nat → Int} {i0 : Nat} {x1 : Int} {M : ZM} {M' : ZM} (h : Ar_fill N 41 i0 x1 M = some M') (hK : mK M = zK0 sl sx) : zLV (d + 0) tb_J7_fill_53178 0 [some (vR 41 (some i0)), some (vI x1), none, none] [] M M' (zK0 sl sx) := by
  obtain ⟨I0, L0, ⟨ra0, rb0, rc0, rd0⟩, K0, c0⟩ := M
  obtain rfl : K0 = zK0 sl sx := hK
  replace h := zWx h
  have q := L_Ar_fill_41_p5 (d := d) h rfl
  exact ⟨zR_go 5 q.1 (fun n => rfl), q.2⟩
set_option maxRecDepth 20000 in
theorem L_Ar_fill_45_p5 {N d sl : Nat} {sx : Nat → Int} : ∀ {n : Nat} {a0 : Nat} {x1 : Int} {x2 : Int} {x3 : Int} {M : ZM} {M' : ZM}, Ar_fill_5 N n 45 a0 x1 x2 x3 M = some M' → mK M = zK0 sl sx → zLV (d + 0) tb_J7_fill_53178 5 [some (vR 45 (some a0)), some (vI x1), some (vI x2), some (vI x3)] [] M M' (zK0 sl sx) := by
  intro n
  induction n with
  | zero => intros; rename_i h _; cases h
  | succ n ih =>
    intro a0 x1 x2 x3 M M' h hK
    obtain ⟨I0, L0, ⟨ra0, rb0, rc0, rd0⟩, K0, c0⟩ := M
    obtain rfl : K0 = zK0 sl sx := hK
    rcases zit h with ⟨g1, h⟩ | ⟨g1, h⟩
    · obtain ⟨g2, h⟩ := zIx h
      replace h := zWx h
      replace h := zWx h
      have q := ih h rfl
      exact ⟨zR_go 9 q.1 (fun n => (if_pos g1).trans ((if_pos g2).trans rfl)), q.2⟩
    · obtain rfl := zrV h
      exact ⟨zR_ret 4 ((if_neg g1).trans rfl), rfl⟩
set_option maxRecDepth 20000 in
theorem L_Ar_fill_45 {N d sl : Nat} {sx : Nat → Int} {i0 : Nat} {x1 : Int} {M : ZM} {M' : ZM} (h : Ar_fill N 45 i0 x1 M = some M') (hK : mK M = zK0 sl sx) : zLV (d + 0) tb_J7_fill_53178 0 [some (vR 45 (some i0)), some (vI x1), none, none] [] M M' (zK0 sl sx) := by
  obtain ⟨I0, L0, ⟨ra0, rb0, rc0, rd0⟩, K0, c0⟩ := M
  obtain rfl : K0 = zK0 sl sx := hK
  replace h := zWx h
  have q := L_Ar_fill_45_p5 (d := d) h rfl
  exact ⟨zR_go 5 q.1 (fun n => rfl), q.2⟩
set_option maxRecDepth 20000 in
theorem L_Fl_bring_89 {N d sl : Nat} {sx : Nat → Int} {rec31 : Nat → Nat → Int → Int → ZM → Option ZM} (hrec31 : ∀ {a0 : Nat} {a1 : Nat} {x2 : Int} {x3 : Int} {M : ZM} {M' : ZM}, rec31 a0 a1 x2 x3 M = some M' → mK M = zK0 sl sx → zLV (d + 1) tb_X1_bring 31 [some (vR 0 (some a0)), some (vR 4 (some a1)), some (vI x2), some (vI x3), none, none, none] [] M M' (zK0 sl sx)) {a0 : Nat} {a1 : Nat} {x2 : Int} {x3 : Int} {x4 : Int} {x5 : Int} {y0 : Int} {M : ZM} {M' : ZM} (h : Fl_bring_89 N rec31 a0 a1 x2 x3 x4 x5 y0 M = some M') (hK : mK M = zK0 sl sx) : zLV (d + 1) tb_X1_bring 89 [some (vR 0 (some a0)), some (vR 4 (some a1)), some (vI x2), some (vI x3), some (vI x4), some (vI x5), none] [vI y0] M M' (zK0 sl sx) := by
  obtain ⟨I0, L0, ⟨ra0, rb0, rc0, rd0⟩, K0, c0⟩ := M
  obtain rfl : K0 = zK0 sl sx := hK
  obtain ⟨g1, h⟩ := zIx h
  replace h := zWx h
  rcases zit h with ⟨g2, h⟩ | ⟨g2, h⟩
  · replace h := zWx h
    replace h := zWx h
    have q := hrec31 h rfl
    exact ⟨zR_go 18 (zR_up (ls' := [some (vR 0 (some a0)), some (vR 4 (some a1)), some (vI x2), some (vI (z32 (x3 + (-1)))), some (vI x4), some (vI x5), some (vI y0)]) q.1 ⟨.inr rfl, .inr rfl, .inr rfl, .inr rfl, .inl rfl, .inl rfl, .inl rfl, trivial⟩) (fun n => (if_pos g1).trans ((if_pos g2).trans rfl)), q.2⟩
  · rcases zit h with ⟨g3, h⟩ | ⟨g3, h⟩
    · replace h := zWx h
      have q := hrec31 h rfl
      exact ⟨zR_go 13 (zR_up (ls' := [some (vR 0 (some a0)), some (vR 4 (some a1)), some (vI x2), some (vI (z32 (x3 + (-1)))), some (vI x4), some (vI x5), some (vI y0)]) q.1 ⟨.inr rfl, .inr rfl, .inr rfl, .inr rfl, .inl rfl, .inl rfl, .inl rfl, trivial⟩) (fun n => (if_pos g1).trans ((if_neg g2).trans ((if_pos g3).trans rfl))), q.2⟩
    · rcases zit h with ⟨g4, h⟩ | ⟨g4, h⟩
      · obtain ⟨g5, h⟩ := zIx h
        obtain ⟨g6, h⟩ := zIx h
        replace h := zWx h
        replace h := zWx h
        have q := hrec31 h rfl
        exact ⟨zR_go 24 (zR_up (ls' := [some (vR 0 (some a0)), some (vR 4 (some a1)), some (vI x2), some (vI (z32 (x3 + (-1)))), some (vI x4), some (vI x5), some (vI y0)]) q.1 ⟨.inr rfl, .inr rfl, .inr rfl, .inr rfl, .inl rfl, .inl rfl, .inl rfl, trivial⟩) (fun n => (if_pos g1).trans ((if_neg g2).trans ((if_neg g3).trans ((if_pos g4).trans ((if_pos g5).trans ((if_pos g6).trans rfl)))))), q.2⟩
      · replace h := zWx h
        have q := hrec31 h rfl
        exact ⟨zR_go 16 (zR_up (ls' := [some (vR 0 (some a0)), some (vR 4 (some a1)), some (vI x2), some (vI (z32 (x3 + (-1)))), some (vI x4), some (vI x5), some (vI y0)]) q.1 ⟨.inr rfl, .inr rfl, .inr rfl, .inr rfl, .inl rfl, .inl rfl, .inl rfl, trivial⟩) (fun n => (if_pos g1).trans ((if_neg g2).trans ((if_neg g3).trans ((if_neg g4).trans rfl)))), q.2⟩
set_option maxRecDepth 20000 in
theorem L_Fl_bring_31 {N d sl : Nat} {sx : Nat → Int} : ∀ {n : Nat} {a0 : Nat} {a1 : Nat} {x2 : Int} {x3 : Int} {M : ZM} {M' : ZM}, Fl_bring_31 N n a0 a1 x2 x3 M = some M' → mK M = zK0 sl sx → zLV (d + 1) tb_X1_bring 31 [some (vR 0 (some a0)), some (vR 4 (some a1)), some (vI x2), some (vI x3), none, none, none] [] M M' (zK0 sl sx) := by
  intro n
  induction n with
  | zero => intros; rename_i h _; cases h
  | succ n ih =>
    intro a0 a1 x2 x3 M M' h hK
    obtain ⟨I0, L0, ⟨ra0, rb0, rc0, rd0⟩, K0, c0⟩ := M
    obtain rfl : K0 = zK0 sl sx := hK
    rcases zit h with ⟨g1, h⟩ | ⟨g1, h⟩
    · obtain rfl := zrV h
      exact ⟨zR_ret 3 ((if_pos g1).trans rfl), rfl⟩
    · obtain ⟨v101, M101, f101, h⟩ := zBx h
      have q101 := L_Nu_get (d := d) f101 rfl
      obtain ⟨I101, L101, ⟨ra101, rb101, rc101, rd101⟩, K101, c101⟩ := M101
      obtain rfl : K101 = zK0 sl sx := q101.2
      suffices w101 : zLV (d + 1) tb_X1_bring 43 [some (vR 0 (some a0)), some (vR 4 (some a1)), some (vI x2), some (vI x3), none, none, none] [vI v101] (I101, L101, (ra101, rb101, rc101, rd101), zK0 sl sx, c101) M' (zK0 sl sx) from ⟨zR_call (rest := []) 6 q101.1 (fun n => (if_neg g1).trans rfl) w101.1, w101.2⟩
      obtain ⟨g2, h⟩ := zIx h
      replace h := zWx h
      rcases zit h with ⟨g3, h⟩ | ⟨g3, h⟩
      · have q := L_Fl_bring_89 (d := d) ih h rfl
        exact ⟨zR_go 11 q.1 (fun n => (if_pos g2).trans ((if_pos g3).trans rfl)), q.2⟩
      · obtain ⟨g4, h⟩ := zIx h
        obtain ⟨g5, h⟩ := zIx h
        obtain ⟨g6, h⟩ := zIx h
        have q := L_Fl_bring_89 (d := d) ih h rfl
        exact ⟨zR_go 23 q.1 (fun n => (if_pos g2).trans ((if_neg g3).trans ((if_pos g4).trans ((if_pos g5).trans ((if_pos g6).trans rfl))))), q.2⟩
set_option maxRecDepth 20000 in
theorem L_Fl_bring {N d sl : Nat} {sx : Nat → Int} {a0 : Nat} {a1 : Nat} {x2 : Int} {M : ZM} {M' : ZM} (h : Fl_bring N a0 a1 x2 M = some M') (hK : mK M = zK0 sl sx) : zLV (d + 1) tb_X1_bring 0 [some (vR 0 (some a0)), some (vR 4 (some a1)), some (vI x2), none, none, none, none] [] M M' (zK0 sl sx) := by
  obtain ⟨I0, L0, ⟨ra0, rb0, rc0, rd0⟩, K0, c0⟩ := M
  obtain rfl : K0 = zK0 sl sx := hK
  obtain ⟨M101, f101, h⟩ := zBvx h
  have q101 := L_Ar_fill_24 (d := d) f101 rfl
  obtain ⟨I101, L101, ⟨ra101, rb101, rc101, rd101⟩, K101, c101⟩ := M101
  obtain rfl : K101 = zK0 sl sx := q101.2
  suffices w101 : zLV (d + 1) tb_X1_bring 8 [some (vR 0 (some a0)), some (vR 4 (some a1)), some (vI x2), none, none, none, none] [] (I101, L101, (ra101, rb101, rc101, rd101), zK0 sl sx, c101) M' (zK0 sl sx) from ⟨zR_call (rest := []) 4 q101.1 (fun n => rfl) w101.1, w101.2⟩
  obtain ⟨M102, f102, h⟩ := zBvx h
  have q102 := L_Ar_fill_23 (d := d) f102 rfl
  obtain ⟨I102, L102, ⟨ra102, rb102, rc102, rd102⟩, K102, c102⟩ := M102
  obtain rfl : K102 = zK0 sl sx := q102.2
  suffices w102 : zLV (d + 1) tb_X1_bring 16 [some (vR 0 (some a0)), some (vR 4 (some a1)), some (vI x2), none, none, none, none] [] (I102, L102, (ra102, rb102, rc102, rd102), zK0 sl sx, c102) M' (zK0 sl sx) from ⟨zR_call (rest := []) 4 q102.1 (fun n => rfl) w102.1, w102.2⟩
  replace h := zWx h
  replace h := zWx h
  have q := L_Fl_bring_31 (d := d) h rfl
  exact ⟨zR_go 9 q.1 (fun n => rfl), q.2⟩
set_option maxRecDepth 20000 in
theorem L_Nu_round {N d sl : Nat} {sx : Nat → Int} {a0 : Nat} {x1 : Int} {M : ZM} {x : Int} {M' : ZM} (h : Nu_round N a0 x1 M = some (x, M')) (hK : mK M = zK0 sl sx) : zLI (d + 0) tb_X4_round 0 [some (vR 3 (some a0)), some (vI x1)] [] M x M' (zK0 sl sx) := by
  obtain ⟨I0, L0, ⟨ra0, rb0, rc0, rd0⟩, K0, c0⟩ := M
  obtain rfl : K0 = zK0 sl sx := hK
  rcases zit h with ⟨g1, h⟩ | ⟨g1, h⟩
  · rcases zit h with ⟨g2, h⟩ | ⟨g2, h⟩
    · obtain ⟨rfl, rfl⟩ := zrI h
      exact ⟨zR_ret 7 ((if_pos g1).trans ((if_pos g2).trans rfl)), rfl⟩
    · obtain ⟨g3, h⟩ := zgn h
      obtain ⟨g4, h⟩ := zIx h
      obtain ⟨rfl, rfl⟩ := zrI h
      exact ⟨zR_ret 14 ((if_pos g1).trans ((if_neg g2).trans ((if_neg g3).trans ((if_pos g4).trans rfl)))), rfl⟩
  · obtain ⟨rfl, rfl⟩ := zrI h
    exact ⟨zR_ret 5 ((if_neg g1).trans rfl), rfl⟩
set_option maxRecDepth 20000 in
theorem L_Fl_measure {N d sl : Nat} {sx : Nat → Int} {a0 : Nat} {a1 : Nat} {a2 : Nat} {M : ZM} {M' : ZM} (h : Fl_measure N a0 a1 a2 M = some M') (hK : mK M = zK0 sl sx) : zLV (d + 4) tb_X1_measure 0 [some (vR 0 (some a0)), some (vR 4 (some a1)), some (vR 7 (some a2))] [] M M' (zK0 sl sx) := by
  obtain ⟨I0, L0, ⟨ra0, rb0, rc0, rd0⟩, K0, c0⟩ := M
  obtain rfl : K0 = zK0 sl sx := hK
  obtain ⟨v101, M101, f101, h⟩ := zBx h
  have q101 := L_Nu_round (d := (d + 3)) f101 rfl
  obtain ⟨I101, L101, ⟨ra101, rb101, rc101, rd101⟩, K101, c101⟩ := M101
  obtain rfl : K101 = zK0 sl sx := q101.2
  suffices w101 : zLV (d + 4) tb_X1_measure 14 [some (vR 0 (some a0)), some (vR 4 (some a1)), some (vR 7 (some a2))] [vI v101, vR 7 (some a2), vR 4 (some a1), vR 0 (some a0)] (I101, L101, (ra101, rb101, rc101, rd101), zK0 sl sx, c101) M' (zK0 sl sx) from ⟨zR_call (rest := [vR 7 (some a2), vR 4 (some a1), vR 0 (some a0)]) 8 q101.1 (fun n => rfl) w101.1, w101.2⟩
  obtain ⟨M102, f102, h⟩ := zBvx h
  have q102 := L_Fl_take (d := d) f102 rfl
  obtain ⟨I102, L102, ⟨ra102, rb102, rc102, rd102⟩, K102, c102⟩ := M102
  obtain rfl : K102 = zK0 sl sx := q102.2
  suffices w102 : zLV (d + 4) tb_X1_measure 17 [some (vR 0 (some a0)), some (vR 4 (some a1)), some (vR 7 (some a2))] [] (I102, L102, (ra102, rb102, rc102, rd102), zK0 sl sx, c102) M' (zK0 sl sx) from ⟨zR_call (rest := []) 1 q102.1 (fun n => rfl) w102.1, w102.2⟩
  obtain ⟨v103, M103, f103, h⟩ := zBx h
  have q103 := L_Nu_round (d := (d + 3)) f103 rfl
  obtain ⟨I103, L103, ⟨ra103, rb103, rc103, rd103⟩, K103, c103⟩ := M103
  obtain rfl : K103 = zK0 sl sx := q103.2
  suffices w103 : zLV (d + 4) tb_X1_measure 31 [some (vR 0 (some a0)), some (vR 4 (some a1)), some (vR 7 (some a2))] [vI v103, vR 7 (some a2), vR 4 (some a1), vR 0 (some a0)] (I103, L103, (ra103, rb103, rc103, rd103), zK0 sl sx, c103) M' (zK0 sl sx) from ⟨zR_call (rest := [vR 7 (some a2), vR 4 (some a1), vR 0 (some a0)]) 8 q103.1 (fun n => rfl) w103.1, w103.2⟩
  obtain ⟨M104, f104, h⟩ := zBvx h
  have q104 := L_Fl_give (d := d) f104 rfl
  obtain ⟨I104, L104, ⟨ra104, rb104, rc104, rd104⟩, K104, c104⟩ := M104
  obtain rfl : K104 = zK0 sl sx := q104.2
  suffices w104 : zLV (d + 4) tb_X1_measure 34 [some (vR 0 (some a0)), some (vR 4 (some a1)), some (vR 7 (some a2))] [] (I104, L104, (ra104, rb104, rc104, rd104), zK0 sl sx, c104) M' (zK0 sl sx) from ⟨zR_call (rest := []) 1 q104.1 (fun n => rfl) w104.1, w104.2⟩
  obtain ⟨M105, f105, h⟩ := zBvx h
  have q105 := L_Fl_bring (d := (d + 2)) f105 rfl
  obtain ⟨I105, L105, ⟨ra105, rb105, rc105, rd105⟩, K105, c105⟩ := M105
  obtain rfl : K105 = zK0 sl sx := q105.2
  suffices w105 : zLV (d + 4) tb_X1_measure 40 [some (vR 0 (some a0)), some (vR 4 (some a1)), some (vR 7 (some a2))] [] (I105, L105, (ra105, rb105, rc105, rd105), zK0 sl sx, c105) M' (zK0 sl sx) from ⟨zR_call (rest := []) 4 q105.1 (fun n => rfl) w105.1, w105.2⟩
  obtain rfl := zrV h
  exact ⟨zR_ret 1 (rfl), rfl⟩
set_option maxRecDepth 20000 in
theorem L_Pa_priceAt {N d sl : Nat} {sx : Nat → Int} {a0 : Nat} {x1 : Int} {M : ZM} {x : Int} {M' : ZM} (h : Pa_priceAt N a0 x1 M = some (x, M')) (hK : mK M = zK0 sl sx) : zLI (d + 1) tb_X5_priceAt 0 [some (vR 4 (some a0)), some (vI x1)] [] M x M' (zK0 sl sx) := by
  obtain ⟨I0, L0, ⟨ra0, rb0, rc0, rd0⟩, K0, c0⟩ := M
  obtain rfl : K0 = zK0 sl sx := hK
  obtain ⟨v101, M101, f101, h⟩ := zBx h
  have q101 := L_Nu_round (d := d) f101 rfl
  obtain ⟨I101, L101, ⟨ra101, rb101, rc101, rd101⟩, K101, c101⟩ := M101
  obtain rfl : K101 = zK0 sl sx := q101.2
  suffices w101 : zLI (d + 1) tb_X5_priceAt 8 [some (vR 4 (some a0)), some (vI x1)] [vI v101] (I101, L101, (ra101, rb101, rc101, rd101), zK0 sl sx, c101) x M' (zK0 sl sx) from ⟨zR_call (rest := []) 4 q101.1 (fun n => rfl) w101.1, w101.2⟩
  obtain ⟨rfl, rfl⟩ := zrI h
  exact ⟨zR_ret 3 (rfl), rfl⟩
set_option maxRecDepth 20000 in
theorem L_Fl_sold {N d sl : Nat} {sx : Nat → Int} {a0 : Nat} {a1 : Nat} {a2 : Nat} {M : ZM} {x : Int} {M' : ZM} (h : Fl_sold N a0 a1 a2 M = some (x, M')) (hK : mK M = zK0 sl sx) : zLI (d + 5) tb_X1_sold 0 [some (vR 0 (some a0)), some (vR 4 (some a1)), some (vR 7 (some a2))] [] M x M' (zK0 sl sx) := by
  obtain ⟨I0, L0, ⟨ra0, rb0, rc0, rd0⟩, K0, c0⟩ := M
  obtain rfl : K0 = zK0 sl sx := hK
  obtain ⟨M101, f101, h⟩ := zBvx h
  have q101 := L_Fl_measure (d := d) f101 rfl
  obtain ⟨I101, L101, ⟨ra101, rb101, rc101, rd101⟩, K101, c101⟩ := M101
  obtain rfl : K101 = zK0 sl sx := q101.2
  suffices w101 : zLI (d + 5) tb_X1_sold 6 [some (vR 0 (some a0)), some (vR 4 (some a1)), some (vR 7 (some a2))] [] (I101, L101, (ra101, rb101, rc101, rd101), zK0 sl sx, c101) x M' (zK0 sl sx) from ⟨zR_call (rest := []) 4 q101.1 (fun n => rfl) w101.1, w101.2⟩
  obtain ⟨v102, M102, f102, h⟩ := zBx h
  have q102 := L_Pa_priceAt (d := (d + 3)) f102 rfl
  obtain ⟨I102, L102, ⟨ra102, rb102, rc102, rd102⟩, K102, c102⟩ := M102
  obtain rfl : K102 = zK0 sl sx := q102.2
  suffices w102 : zLI (d + 5) tb_X1_sold 18 [some (vR 0 (some a0)), some (vR 4 (some a1)), some (vR 7 (some a2))] [vI v102, vI (mI (I101, L101, (ra101, rb101, rc101, rd101), zK0 sl sx, c101) 0 a0 6)] (I102, L102, (ra102, rb102, rc102, rd102), zK0 sl sx, c102) x M' (zK0 sl sx) from ⟨zR_call (rest := [vI (mI (I101, L101, (ra101, rb101, rc101, rd101), zK0 sl sx, c101) 0 a0 6)]) 6 q102.1 (fun n => rfl) w102.1, w102.2⟩
  obtain ⟨rfl, rfl⟩ := zrI h
  exact ⟨zR_ret 2 (rfl), rfl⟩
set_option maxRecDepth 20000 in
theorem L_St_wear_47 {N d sl : Nat} {sx : Nat → Int} {a0 : Nat} {a1 : Nat} {x2 : Int} {b0 : Nat} {y1 : Int} {y2 : Int} {y3 : Int} {M : ZM} {M' : ZM} (h : St_wear_47 N a0 a1 x2 b0 y1 y2 y3 M = some M') (hK : mK M = zK0 sl sx) : zLV (d + 1) tb_X8_wear 47 [some (vR 7 (some a0)), some (vR 4 (some a1)), some (vI x2), none, none] [vI y3, vI y2, vI y1, vR 41 (some b0)] M M' (zK0 sl sx) := by
  obtain ⟨I0, L0, ⟨ra0, rb0, rc0, rd0⟩, K0, c0⟩ := M
  obtain rfl : K0 = zK0 sl sx := hK
  obtain ⟨g1, h⟩ := zIx h
  replace h := zWx h
  obtain ⟨g2, h⟩ := zIx h
  rcases zit h with ⟨g3, h⟩ | ⟨g3, h⟩
  · obtain rfl := zrV h
    exact ⟨zR_ret 10 ((if_pos g1).trans ((if_pos g2).trans ((if_pos g3).trans rfl))), rfl⟩
  · replace h := zWx h
    obtain rfl := zrV h
    exact ⟨zR_ret 18 ((if_pos g1).trans ((if_pos g2).trans ((if_neg g3).trans rfl))), rfl⟩
set_option maxRecDepth 20000 in
theorem L_St_wear_18 {N d sl : Nat} {sx : Nat → Int} {a0 : Nat} {a1 : Nat} {x2 : Int} {y0 : Int} {y1 : Int} {M : ZM} {M' : ZM} (h : St_wear_18 N a0 a1 x2 y0 y1 M = some M') (hK : mK M = zK0 sl sx) : zLV (d + 1) tb_X8_wear 18 [some (vR 7 (some a0)), some (vR 4 (some a1)), some (vI x2), none, none] [vI y1, vI y0] M M' (zK0 sl sx) := by
  obtain ⟨I0, L0, ⟨ra0, rb0, rc0, rd0⟩, K0, c0⟩ := M
  obtain rfl : K0 = zK0 sl sx := hK
  replace h := zWx h
  obtain ⟨g1, h⟩ := zIx h
  obtain ⟨g2, h⟩ := zIx h
  rcases zit h with ⟨g3, h⟩ | ⟨g3, h⟩
  · have q := L_St_wear_47 (d := d) h rfl
    exact ⟨zR_go 17 (zR_up (ls' := [some (vR 7 (some a0)), some (vR 4 (some a1)), some (vI x2), none, some (vI (z32 (y0 + y1)))]) q.1 ⟨.inr rfl, .inr rfl, .inr rfl, .inr rfl, .inl rfl, trivial⟩) (fun n => (if_pos g1).trans ((if_pos g2).trans ((if_pos g3).trans rfl))), q.2⟩
  · have q := L_St_wear_47 (d := d) h rfl
    exact ⟨zR_go 14 (zR_up (ls' := [some (vR 7 (some a0)), some (vR 4 (some a1)), some (vI x2), none, some (vI (z32 (y0 + y1)))]) q.1 ⟨.inr rfl, .inr rfl, .inr rfl, .inr rfl, .inl rfl, trivial⟩) (fun n => (if_pos g1).trans ((if_pos g2).trans ((if_neg g3).trans rfl))), q.2⟩
set_option maxRecDepth 20000 in
theorem L_St_wear {N d sl : Nat} {sx : Nat → Int} {a0 : Nat} {a1 : Nat} {x2 : Int} {x3 : Int} {M : ZM} {M' : ZM} (h : St_wear N a0 a1 x2 x3 M = some M') (hK : mK M = zK0 sl sx) : zLV (d + 1) tb_X8_wear 0 [some (vR 7 (some a0)), some (vR 4 (some a1)), some (vI x2), some (vI x3), none] [] M M' (zK0 sl sx) := by
  obtain ⟨I0, L0, ⟨ra0, rb0, rc0, rd0⟩, K0, c0⟩ := M
  obtain rfl : K0 = zK0 sl sx := hK
  obtain ⟨g1, h⟩ := zIx h
  obtain ⟨v101, M101, f101, h⟩ := zBx h
  have q101 := L_Pa_turnedBy (d := d) f101 rfl
  obtain ⟨I101, L101, ⟨ra101, rb101, rc101, rd101⟩, K101, c101⟩ := M101
  obtain rfl : K101 = zK0 sl sx := q101.2
  suffices w101 : zLV (d + 1) tb_X8_wear 9 [some (vR 7 (some a0)), some (vR 4 (some a1)), some (vI x2), some (vI x3), none] [vI v101] (I101, L101, (ra101, rb101, rc101, rd101), zK0 sl sx, c101) M' (zK0 sl sx) from ⟨zR_call (rest := []) 5 q101.1 (fun n => (if_pos g1).trans rfl) w101.1, w101.2⟩
  rcases zit h with ⟨g2, h⟩ | ⟨g2, h⟩
  · have q := L_St_wear_18 (d := d) h rfl
    exact ⟨zR_go 4 (zR_up (ls' := [some (vR 7 (some a0)), some (vR 4 (some a1)), some (vI x2), some (vI x3), none]) q.1 ⟨.inr rfl, .inr rfl, .inr rfl, .inl rfl, .inr rfl, trivial⟩) (fun n => (if_pos g2).trans rfl), q.2⟩
  · have q := L_St_wear_18 (d := d) h rfl
    exact ⟨zR_go 3 (zR_up (ls' := [some (vR 7 (some a0)), some (vR 4 (some a1)), some (vI x2), some (vI x3), none]) q.1 ⟨.inr rfl, .inr rfl, .inr rfl, .inl rfl, .inr rfl, trivial⟩) (fun n => (if_neg g2).trans rfl), q.2⟩
set_option maxRecDepth 20000 in
theorem L_Fl_runStep_23 {N d sl : Nat} {sx : Nat → Int} : ∀ {n : Nat} {a0 : Nat} {a1 : Nat} {a2 : Nat} {x3 : Int} {x4 : Int} {M : ZM} {x : Int} {M' : ZM}, Fl_runStep_23 N n a0 a1 a2 x3 x4 M = some (x, M') → mK M = zK0 sl sx → zLI (d + 5) tb_X1_runStep 23 [some (vR 0 (some a0)), some (vR 4 (some a1)), some (vR 7 (some a2)), some (vI x3), some (vI x4)] [] M x M' (zK0 sl sx) := by
  intro n
  induction n with
  | zero => intros; rename_i h _; cases h
  | succ n ih =>
    intro a0 a1 a2 x3 x4 M x M' h hK
    obtain ⟨I0, L0, ⟨ra0, rb0, rc0, rd0⟩, K0, c0⟩ := M
    obtain rfl : K0 = zK0 sl sx := hK
    rcases zit h with ⟨g1, h⟩ | ⟨g1, h⟩
    · obtain ⟨v101, M101, f101, h⟩ := zBx h
      have q101 := L_St_runs (d := (d + 3)) f101 rfl
      obtain ⟨I101, L101, ⟨ra101, rb101, rc101, rd101⟩, K101, c101⟩ := M101
      obtain rfl : K101 = zK0 sl sx := q101.2
      suffices w101 : zLI (d + 5) tb_X1_runStep 38 [some (vR 0 (some a0)), some (vR 4 (some a1)), some (vR 7 (some a2)), some (vI x3), some (vI x4)] [vI v101] (I101, L101, (ra101, rb101, rc101, rd101), zK0 sl sx, c101) x M' (zK0 sl sx) from ⟨zR_call (rest := []) 7 q101.1 (fun n => (if_pos g1).trans rfl) w101.1, w101.2⟩
      rcases zit h with ⟨g2, h⟩ | ⟨g2, h⟩
      · replace h := zWx h
        have q := ih h rfl
        exact ⟨zR_go 3 q.1 (fun n => (if_pos g2).trans rfl), q.2⟩
      · obtain ⟨g3, h⟩ := zIx h
        obtain ⟨M103, f103, h⟩ := zBvx h
        have q103 := L_St_wear (d := (d + 3)) f103 rfl
        obtain ⟨I103, L103, ⟨ra103, rb103, rc103, rd103⟩, K103, c103⟩ := M103
        obtain rfl : K103 = zK0 sl sx := q103.2
        suffices w103 : zLI (d + 5) tb_X1_runStep 55 [some (vR 0 (some a0)), some (vR 4 (some a1)), some (vR 7 (some a2)), some (vI x3), some (vI x4)] [] (I103, L103, (ra103, rb103, rc103, rd103), zK0 sl sx, c103) x M' (zK0 sl sx) from ⟨zR_call (rest := []) 9 q103.1 (fun n => (if_neg g2).trans ((if_pos g3).trans rfl)) w103.1, w103.2⟩
        replace h := zWx h
        have q := ih h rfl
        exact ⟨zR_go 2 q.1 (fun n => rfl), q.2⟩
    · replace h := zWx h
      replace h := zWx h
      obtain ⟨rfl, rfl⟩ := zrI h
      exact ⟨zR_ret 18 ((if_neg g1).trans rfl), rfl⟩
set_option maxRecDepth 20000 in
theorem L_Fl_runStep {N d sl : Nat} {sx : Nat → Int} {a0 : Nat} {a1 : Nat} {a2 : Nat} {M : ZM} {x : Int} {M' : ZM} (h : Fl_runStep N a0 a1 a2 M = some (x, M')) (hK : mK M = zK0 sl sx) : zLI (d + 5) tb_X1_runStep 0 [some (vR 0 (some a0)), some (vR 4 (some a1)), some (vR 7 (some a2)), none, none] [] M x M' (zK0 sl sx) := by
  obtain ⟨I0, L0, ⟨ra0, rb0, rc0, rd0⟩, K0, c0⟩ := M
  obtain rfl : K0 = zK0 sl sx := hK
  obtain ⟨M101, f101, h⟩ := zBvx h
  have q101 := L_Fl_measure (d := d) f101 rfl
  obtain ⟨I101, L101, ⟨ra101, rb101, rc101, rd101⟩, K101, c101⟩ := M101
  obtain rfl : K101 = zK0 sl sx := q101.2
  suffices w101 : zLI (d + 5) tb_X1_runStep 6 [some (vR 0 (some a0)), some (vR 4 (some a1)), some (vR 7 (some a2)), none, none] [] (I101, L101, (ra101, rb101, rc101, rd101), zK0 sl sx, c101) x M' (zK0 sl sx) from ⟨zR_call (rest := []) 4 q101.1 (fun n => rfl) w101.1, w101.2⟩
  obtain ⟨v102, M102, f102, h⟩ := zBx h
  have q102 := L_Pa_priceAt (d := (d + 3)) f102 rfl
  obtain ⟨I102, L102, ⟨ra102, rb102, rc102, rd102⟩, K102, c102⟩ := M102
  obtain rfl : K102 = zK0 sl sx := q102.2
  suffices w102 : zLI (d + 5) tb_X1_runStep 18 [some (vR 0 (some a0)), some (vR 4 (some a1)), some (vR 7 (some a2)), none, none] [vI v102, vI (mI (I101, L101, (ra101, rb101, rc101, rd101), zK0 sl sx, c101) 0 a0 6)] (I102, L102, (ra102, rb102, rc102, rd102), zK0 sl sx, c102) x M' (zK0 sl sx) from ⟨zR_call (rest := [vI (mI (I101, L101, (ra101, rb101, rc101, rd101), zK0 sl sx, c101) 0 a0 6)]) 6 q102.1 (fun n => rfl) w102.1, w102.2⟩
  replace h := zWx h
  have q := L_Fl_runStep_23 (d := d) h rfl
  exact ⟨zR_go 4 q.1 (fun n => rfl), q.2⟩
set_option maxRecDepth 20000 in
theorem L_Nu_copy {N d sl : Nat} {sx : Nat → Int} {a0 : Nat} {a1 : Nat} {M : ZM} {M' : ZM} (h : Nu_copy N a0 a1 M = some M') (hK : mK M = zK0 sl sx) : zLV (d + 0) tb_X4_copy 0 [some (vR 3 (some a0)), some (vR 3 (some a1))] [] M M' (zK0 sl sx) := by
  obtain ⟨I0, L0, ⟨ra0, rb0, rc0, rd0⟩, K0, c0⟩ := M
  obtain rfl : K0 = zK0 sl sx := hK
  replace h := zWx h
  obtain ⟨g1, h⟩ := zIx h
  replace h := zWx h
  obtain rfl := zrV h
  exact ⟨zR_ret 18 ((if_pos g1).trans rfl), rfl⟩
set_option maxRecDepth 20000 in
theorem L_St_copy {N d sl : Nat} {sx : Nat → Int} {a0 : Nat} {a1 : Nat} {M : ZM} {M' : ZM} (h : St_copy N a0 a1 M = some M') (hK : mK M = zK0 sl sx) : zLV (d + 0) tb_X8_copy 0 [some (vR 7 (some a0)), some (vR 7 (some a1))] [] M M' (zK0 sl sx) := by
  obtain ⟨I0, L0, ⟨ra0, rb0, rc0, rd0⟩, K0, c0⟩ := M
  obtain rfl : K0 = zK0 sl sx := hK
  replace h := zWx h
  replace h := zWx h
  replace h := zWx h
  replace h := zWx h
  replace h := zWx h
  replace h := zWx h
  obtain rfl := zrV h
  exact ⟨zR_ret 33 (rfl), rfl⟩
set_option maxRecDepth 20000 in
theorem L_Mk_lay {N d sl : Nat} {sx : Nat → Int} {a0 : Nat} {a1 : Nat} {a2 : Nat} {a3 : Nat} {M : ZM} {M' : ZM} (h : Mk_lay N a0 a1 a2 a3 M = some M') (hK : mK M = zK0 sl sx) : zLV (d + 1) tb_X3_lay 0 [some (vR 2 (some a0)), some (vR 7 (some a1)), some (vR 3 (some a2)), some (vR 3 (some a3))] [] M M' (zK0 sl sx) := by
  obtain ⟨I0, L0, ⟨ra0, rb0, rc0, rd0⟩, K0, c0⟩ := M
  obtain rfl : K0 = zK0 sl sx := hK
  obtain ⟨M101, f101, h⟩ := zBvx h
  have q101 := L_St_copy (d := d) f101 rfl
  obtain ⟨I101, L101, ⟨ra101, rb101, rc101, rd101⟩, K101, c101⟩ := M101
  obtain rfl : K101 = zK0 sl sx := q101.2
  suffices w101 : zLV (d + 1) tb_X3_lay 8 [some (vR 2 (some a0)), some (vR 7 (some a1)), some (vR 3 (some a2)), some (vR 3 (some a3))] [] (I101, L101, (ra101, rb101, rc101, rd101), zK0 sl sx, c101) M' (zK0 sl sx) from ⟨zR_call (rest := []) 4 q101.1 (fun n => rfl) w101.1, w101.2⟩
  obtain ⟨M102, f102, h⟩ := zBvx h
  have q102 := L_Nu_copy (d := d) f102 rfl
  obtain ⟨I102, L102, ⟨ra102, rb102, rc102, rd102⟩, K102, c102⟩ := M102
  obtain rfl : K102 = zK0 sl sx := q102.2
  suffices w102 : zLV (d + 1) tb_X3_lay 16 [some (vR 2 (some a0)), some (vR 7 (some a1)), some (vR 3 (some a2)), some (vR 3 (some a3))] [] (I102, L102, (ra102, rb102, rc102, rd102), zK0 sl sx, c102) M' (zK0 sl sx) from ⟨zR_call (rest := []) 4 q102.1 (fun n => rfl) w102.1, w102.2⟩
  obtain ⟨M103, f103, h⟩ := zBvx h
  have q103 := L_Nu_copy (d := d) f103 rfl
  obtain ⟨I103, L103, ⟨ra103, rb103, rc103, rd103⟩, K103, c103⟩ := M103
  obtain rfl : K103 = zK0 sl sx := q103.2
  suffices w103 : zLV (d + 1) tb_X3_lay 24 [some (vR 2 (some a0)), some (vR 7 (some a1)), some (vR 3 (some a2)), some (vR 3 (some a3))] [] (I103, L103, (ra103, rb103, rc103, rd103), zK0 sl sx, c103) M' (zK0 sl sx) from ⟨zR_call (rest := []) 4 q103.1 (fun n => rfl) w103.1, w103.2⟩
  replace h := zWx h
  obtain rfl := zrV h
  exact ⟨zR_ret 4 (rfl), rfl⟩
set_option maxRecDepth 20000 in
theorem L_Pa_only {N d sl : Nat} {sx : Nat → Int} {a0 : Nat} {x1 : Int} {M : ZM} {M' : ZM} (h : Pa_only N a0 x1 M = some M') (hK : mK M = zK0 sl sx) : zLV (d + 1) tb_X5_only 0 [some (vR 3 (some a0)), some (vI x1)] [] M M' (zK0 sl sx) := by
  obtain ⟨I0, L0, ⟨ra0, rb0, rc0, rd0⟩, K0, c0⟩ := M
  obtain rfl : K0 = zK0 sl sx := hK
  replace h := zWx h
  obtain ⟨v102, M102, f102, h⟩ := zBx h
  have q102 := L_Nu_add (d := d) f102 rfl
  obtain ⟨I102, L102, ⟨ra102, rb102, rc102, rd102⟩, K102, c102⟩ := M102
  obtain rfl : K102 = zK0 sl sx := q102.2
  suffices w102 : zLV (d + 1) tb_X5_only 10 [some (vR 3 (some a0)), some (vI x1)] [vI v102] (I102, L102, (ra102, rb102, rc102, rd102), zK0 sl sx, c102) M' (zK0 sl sx) from ⟨zR_call (rest := []) 6 q102.1 (fun n => rfl) w102.1, w102.2⟩
  obtain rfl := zrV h
  exact ⟨zR_ret 2 (rfl), rfl⟩
