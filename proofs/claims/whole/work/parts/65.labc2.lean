set_option maxRecDepth 20000 in
theorem L_St_can {N d sl : Nat} {sx : Nat → Int} {a0 : Nat} {a1 : Nat} {x2 : Int} {x3 : Int} {M : ZM} {x : Int} {M' : ZM} (h : St_can N a0 a1 x2 x3 M = some (x, M')) (hK : mK M = zK0 sl sx) : zLI (d + 1) tb_X8_can 0 [some (vR 7 (some a0)), some (vR 4 (some a1)), some (vI x2), some (vI x3)] [] M x M' (zK0 sl sx) := by
  obtain ⟨I0, L0, ⟨ra0, rb0, rc0, rd0⟩, K0, c0⟩ := M
  obtain rfl : K0 = zK0 sl sx := hK
  rcases zit h with ⟨g1, h⟩ | ⟨g1, h⟩
  · obtain ⟨rfl, rfl⟩ := zrI h
    exact ⟨zR_ret 4 ((if_pos g1).trans rfl), rfl⟩
  · rcases zit h with ⟨g2, h⟩ | ⟨g2, h⟩
    · rcases zit h with ⟨g3, h⟩ | ⟨g3, h⟩
      · obtain ⟨rfl, rfl⟩ := zrI h
        exact ⟨zR_ret 10 ((if_neg g1).trans ((if_pos g2).trans ((if_pos g3).trans rfl))), rfl⟩
      · rcases zit h with ⟨g4, h⟩ | ⟨g4, h⟩
        · obtain ⟨v101, M101, f101, h⟩ := zBx h
          have q101 := L_St_isOpen (d := d) f101 rfl
          obtain ⟨I101, L101, ⟨ra101, rb101, rc101, rd101⟩, K101, c101⟩ := M101
          obtain rfl : K101 = zK0 sl sx := q101.2
          suffices w101 : zLI (d + 1) tb_X8_can 51 [some (vR 7 (some a0)), some (vR 4 (some a1)), some (vI x2), some (vI x3)] [vI v101] (I101, L101, (ra101, rb101, rc101, rd101), zK0 sl sx, c101) x M' (zK0 sl sx) from ⟨zR_call (rest := []) 11 q101.1 (fun n => (if_neg g1).trans ((if_pos g2).trans ((if_neg g3).trans ((if_pos g4).trans rfl)))) w101.1, w101.2⟩
          obtain ⟨rfl, rfl⟩ := zrI h
          exact ⟨zR_ret 1 (rfl), rfl⟩
        · rcases zit h with ⟨g5, h⟩ | ⟨g5, h⟩
          · obtain ⟨v102, M102, f102, h⟩ := zBx h
            have q102 := L_St_isOpen (d := d) f102 rfl
            obtain ⟨I102, L102, ⟨ra102, rb102, rc102, rd102⟩, K102, c102⟩ := M102
            obtain rfl : K102 = zK0 sl sx := q102.2
            suffices w102 : zLI (d + 1) tb_X8_can 57 [some (vR 7 (some a0)), some (vR 4 (some a1)), some (vI x2), some (vI x3)] [vI v102] (I102, L102, (ra102, rb102, rc102, rd102), zK0 sl sx, c102) x M' (zK0 sl sx) from ⟨zR_call (rest := []) 11 q102.1 (fun n => (if_neg g1).trans ((if_pos g2).trans ((if_neg g3).trans ((if_neg g4).trans ((if_pos g5).trans rfl))))) w102.1, w102.2⟩
            rcases zit h with ⟨g6, h⟩ | ⟨g6, h⟩
            · obtain ⟨rfl, rfl⟩ := zrI h
              exact ⟨zR_ret 4 ((if_pos g6).trans rfl), rfl⟩
            · obtain ⟨rfl, rfl⟩ := zrI h
              exact ⟨zR_ret 3 ((if_neg g6).trans rfl), rfl⟩
          · rcases zit h with ⟨g7, h⟩ | ⟨g7, h⟩
            · obtain ⟨v103, M103, f103, h⟩ := zBx h
              have q103 := L_St_isBroken (d := d) f103 rfl
              obtain ⟨I103, L103, ⟨ra103, rb103, rc103, rd103⟩, K103, c103⟩ := M103
              obtain rfl : K103 = zK0 sl sx := q103.2
              suffices w103 : zLI (d + 1) tb_X8_can 71 [some (vR 7 (some a0)), some (vR 4 (some a1)), some (vI x2), some (vI x3)] [vI v103] (I103, L103, (ra103, rb103, rc103, rd103), zK0 sl sx, c103) x M' (zK0 sl sx) from ⟨zR_call (rest := []) 11 q103.1 (fun n => (if_neg g1).trans ((if_pos g2).trans ((if_neg g3).trans ((if_neg g4).trans ((if_neg g5).trans ((if_pos g7).trans rfl)))))) w103.1, w103.2⟩
              rcases zit h with ⟨g8, h⟩ | ⟨g8, h⟩
              · obtain ⟨rfl, rfl⟩ := zrI h
                exact ⟨zR_ret 3 ((if_pos g8).trans rfl), rfl⟩
              · obtain ⟨v104, M104, f104, h⟩ := zBx h
                have q104 := L_Pa_isSlack (d := d) f104 rfl
                obtain ⟨I104, L104, ⟨ra104, rb104, rc104, rd104⟩, K104, c104⟩ := M104
                obtain rfl : K104 = zK0 sl sx := q104.2
                suffices w104 : zLI (d + 1) tb_X8_can 82 [some (vR 7 (some a0)), some (vR 4 (some a1)), some (vI x2), some (vI x3)] [vI v104] (I104, L104, (ra104, rb104, rc104, rd104), zK0 sl sx, c104) x M' (zK0 sl sx) from ⟨zR_call (rest := []) 5 q104.1 (fun n => (if_neg g8).trans rfl) w104.1, w104.2⟩
                rcases zit h with ⟨g9, h⟩ | ⟨g9, h⟩
                · obtain ⟨rfl, rfl⟩ := zrI h
                  exact ⟨zR_ret 3 ((if_pos g9).trans rfl), rfl⟩
                · obtain ⟨rfl, rfl⟩ := zrI h
                  exact ⟨zR_ret 4 ((if_neg g9).trans rfl), rfl⟩
            · obtain ⟨rfl, rfl⟩ := zrI h
              exact ⟨zR_ret 10 ((if_neg g1).trans ((if_pos g2).trans ((if_neg g3).trans ((if_neg g4).trans ((if_neg g5).trans ((if_neg g7).trans rfl)))))), rfl⟩
    · obtain ⟨rfl, rfl⟩ := zrI h
      exact ⟨zR_ret 8 ((if_neg g1).trans ((if_neg g2).trans rfl)), rfl⟩
set_option maxRecDepth 20000 in
theorem L_St_act {N d sl : Nat} {sx : Nat → Int} {a0 : Nat} {a1 : Nat} {x2 : Int} {x3 : Int} {x4 : Int} {M : ZM} {x : Int} {M' : ZM} (h : St_act N a0 a1 x2 x3 x4 M = some (x, M')) (hK : mK M = zK0 sl sx) : zLI (d + 2) tb_X8_act 0 [some (vR 7 (some a0)), some (vR 4 (some a1)), some (vI x2), some (vI x3), some (vI x4), none] [] M x M' (zK0 sl sx) := by
  obtain ⟨I0, L0, ⟨ra0, rb0, rc0, rd0⟩, K0, c0⟩ := M
  obtain rfl : K0 = zK0 sl sx := hK
  obtain ⟨v101, M101, f101, h⟩ := zBx h
  have q101 := L_St_can (d := d) f101 rfl
  obtain ⟨I101, L101, ⟨ra101, rb101, rc101, rd101⟩, K101, c101⟩ := M101
  obtain rfl : K101 = zK0 sl sx := q101.2
  suffices w101 : zLI (d + 2) tb_X8_act 7 [some (vR 7 (some a0)), some (vR 4 (some a1)), some (vI x2), some (vI x3), some (vI x4), none] [vI v101] (I101, L101, (ra101, rb101, rc101, rd101), zK0 sl sx, c101) x M' (zK0 sl sx) from ⟨zR_call (rest := []) 5 q101.1 (fun n => rfl) w101.1, w101.2⟩
  rcases zit h with ⟨g1, h⟩ | ⟨g1, h⟩
  · obtain ⟨rfl, rfl⟩ := zrI h
    exact ⟨zR_ret 3 ((if_pos g1).trans rfl), rfl⟩
  · replace h := zWx h
    rcases zit h with ⟨g2, h⟩ | ⟨g2, h⟩
    · obtain ⟨g3, h⟩ := zIx h
      replace h := zWx h
      obtain ⟨rfl, rfl⟩ := zrI h
      exact ⟨zR_ret 15 ((if_neg g1).trans ((if_pos g2).trans ((if_pos g3).trans rfl))), rfl⟩
    · rcases zit h with ⟨g4, h⟩ | ⟨g4, h⟩
      · replace h := zWx h
        obtain ⟨rfl, rfl⟩ := zrI h
        exact ⟨zR_ret 18 ((if_neg g1).trans ((if_neg g2).trans ((if_pos g4).trans rfl))), rfl⟩
      · rcases zit h with ⟨g5, h⟩ | ⟨g5, h⟩
        · replace h := zWx h
          obtain ⟨rfl, rfl⟩ := zrI h
          exact ⟨zR_ret 16 ((if_neg g1).trans ((if_neg g2).trans ((if_neg g4).trans ((if_pos g5).trans rfl)))), rfl⟩
        · replace h := zWx h
          obtain ⟨g6, h⟩ := zIx h
          replace h := zWx h
          obtain ⟨rfl, rfl⟩ := zrI h
          exact ⟨zR_ret 22 ((if_neg g1).trans ((if_neg g2).trans ((if_neg g4).trans ((if_neg g5).trans ((if_pos g6).trans rfl))))), rfl⟩
set_option maxRecDepth 20000 in
theorem L_Ta_put_43 {N d sl : Nat} {sx : Nat → Int} {rec3 : Nat → Int → Int → ZM → Option ZM} (hrec3 : ∀ {a0 : Nat} {x1 : Int} {x3 : Int} {M : ZM} {M' : ZM}, rec3 a0 x1 x3 M = some M' → mK M = zK0 sl sx → zLV (d + 0) tb_X9_put 3 [some (vR 8 (some a0)), some (vL x1), none, some (vI x3), none, none] [] M M' (zK0 sl sx)) {a0 : Nat} {x1 : Int} {x3 : Int} {x4 : Int} {y0 : Int} {M : ZM} {M' : ZM} (h : Ta_put_43 N rec3 a0 x1 x3 x4 y0 M = some M') (hK : mK M = zK0 sl sx) : zLV (d + 0) tb_X9_put 43 [some (vR 8 (some a0)), some (vL x1), none, some (vI x3), some (vI x4), none] [vI y0] M M' (zK0 sl sx) := by
  obtain ⟨I0, L0, ⟨ra0, rb0, rc0, rd0⟩, K0, c0⟩ := M
  obtain rfl : K0 = zK0 sl sx := hK
  rcases zit h with ⟨g1, h⟩ | ⟨g1, h⟩
  · replace h := zWx h
    have q := hrec3 h rfl
    exact ⟨zR_go 5 (zR_up (ls' := [some (vR 8 (some a0)), some (vL x1), none, some (vI (z32 (x3 + (-8)))), some (vI x4), some (vI y0)]) q.1 ⟨.inr rfl, .inr rfl, .inr rfl, .inr rfl, .inl rfl, .inl rfl, trivial⟩) (fun n => (if_pos g1).trans rfl), q.2⟩
  · rcases zit h with ⟨g2, h⟩ | ⟨g2, h⟩
    · obtain ⟨g3, h⟩ := zIx h
      replace h := zWx h
      replace h := zWx h
      replace h := zWx h
      have q := hrec3 h rfl
      exact ⟨zR_go 24 (zR_up (ls' := [some (vR 8 (some a0)), some (vL x1), none, some (vI (z32 (x3 + (-8)))), some (vI x4), some (vI y0)]) q.1 ⟨.inr rfl, .inr rfl, .inr rfl, .inr rfl, .inl rfl, .inl rfl, trivial⟩) (fun n => (if_neg g1).trans ((if_pos g2).trans ((if_pos g3).trans rfl))), q.2⟩
    · replace h := zWx h
      have q := hrec3 h rfl
      exact ⟨zR_go 11 (zR_up (ls' := [some (vR 8 (some a0)), some (vL x1), none, some (vI (z32 (x3 + (-8)))), some (vI x4), some (vI y0)]) q.1 ⟨.inr rfl, .inr rfl, .inr rfl, .inr rfl, .inl rfl, .inl rfl, trivial⟩) (fun n => (if_neg g1).trans ((if_neg g2).trans rfl)), q.2⟩
set_option maxRecDepth 20000 in
theorem L_Ta_put_3 {N d sl : Nat} {sx : Nat → Int} : ∀ {n : Nat} {a0 : Nat} {x1 : Int} {x3 : Int} {M : ZM} {M' : ZM}, Ta_put_3 N n a0 x1 x3 M = some M' → mK M = zK0 sl sx → zLV (d + 0) tb_X9_put 3 [some (vR 8 (some a0)), some (vL x1), none, some (vI x3), none, none] [] M M' (zK0 sl sx) := by
  intro n
  induction n with
  | zero => intros; rename_i h _; cases h
  | succ n ih =>
    intro a0 x1 x3 M M' h hK
    obtain ⟨I0, L0, ⟨ra0, rb0, rc0, rd0⟩, K0, c0⟩ := M
    obtain rfl : K0 = zK0 sl sx := hK
    rcases zit h with ⟨g1, h⟩ | ⟨g1, h⟩
    · obtain rfl := zrV h
      exact ⟨zR_ret 3 ((if_pos g1).trans rfl), rfl⟩
    · replace h := zWx h
      rcases zit h with ⟨g2, h⟩ | ⟨g2, h⟩
      · have q := L_Ta_put_43 (d := d) ih h rfl
        exact ⟨zR_go 14 q.1 (fun n => (if_neg g1).trans ((if_pos g2).trans rfl)), q.2⟩
      · rcases zit h with ⟨g3, h⟩ | ⟨g3, h⟩
        · have q := L_Ta_put_43 (d := d) ih h rfl
          exact ⟨zR_go 16 q.1 (fun n => (if_neg g1).trans ((if_neg g2).trans ((if_pos g3).trans rfl))), q.2⟩
        · rcases zit h with ⟨g4, h⟩ | ⟨g4, h⟩
          · have q := L_Ta_put_43 (d := d) ih h rfl
            exact ⟨zR_go 19 q.1 (fun n => (if_neg g1).trans ((if_neg g2).trans ((if_neg g3).trans ((if_pos g4).trans rfl)))), q.2⟩
          · have q := L_Ta_put_43 (d := d) ih h rfl
            exact ⟨zR_go 20 q.1 (fun n => (if_neg g1).trans ((if_neg g2).trans ((if_neg g3).trans ((if_neg g4).trans rfl)))), q.2⟩
set_option maxRecDepth 20000 in
theorem L_Ta_put {N d sl : Nat} {sx : Nat → Int} {a0 : Nat} {x1 : Int} {M : ZM} {M' : ZM} (h : Ta_put N a0 x1 M = some M') (hK : mK M = zK0 sl sx) : zLV (d + 0) tb_X9_put 0 [some (vR 8 (some a0)), some (vL x1), none, none, none, none] [] M M' (zK0 sl sx) := by
  obtain ⟨I0, L0, ⟨ra0, rb0, rc0, rd0⟩, K0, c0⟩ := M
  obtain rfl : K0 = zK0 sl sx := hK
  have q := L_Ta_put_3 (d := d) h rfl
  exact ⟨zR_go 2 q.1 (fun n => rfl), q.2⟩
set_option maxRecDepth 20000 in
theorem L_Wi_note_35 {N d sl : Nat} {sx : Nat → Int} {a0 : Nat} {x1 : Int} {x2 : Int} {b0 : Nat} {y1 : Int} {M : ZM} {M' : ZM} (h : Wi_note_35 N a0 x1 x2 b0 y1 M = some M') (hK : mK M = zK0 sl sx) : zLV (d + 0) tb_X10_note 35 [some (vR 9 (some a0)), some (vI x1), some (vI x2)] [vI y1, vR 9 (some b0)] M M' (zK0 sl sx) := by
  obtain ⟨I0, L0, ⟨ra0, rb0, rc0, rd0⟩, K0, c0⟩ := M
  obtain rfl : K0 = zK0 sl sx := hK
  replace h := zWx h
  replace h := zWx h
  replace h := zWx h
  obtain rfl := zrV h
  exact ⟨zR_ret 16 (rfl), rfl⟩
set_option maxRecDepth 20000 in
theorem L_Wi_note {N d sl : Nat} {sx : Nat → Int} {a0 : Nat} {x1 : Int} {x2 : Int} {M : ZM} {M' : ZM} (h : Wi_note N a0 x1 x2 M = some M') (hK : mK M = zK0 sl sx) : zLV (d + 0) tb_X10_note 0 [some (vR 9 (some a0)), some (vI x1), some (vI x2)] [] M M' (zK0 sl sx) := by
  obtain ⟨I0, L0, ⟨ra0, rb0, rc0, rd0⟩, K0, c0⟩ := M
  obtain rfl : K0 = zK0 sl sx := hK
  replace h := zWx h
  rcases zit h with ⟨g1, h⟩ | ⟨g1, h⟩
  · have q := L_Wi_note_35 (d := d) h rfl
    exact ⟨zR_go 13 q.1 (fun n => (if_pos g1).trans rfl), q.2⟩
  · rcases zit h with ⟨g2, h⟩ | ⟨g2, h⟩
    · have q := L_Wi_note_35 (d := d) h rfl
      exact ⟨zR_go 17 q.1 (fun n => (if_neg g1).trans ((if_pos g2).trans rfl)), q.2⟩
    · have q := L_Wi_note_35 (d := d) h rfl
      exact ⟨zR_go 17 q.1 (fun n => (if_neg g1).trans ((if_neg g2).trans rfl)), q.2⟩
set_option maxRecDepth 20000 in
theorem L_Wi_isAsSeen_2 {N d sl : Nat} {sx : Nat → Int} : ∀ {n : Nat} {a0 : Nat} {a1 : Nat} {x2 : Int} {M : ZM} {x : Int} {M' : ZM}, Wi_isAsSeen_2 N n a0 a1 x2 M = some (x, M') → mK M = zK0 sl sx → zLI (d + 1) tb_X10_isAsSeen 2 [some (vR 0 (some a0)), some (vR 3 (some a1)), some (vI x2), none] [] M x M' (zK0 sl sx) := by
  intro n
  induction n with
  | zero => intros; rename_i h _; cases h
  | succ n ih =>
    intro a0 a1 x2 M x M' h hK
    obtain ⟨I0, L0, ⟨ra0, rb0, rc0, rd0⟩, K0, c0⟩ := M
    obtain rfl : K0 = zK0 sl sx := hK
    rcases zit h with ⟨g1, h⟩ | ⟨g1, h⟩
    · obtain ⟨v101, M101, f101, h⟩ := zBx h
      have q101 := L_Nu_get (d := d) f101 rfl
      obtain ⟨I101, L101, ⟨ra101, rb101, rc101, rd101⟩, K101, c101⟩ := M101
      obtain rfl : K101 = zK0 sl sx := q101.2
      suffices w101 : zLI (d + 1) tb_X10_isAsSeen 15 [some (vR 0 (some a0)), some (vR 3 (some a1)), some (vI x2), none] [vI v101] (I101, L101, (ra101, rb101, rc101, rd101), zK0 sl sx, c101) x M' (zK0 sl sx) from ⟨zR_call (rest := []) 7 q101.1 (fun n => (if_pos g1).trans rfl) w101.1, w101.2⟩
      obtain ⟨g2, h⟩ := zIx h
      rcases zit h with ⟨g3, h⟩ | ⟨g3, h⟩
      · replace h := zWx h
        have q := ih h rfl
        exact ⟨zR_go 13 (zR_up (ls' := [some (vR 0 (some a0)), some (vR 3 (some a1)), some (vI (z32 (x2 + 1))), some (vI v101)]) q.1 ⟨.inr rfl, .inr rfl, .inr rfl, .inl rfl, trivial⟩) (fun n => (if_pos g2).trans ((if_pos g3).trans rfl)), q.2⟩
      · obtain ⟨rfl, rfl⟩ := zrI h
        exact ⟨zR_ret 13 ((if_pos g2).trans ((if_neg g3).trans rfl)), rfl⟩
    · obtain ⟨rfl, rfl⟩ := zrI h
      exact ⟨zR_ret 6 ((if_neg g1).trans rfl), rfl⟩
set_option maxRecDepth 20000 in
theorem L_Wi_isAsSeen {N d sl : Nat} {sx : Nat → Int} {a0 : Nat} {a1 : Nat} {M : ZM} {x : Int} {M' : ZM} (h : Wi_isAsSeen N a0 a1 M = some (x, M')) (hK : mK M = zK0 sl sx) : zLI (d + 1) tb_X10_isAsSeen 0 [some (vR 0 (some a0)), some (vR 3 (some a1)), none, none] [] M x M' (zK0 sl sx) := by
  obtain ⟨I0, L0, ⟨ra0, rb0, rc0, rd0⟩, K0, c0⟩ := M
  obtain rfl : K0 = zK0 sl sx := hK
  have q := L_Wi_isAsSeen_2 (d := d) h rfl
  exact ⟨zR_go 2 q.1 (fun n => rfl), q.2⟩
set_option maxRecDepth 20000 in
theorem L_Wi_guess_40 {N d sl : Nat} {sx : Nat → Int} {rec23 : Nat → Nat → Nat → Nat → Nat → Int → ZM → Option ZM} (hrec23 : ∀ {a0 : Nat} {a1 : Nat} {a2 : Nat} {a3 : Nat} {a4 : Nat} {x5 : Int} {M : ZM} {M' : ZM}, rec23 a0 a1 a2 a3 a4 x5 M = some M' → mK M = zK0 sl sx → zLV (d + 4) tb_X10_guess 23 [some (vR 9 (some a0)), some (vR 4 (some a1)), some (vR 7 (some a2)), some (vR 0 (some a3)), some (vR 3 (some a4)), some (vI x5), none, none] [] M M' (zK0 sl sx)) : ∀ {n : Nat} {a0 : Nat} {a1 : Nat} {a2 : Nat} {a3 : Nat} {a4 : Nat} {x5 : Int} {x6 : Int} {M : ZM} {M' : ZM}, Wi_guess_40 N rec23 n a0 a1 a2 a3 a4 x5 x6 M = some M' → mK M = zK0 sl sx → zLV (d + 4) tb_X10_guess 40 [some (vR 9 (some a0)), some (vR 4 (some a1)), some (vR 7 (some a2)), some (vR 0 (some a3)), some (vR 3 (some a4)), some (vI x5), some (vI x6), none] [] M M' (zK0 sl sx) := by
  intro n
  induction n with
  | zero => intros; rename_i h _; cases h
  | succ n ih =>
    intro a0 a1 a2 a3 a4 x5 x6 M M' h hK
    obtain ⟨I0, L0, ⟨ra0, rb0, rc0, rd0⟩, K0, c0⟩ := M
    obtain rfl : K0 = zK0 sl sx := hK
    rcases zit h with ⟨g1, h⟩ | ⟨g1, h⟩
    · replace h := zWx h
      obtain ⟨M102, f102, h⟩ := zBvx h
      have q102 := L_Fl_give (d := d) f102 rfl
      obtain ⟨I102, L102, ⟨ra102, rb102, rc102, rd102⟩, K102, c102⟩ := M102
      obtain rfl : K102 = zK0 sl sx := q102.2
      suffices w102 : zLV (d + 4) tb_X10_guess 65 [some (vR 9 (some a0)), some (vR 4 (some a1)), some (vR 7 (some a2)), some (vR 0 (some a3)), some (vR 3 (some a4)), some (vI x5), some (vI x6), some (vI (z32 ((z32 (x5 * 31)) + x6)))] [] (I102, L102, (ra102, rb102, rc102, rd102), zK0 sl sx, c102) M' (zK0 sl sx) from ⟨zR_call (rest := []) 14 q102.1 (fun n => (if_pos g1).trans rfl) w102.1, w102.2⟩
      obtain ⟨g2, h⟩ := zIx h
      replace h := zWx h
      obtain ⟨v104, M104, f104, h⟩ := zBx h
      have q104 := L_Wi_isAsSeen (d := (d + 2)) f104 rfl
      obtain ⟨I104, L104, ⟨ra104, rb104, rc104, rd104⟩, K104, c104⟩ := M104
      obtain rfl : K104 = zK0 sl sx := q104.2
      suffices w104 : zLV (d + 4) tb_X10_guess 96 [some (vR 9 (some a0)), some (vR 4 (some a1)), some (vR 7 (some a2)), some (vR 0 (some a3)), some (vR 3 (some a4)), some (vI x5), some (vI x6), some (vI (z32 ((z32 (x5 * 31)) + x6)))] [vI v104, vI (z32 ((z32 (x5 * 31)) + x6)), vR 43 (some a0)] (I104, L104, (ra104, rb104, rc104, rd104), zK0 sl sx, c104) M' (zK0 sl sx) from ⟨zR_call (rest := [vI (z32 ((z32 (x5 * 31)) + x6)), vR 43 (some a0)]) 16 q104.1 (fun n => (if_pos g2).trans rfl) w104.1, w104.2⟩
      obtain ⟨g3, h⟩ := zIx h
      replace h := zWx h
      obtain ⟨g4, h⟩ := zIx h
      rcases zit h with ⟨g5, h⟩ | ⟨g5, h⟩
      · replace h := zWx h
        have q := ih h rfl
        exact ⟨zR_go 8 (zR_up (ls' := [some (vR 9 (some a0)), some (vR 4 (some a1)), some (vR 7 (some a2)), some (vR 0 (some a3)), some (vR 3 (some a4)), some (vI x5), some (vI (z32 (x6 + 1))), some (vI (z32 ((z32 (x5 * 31)) + x6)))]) q.1 ⟨.inr rfl, .inr rfl, .inr rfl, .inr rfl, .inr rfl, .inr rfl, .inr rfl, .inl rfl, trivial⟩) (fun n => (if_pos g3).trans ((if_pos g4).trans ((if_pos g5).trans rfl))), q.2⟩
      · obtain ⟨M107, f107, h⟩ := zBvx h
        have q107 := L_Wi_note (d := (d + 3)) f107 rfl
        obtain ⟨I107, L107, ⟨ra107, rb107, rc107, rd107⟩, K107, c107⟩ := M107
        obtain rfl : K107 = zK0 sl sx := q107.2
        suffices w107 : zLV (d + 4) tb_X10_guess 115 [some (vR 9 (some a0)), some (vR 4 (some a1)), some (vR 7 (some a2)), some (vR 0 (some a3)), some (vR 3 (some a4)), some (vI x5), some (vI x6), some (vI (z32 ((z32 (x5 * 31)) + x6)))] [] (I107, L107, (ra107, rb107, rc107, rd107), zK0 sl sx, c107) M' (zK0 sl sx) from ⟨zR_call (rest := []) 10 q107.1 (fun n => (if_pos g3).trans ((if_pos g4).trans ((if_neg g5).trans rfl))) w107.1, w107.2⟩
        replace h := zWx h
        have q := ih h rfl
        exact ⟨zR_go 2 (zR_up (ls' := [some (vR 9 (some a0)), some (vR 4 (some a1)), some (vR 7 (some a2)), some (vR 0 (some a3)), some (vR 3 (some a4)), some (vI x5), some (vI (z32 (x6 + 1))), some (vI (z32 ((z32 (x5 * 31)) + x6)))]) q.1 ⟨.inr rfl, .inr rfl, .inr rfl, .inr rfl, .inr rfl, .inr rfl, .inr rfl, .inl rfl, trivial⟩) (fun n => rfl), q.2⟩
    · replace h := zWx h
      have q := hrec23 h rfl
      exact ⟨zR_go 5 (zR_up (ls' := [some (vR 9 (some a0)), some (vR 4 (some a1)), some (vR 7 (some a2)), some (vR 0 (some a3)), some (vR 3 (some a4)), some (vI (z32 (x5 + 1))), some (vI x6), none]) q.1 ⟨.inr rfl, .inr rfl, .inr rfl, .inr rfl, .inr rfl, .inr rfl, .inl rfl, .inr rfl, trivial⟩) (fun n => (if_neg g1).trans rfl), q.2⟩
set_option maxRecDepth 20000 in
theorem L_Wi_guess_23 {N d sl : Nat} {sx : Nat → Int} : ∀ {n : Nat} {a0 : Nat} {a1 : Nat} {a2 : Nat} {a3 : Nat} {a4 : Nat} {x5 : Int} {M : ZM} {M' : ZM}, Wi_guess_23 N n a0 a1 a2 a3 a4 x5 M = some M' → mK M = zK0 sl sx → zLV (d + 4) tb_X10_guess 23 [some (vR 9 (some a0)), some (vR 4 (some a1)), some (vR 7 (some a2)), some (vR 0 (some a3)), some (vR 3 (some a4)), some (vI x5), none, none] [] M M' (zK0 sl sx) := by
  intro n
  induction n with
  | zero => intros; rename_i h _; cases h
  | succ n ih =>
    intro a0 a1 a2 a3 a4 x5 M M' h hK
    obtain ⟨I0, L0, ⟨ra0, rb0, rc0, rd0⟩, K0, c0⟩ := M
    obtain rfl : K0 = zK0 sl sx := hK
    rcases zit h with ⟨g1, h⟩ | ⟨g1, h⟩
    · obtain ⟨M101, f101, h⟩ := zBvx h
      have q101 := L_Fl_take (d := d) f101 rfl
      obtain ⟨I101, L101, ⟨ra101, rb101, rc101, rd101⟩, K101, c101⟩ := M101
      obtain rfl : K101 = zK0 sl sx := q101.2
      suffices w101 : zLV (d + 4) tb_X10_guess 37 [some (vR 9 (some a0)), some (vR 4 (some a1)), some (vR 7 (some a2)), some (vR 0 (some a3)), some (vR 3 (some a4)), some (vI x5), none, none] [] (I101, L101, (ra101, rb101, rc101, rd101), zK0 sl sx, c101) M' (zK0 sl sx) from ⟨zR_call (rest := []) 8 q101.1 (fun n => (if_pos g1).trans rfl) w101.1, w101.2⟩
      have q := L_Wi_guess_40 (d := d) ih h rfl
      exact ⟨zR_go 2 q.1 (fun n => rfl), q.2⟩
    · obtain rfl := zrV h
      exact ⟨zR_ret 4 ((if_neg g1).trans rfl), rfl⟩
set_option maxRecDepth 20000 in
theorem L_Wi_guess {N d sl : Nat} {sx : Nat → Int} {a0 : Nat} {a1 : Nat} {a2 : Nat} {a3 : Nat} {a4 : Nat} {M : ZM} {M' : ZM} (h : Wi_guess N a0 a1 a2 a3 a4 M = some M') (hK : mK M = zK0 sl sx) : zLV (d + 4) tb_X10_guess 0 [some (vR 9 (some a0)), some (vR 4 (some a1)), some (vR 7 (some a2)), some (vR 0 (some a3)), some (vR 3 (some a4)), none, none, none] [] M M' (zK0 sl sx) := by
  obtain ⟨I0, L0, ⟨ra0, rb0, rc0, rd0⟩, K0, c0⟩ := M
  obtain rfl : K0 = zK0 sl sx := hK
  replace h := zWx h
  replace h := zWx h
  replace h := zWx h
  replace h := zWx h
  have q := L_Wi_guess_23 (d := d) h rfl
  exact ⟨zR_go 14 q.1 (fun n => rfl), q.2⟩
set_option maxRecDepth 20000 in
theorem L_Wi_mostAlike_12 {N d sl : Nat} {sx : Nat → Int} : ∀ {n : Nat} {a0 : Nat} {x1 : Int} {x2 : Int} {x3 : Int} {M : ZM} {x : Int} {M' : ZM}, Wi_mostAlike_12 N n a0 x1 x2 x3 M = some (x, M') → mK M = zK0 sl sx → zLI (d + 1) tb_X10_mostAlike 12 [some (vR 9 (some a0)), some (vI x1), some (vI x2), some (vI x3), none] [] M x M' (zK0 sl sx) := by
  intro n
  induction n with
  | zero => intros; rename_i h _; cases h
  | succ n ih =>
    intro a0 x1 x2 x3 M x M' h hK
    obtain ⟨I0, L0, ⟨ra0, rb0, rc0, rd0⟩, K0, c0⟩ := M
    obtain rfl : K0 = zK0 sl sx := hK
    rcases zit h with ⟨g1, h⟩ | ⟨g1, h⟩
    · obtain ⟨g2, h⟩ := zIx h
      rcases zit h with ⟨g3, h⟩ | ⟨g3, h⟩
      · replace h := zWx h
        have q := ih h rfl
        exact ⟨zR_go 10 q.1 (fun n => (if_pos g1).trans ((if_pos g2).trans ((if_pos g3).trans rfl))), q.2⟩
      · obtain ⟨g4, h⟩ := zIx h
        replace h := zWx h
        obtain ⟨g5, h⟩ := zIx h
        obtain ⟨g6, h⟩ := zIx h
        replace h := zWx h
        obtain ⟨g7, h⟩ := zIx h
        replace h := zWx h
        replace h := zWx h
        have q := ih h rfl
        exact ⟨zR_go 34 (zR_up (ls' := [some (vR 9 (some a0)), some (vI x1), some (vI (zmax x2 (mI (pI (I0, L0, (ra0, rb0, rc0, rd0), zK0 sl sx, c0) 45 a0 (mI (I0, L0, (ra0, rb0, rc0, rd0), zK0 sl sx, c0) 44 a0 (z32 ((z32 (x3 * 6)) + x1)).toNat).toNat (z32 ((mI (I0, L0, (ra0, rb0, rc0, rd0), zK0 sl sx, c0) 45 a0 (mI (I0, L0, (ra0, rb0, rc0, rd0), zK0 sl sx, c0) 44 a0 (z32 ((z32 (x3 * 6)) + x1)).toNat).toNat) + 1))) 45 a0 (mI (I0, L0, (ra0, rb0, rc0, rd0), zK0 sl sx, c0) 44 a0 (z32 ((z32 (x3 * 6)) + x1)).toNat).toNat))), some (vI (z32 (x3 + 1))), some (vI (mI (I0, L0, (ra0, rb0, rc0, rd0), zK0 sl sx, c0) 44 a0 (z32 ((z32 (x3 * 6)) + x1)).toNat))]) q.1 ⟨.inr rfl, .inr rfl, .inr rfl, .inr rfl, .inl rfl, trivial⟩) (fun n => (if_pos g1).trans ((if_pos g2).trans ((if_neg g3).trans ((if_pos g4).trans ((if_pos g5).trans ((if_pos g6).trans ((if_pos g7).trans rfl))))))), q.2⟩
    · obtain ⟨rfl, rfl⟩ := zrI h
      exact ⟨zR_ret 5 ((if_neg g1).trans rfl), rfl⟩
set_option maxRecDepth 20000 in
theorem L_Wi_mostAlike {N d sl : Nat} {sx : Nat → Int} {a0 : Nat} {x1 : Int} {M : ZM} {x : Int} {M' : ZM} (h : Wi_mostAlike N a0 x1 M = some (x, M')) (hK : mK M = zK0 sl sx) : zLI (d + 1) tb_X10_mostAlike 0 [some (vR 9 (some a0)), some (vI x1), none, none, none] [] M x M' (zK0 sl sx) := by
  obtain ⟨I0, L0, ⟨ra0, rb0, rc0, rd0⟩, K0, c0⟩ := M
  obtain rfl : K0 = zK0 sl sx := hK
  obtain ⟨M101, f101, h⟩ := zBvx h
  have q101 := L_Ar_fill_45 (d := d) f101 rfl
  obtain ⟨I101, L101, ⟨ra101, rb101, rc101, rd101⟩, K101, c101⟩ := M101
  obtain rfl : K101 = zK0 sl sx := q101.2
  suffices w101 : zLI (d + 1) tb_X10_mostAlike 8 [some (vR 9 (some a0)), some (vI x1), none, none, none] [] (I101, L101, (ra101, rb101, rc101, rd101), zK0 sl sx, c101) x M' (zK0 sl sx) from ⟨zR_call (rest := []) 4 q101.1 (fun n => rfl) w101.1, w101.2⟩
  have q := L_Wi_mostAlike_12 (d := d) h rfl
  exact ⟨zR_go 4 q.1 (fun n => rfl), q.2⟩
set_option maxRecDepth 20000 in
theorem L_Wp_feed {N d sl : Nat} {sx : Nat → Int} {a0 : Nat} {x1 : Int} {x2 : Int} {x3 : Int} {M : ZM} {x : Int} {M' : ZM} (h : Wp_feed N a0 x1 x2 x3 M = some (x, M')) (hK : mK M = zK0 sl sx) : zLI (d + 1) tb_X12_feed 0 [some (vR 10 (some a0)), some (vL x1), none, some (vL x2), none, some (vL x3), none] [] M x M' (zK0 sl sx) := by
  obtain ⟨I0, L0, ⟨ra0, rb0, rc0, rd0⟩, K0, c0⟩ := M
  obtain rfl : K0 = zK0 sl sx := hK
  obtain ⟨M101, f101, h⟩ := zBvx h
  have q101 := L_Ta_put (d := d) f101 rfl
  obtain ⟨I101, L101, ⟨ra101, rb101, rc101, rd101⟩, K101, c101⟩ := M101
  obtain rfl : K101 = zK0 sl sx := q101.2
  suffices w101 : zLI (d + 1) tb_X12_feed 8 [some (vR 10 (some a0)), some (vL x1), none, some (vL x2), none, some (vL x3), none] [] (I101, L101, (ra101, rb101, rc101, rd101), zK0 sl sx, c101) x M' (zK0 sl sx) from ⟨zR_call (rest := []) 4 q101.1 (fun n => rfl) w101.1, w101.2⟩
  obtain ⟨M102, f102, h⟩ := zBvx h
  have q102 := L_Ta_put (d := d) f102 rfl
  obtain ⟨I102, L102, ⟨ra102, rb102, rc102, rd102⟩, K102, c102⟩ := M102
  obtain rfl : K102 = zK0 sl sx := q102.2
  suffices w102 : zLI (d + 1) tb_X12_feed 16 [some (vR 10 (some a0)), some (vL x1), none, some (vL x2), none, some (vL x3), none] [] (I102, L102, (ra102, rb102, rc102, rd102), zK0 sl sx, c102) x M' (zK0 sl sx) from ⟨zR_call (rest := []) 4 q102.1 (fun n => rfl) w102.1, w102.2⟩
  obtain ⟨M103, f103, h⟩ := zBvx h
  have q103 := L_Ta_put (d := d) f103 rfl
  obtain ⟨I103, L103, ⟨ra103, rb103, rc103, rd103⟩, K103, c103⟩ := M103
  obtain rfl : K103 = zK0 sl sx := q103.2
  suffices w103 : zLI (d + 1) tb_X12_feed 25 [some (vR 10 (some a0)), some (vL x1), none, some (vL x2), none, some (vL x3), none] [] (I103, L103, (ra103, rb103, rc103, rd103), zK0 sl sx, c103) x M' (zK0 sl sx) from ⟨zR_call (rest := []) 4 q103.1 (fun n => rfl) w103.1, w103.2⟩
  obtain ⟨rfl, rfl⟩ := zrI h
  exact ⟨zR_ret 4 (rfl), rfl⟩
set_option maxRecDepth 20000 in
theorem L_Wp_forgetPast {N d sl : Nat} {sx : Nat → Int} {a0 : Nat} {M : ZM} {M' : ZM} (h : Wp_forgetPast N a0 M = some M') (hK : mK M = zK0 sl sx) : zLV (d + 0) tb_X12_forgetPast 0 [some (vR 10 (some a0))] [] M M' (zK0 sl sx) := by
  obtain ⟨I0, L0, ⟨ra0, rb0, rc0, rd0⟩, K0, c0⟩ := M
  obtain rfl : K0 = zK0 sl sx := hK
  replace h := zWx h
  replace h := zWx h
  obtain rfl := zrV h
  exact ⟨zR_ret 7 (rfl), rfl⟩
set_option maxRecDepth 20000 in
theorem L_Wp_forgetSearches_2 {N d sl : Nat} {sx : Nat → Int} : ∀ {n : Nat} {a0 : Nat} {x1 : Int} {M : ZM} {M' : ZM}, Wp_forgetSearches_2 N n a0 x1 M = some M' → mK M = zK0 sl sx → zLV (d + 0) tb_X12_forgetSearches 2 [some (vR 10 (some a0)), some (vI x1)] [] M M' (zK0 sl sx) := by
  intro n
  induction n with
  | zero => intros; rename_i h _; cases h
  | succ n ih =>
    intro a0 x1 M M' h hK
    obtain ⟨I0, L0, ⟨ra0, rb0, rc0, rd0⟩, K0, c0⟩ := M
    obtain rfl : K0 = zK0 sl sx := hK
    rcases zit h with ⟨g1, h⟩ | ⟨g1, h⟩
    · obtain ⟨g2, h⟩ := zIx h
      replace h := zWx h
      replace h := zWx h
      have q := ih h rfl
      exact ⟨zR_go 13 q.1 (fun n => (if_pos g1).trans ((if_pos g2).trans rfl)), q.2⟩
    · obtain rfl := zrV h
      exact ⟨zR_ret 6 ((if_neg g1).trans rfl), rfl⟩
set_option maxRecDepth 20000 in
theorem L_Wp_forgetSearches {N d sl : Nat} {sx : Nat → Int} {a0 : Nat} {M : ZM} {M' : ZM} (h : Wp_forgetSearches N a0 M = some M') (hK : mK M = zK0 sl sx) : zLV (d + 0) tb_X12_forgetSearches 0 [some (vR 10 (some a0)), none] [] M M' (zK0 sl sx) := by
  obtain ⟨I0, L0, ⟨ra0, rb0, rc0, rd0⟩, K0, c0⟩ := M
  obtain rfl : K0 = zK0 sl sx := hK
  have q := L_Wp_forgetSearches_2 (d := d) h rfl
  exact ⟨zR_go 2 q.1 (fun n => rfl), q.2⟩
set_option maxRecDepth 20000 in
theorem L_Wp_park_65 {N d sl : Nat} {sx : Nat → Int} : ∀ {n : Nat} {a0 : Nat} {x3 : Int} {M : ZM} {x : Int} {M' : ZM}, Wp_park_65 N n a0 x3 M = some (x, M') → mK M = zK0 sl sx → zLI (d + 45) tb_X12_park 65 [some (vR 10 (some a0)), none, none, some (vI x3)] [] M x M' (zK0 sl sx) := by
  intro n
  induction n with
  | zero => intros; rename_i h _; cases h
  | succ n ih =>
    intro a0 x3 M x M' h hK
    obtain ⟨I0, L0, ⟨ra0, rb0, rc0, rd0⟩, K0, c0⟩ := M
    obtain rfl : K0 = zK0 sl sx := hK
    rcases zit h with ⟨g1, h⟩ | ⟨g1, h⟩
    · obtain ⟨g2, h⟩ := zIx h
      replace h := zWx h
      replace h := zWx h
      have q := ih h rfl
      exact ⟨zR_go 13 q.1 (fun n => (if_pos g1).trans ((if_pos g2).trans rfl)), q.2⟩
    · obtain ⟨M103, f103, h⟩ := zBvx h
      have q103 := L_Wp_forgetPast (d := (d + 44)) f103 rfl
      obtain ⟨I103, L103, ⟨ra103, rb103, rc103, rd103⟩, K103, c103⟩ := M103
      obtain rfl : K103 = zK0 sl sx := q103.2
      suffices w103 : zLI (d + 45) tb_X12_park 94 [some (vR 10 (some a0)), none, none, some (vI x3)] [] (I103, L103, (ra103, rb103, rc103, rd103), zK0 sl sx, c103) x M' (zK0 sl sx) from ⟨zR_call (rest := []) 7 q103.1 (fun n => (if_neg g1).trans rfl) w103.1, w103.2⟩
      obtain ⟨M104, f104, h⟩ := zBvx h
      have q104 := L_Wp_forgetSearches (d := (d + 44)) f104 rfl
      obtain ⟨I104, L104, ⟨ra104, rb104, rc104, rd104⟩, K104, c104⟩ := M104
      obtain rfl : K104 = zK0 sl sx := q104.2
      suffices w104 : zLI (d + 45) tb_X12_park 98 [some (vR 10 (some a0)), none, none, some (vI x3)] [] (I104, L104, (ra104, rb104, rc104, rd104), zK0 sl sx, c104) x M' (zK0 sl sx) from ⟨zR_call (rest := []) 2 q104.1 (fun n => rfl) w104.1, w104.2⟩
      obtain ⟨rfl, rfl⟩ := zrI h
      exact ⟨zR_ret 2 (rfl), rfl⟩
set_option maxRecDepth 20000 in
theorem L_Wp_park {N d sl : Nat} {sx : Nat → Int} {a0 : Nat} {M : ZM} {x : Int} {M' : ZM} (h : Wp_park N a0 M = some (x, M')) (hK : mK M = zK0 sl sx) : zLI (d + 45) tb_X12_park 0 [some (vR 10 (some a0)), none, none, none] [] M x M' (zK0 sl sx) := by
  obtain ⟨I0, L0, ⟨ra0, rb0, rc0, rd0⟩, K0, c0⟩ := M
  obtain rfl : K0 = zK0 sl sx := hK
  obtain ⟨p101, g1, h⟩ := zOx h
  obtain rfl : rb0 = some p101 := g1
  obtain ⟨v102, M102, f102, h⟩ := zBx h
  have q102 := L_Re_readPark (d := d) f102 rfl
  obtain ⟨I102, L102, ⟨ra102, rb102, rc102, rd102⟩, K102, c102⟩ := M102
  obtain rfl : K102 = zK0 sl sx := q102.2
  suffices w102 : zLI (d + 45) tb_X12_park 11 [some (vR 10 (some a0)), none, none, none] [vI v102] (I102, L102, (ra102, rb102, rc102, rd102), zK0 sl sx, c102) x M' (zK0 sl sx) from ⟨zR_call (rest := []) 5 q102.1 (fun n => rfl) w102.1, w102.2⟩
  rcases zit h with ⟨g2, h⟩ | ⟨g2, h⟩
  · replace h := zWx h
    obtain ⟨p104, g3, h⟩ := zOx h
    obtain rfl : rb102 = some p104 := g3
    replace h := zWx h
    obtain ⟨p106, g4, h⟩ := zOx h
    obtain rfl : ra102 = some p106 := g4
    replace h := zWx h
    obtain ⟨M108, f108, h⟩ := zBvx h
    have q108 := L_St_begin (d := (d + 43)) f108 rfl
    obtain ⟨I108, L108, ⟨ra108, rb108, rc108, rd108⟩, K108, c108⟩ := M108
    obtain rfl : K108 = zK0 sl sx := q108.2
    suffices w108 : zLI (d + 45) tb_X12_park 47 [some (vR 10 (some a0)), some (vI v102), some (vR 4 (some p106)), none] [] (I108, L108, (ra108, rb108, rc108, rd108), zK0 sl sx, c108) x M' (zK0 sl sx) from ⟨zR_call (rest := []) 18 q108.1 (fun n => (if_pos g2).trans rfl) w108.1, w108.2⟩
    replace h := zWx h
    replace h := zWx h
    have q := L_Wp_park_65 (d := d) h rfl
    exact ⟨zR_go 10 (zR_up (ls' := [some (vR 10 (some a0)), some (vI v102), some (vR 4 (some p106)), some (vI 0)]) q.1 ⟨.inr rfl, .inl rfl, .inl rfl, .inr rfl, trivial⟩) (fun n => rfl), q.2⟩
  · obtain ⟨rfl, rfl⟩ := zrI h
    exact ⟨zR_ret 5 ((if_neg g2).trans rfl), rfl⟩
set_option maxRecDepth 20000 in
theorem L_Wp_day {N d sl : Nat} {sx : Nat → Int} {a0 : Nat} {M : ZM} {x : Int} {M' : ZM} (h : Wp_day N a0 M = some (x, M')) (hK : mK M = zK0 sl sx) : zLI (d + 5) tb_X12_day 0 [some (vR 10 (some a0))] [] M x M' (zK0 sl sx) := by
  obtain ⟨I0, L0, ⟨ra0, rb0, rc0, rd0⟩, K0, c0⟩ := M
  obtain rfl : K0 = zK0 sl sx := hK
  obtain ⟨p101, g1, h⟩ := zOx h
  obtain rfl : ra0 = some p101 := g1
  obtain ⟨v102, M102, f102, h⟩ := zBx h
  have q102 := L_Re_readDay (d := d) f102 rfl
  obtain ⟨I102, L102, ⟨ra102, rb102, rc102, rd102⟩, K102, c102⟩ := M102
  obtain rfl : K102 = zK0 sl sx := q102.2
  suffices w102 : zLI (d + 5) tb_X12_day 15 [some (vR 10 (some a0))] [vI v102] (I102, L102, (ra102, rb102, rc102, rd102), zK0 sl sx, c102) x M' (zK0 sl sx) from ⟨zR_call (rest := []) 7 q102.1 (fun n => rfl) w102.1, w102.2⟩
  obtain ⟨rfl, rfl⟩ := zrI h
  exact ⟨zR_ret 1 (rfl), rfl⟩
set_option maxRecDepth 20000 in
theorem L_Wp_stands {N d sl : Nat} {sx : Nat → Int} {a0 : Nat} {x1 : Int} {M : ZM} {x : Int} {M' : ZM} (h : Wp_stands N a0 x1 M = some (x, M')) (hK : mK M = zK0 sl sx) : zLI (d + 0) tb_X12_stands 0 [some (vR 10 (some a0)), some (vI x1)] [] M x M' (zK0 sl sx) := by
  obtain ⟨I0, L0, ⟨ra0, rb0, rc0, rd0⟩, K0, c0⟩ := M
  obtain rfl : K0 = zK0 sl sx := hK
  rcases zit h with ⟨g1, h⟩ | ⟨g1, h⟩
  · obtain ⟨rfl, rfl⟩ := zrI h
    exact ⟨zR_ret 4 ((if_pos g1).trans rfl), rfl⟩
  · obtain ⟨p101, g2, h⟩ := zOx h
    obtain rfl : ra0 = some p101 := g2
    rcases zit h with ⟨g3, h⟩ | ⟨g3, h⟩
    · obtain ⟨rfl, rfl⟩ := zrI h
      exact ⟨zR_ret 10 ((if_neg g1).trans ((if_pos g3).trans rfl)), rfl⟩
    · obtain ⟨rfl, rfl⟩ := zrI h
      exact ⟨zR_ret 9 ((if_neg g1).trans ((if_neg g3).trans rfl)), rfl⟩
set_option maxRecDepth 20000 in
theorem L_Wp_turbine {N d sl : Nat} {sx : Nat → Int} {a0 : Nat} {x1 : Int} {x2 : Int} {M : ZM} {x : Int} {M' : ZM} (h : Wp_turbine N a0 x1 x2 M = some (x, M')) (hK : mK M = zK0 sl sx) : zLI (d + 1) tb_X12_turbine 0 [some (vR 10 (some a0)), some (vI x1), some (vI x2)] [] M x M' (zK0 sl sx) := by
  obtain ⟨I0, L0, ⟨ra0, rb0, rc0, rd0⟩, K0, c0⟩ := M
  obtain rfl : K0 = zK0 sl sx := hK
  obtain ⟨v101, M101, f101, h⟩ := zBx h
  have q101 := L_Wp_stands (d := d) f101 rfl
  obtain ⟨I101, L101, ⟨ra101, rb101, rc101, rd101⟩, K101, c101⟩ := M101
  obtain rfl : K101 = zK0 sl sx := q101.2
  suffices w101 : zLI (d + 1) tb_X12_turbine 5 [some (vR 10 (some a0)), some (vI x1), some (vI x2)] [vI v101] (I101, L101, (ra101, rb101, rc101, rd101), zK0 sl sx, c101) x M' (zK0 sl sx) from ⟨zR_call (rest := []) 3 q101.1 (fun n => rfl) w101.1, w101.2⟩
  rcases zit h with ⟨g1, h⟩ | ⟨g1, h⟩
  · obtain ⟨rfl, rfl⟩ := zrI h
    exact ⟨zR_ret 3 ((if_pos g1).trans rfl), rfl⟩
  · rcases zit h with ⟨g2, h⟩ | ⟨g2, h⟩
    · obtain ⟨p102, g3, h⟩ := zOx h
      obtain rfl : ra101 = some p102 := g3
      obtain ⟨g4, h⟩ := zIx h
      obtain ⟨rfl, rfl⟩ := zrI h
      exact ⟨zR_ret 9 ((if_neg g1).trans ((if_pos g2).trans ((if_pos g4).trans rfl))), rfl⟩
    · rcases zit h with ⟨g5, h⟩ | ⟨g5, h⟩
      · obtain ⟨p103, g6, h⟩ := zOx h
        obtain rfl : ra101 = some p103 := g6
        obtain ⟨g7, h⟩ := zIx h
        obtain ⟨rfl, rfl⟩ := zrI h
        exact ⟨zR_ret 9 ((if_neg g1).trans ((if_neg g2).trans ((if_pos g5).trans ((if_pos g7).trans rfl)))), rfl⟩
      · rcases zit h with ⟨g8, h⟩ | ⟨g8, h⟩
        · obtain ⟨p104, g9, h⟩ := zOx h
          obtain rfl : ra101 = some p104 := g9
          obtain ⟨g10, h⟩ := zIx h
          obtain ⟨rfl, rfl⟩ := zrI h
          exact ⟨zR_ret 9 ((if_neg g1).trans ((if_neg g2).trans ((if_neg g5).trans ((if_pos g8).trans ((if_pos g10).trans rfl))))), rfl⟩
        · rcases zit h with ⟨g11, h⟩ | ⟨g11, h⟩
          · obtain ⟨g12, h⟩ := zIx h
            obtain ⟨rfl, rfl⟩ := zrI h
            exact ⟨zR_ret 9 ((if_neg g1).trans ((if_neg g2).trans ((if_neg g5).trans ((if_neg g8).trans ((if_pos g11).trans ((if_pos g12).trans rfl)))))), rfl⟩
          · rcases zit h with ⟨g13, h⟩ | ⟨g13, h⟩
            · obtain ⟨v105, M105, f105, h⟩ := zBx h
              have q105 := L_St_isOpen (d := d) f105 rfl
              obtain ⟨I105, L105, ⟨ra105, rb105, rc105, rd105⟩, K105, c105⟩ := M105
              obtain rfl : K105 = zK0 sl sx := q105.2
              suffices w105 : zLI (d + 1) tb_X12_turbine 112 [some (vR 10 (some a0)), some (vI x1), some (vI x2)] [vI v105] (I105, L105, (ra105, rb105, rc105, rd105), zK0 sl sx, c105) x M' (zK0 sl sx) from ⟨zR_call (rest := []) 7 q105.1 (fun n => (if_neg g1).trans ((if_neg g2).trans ((if_neg g5).trans ((if_neg g8).trans ((if_neg g11).trans ((if_pos g13).trans rfl)))))) w105.1, w105.2⟩
              rcases zit h with ⟨g14, h⟩ | ⟨g14, h⟩
              · obtain ⟨rfl, rfl⟩ := zrI h
                exact ⟨zR_ret 3 ((if_pos g14).trans rfl), rfl⟩
              · obtain ⟨rfl, rfl⟩ := zrI h
                exact ⟨zR_ret 4 ((if_neg g14).trans rfl), rfl⟩
            · rcases zit h with ⟨g15, h⟩ | ⟨g15, h⟩
              · obtain ⟨v106, M106, f106, h⟩ := zBx h
                have q106 := L_St_isBroken (d := d) f106 rfl
                obtain ⟨I106, L106, ⟨ra106, rb106, rc106, rd106⟩, K106, c106⟩ := M106
                obtain rfl : K106 = zK0 sl sx := q106.2
                suffices w106 : zLI (d + 1) tb_X12_turbine 129 [some (vR 10 (some a0)), some (vI x1), some (vI x2)] [vI v106] (I106, L106, (ra106, rb106, rc106, rd106), zK0 sl sx, c106) x M' (zK0 sl sx) from ⟨zR_call (rest := []) 7 q106.1 (fun n => (if_neg g1).trans ((if_neg g2).trans ((if_neg g5).trans ((if_neg g8).trans ((if_neg g11).trans ((if_neg g13).trans ((if_pos g15).trans rfl))))))) w106.1, w106.2⟩
                rcases zit h with ⟨g16, h⟩ | ⟨g16, h⟩
                · obtain ⟨rfl, rfl⟩ := zrI h
                  exact ⟨zR_ret 3 ((if_pos g16).trans rfl), rfl⟩
                · obtain ⟨rfl, rfl⟩ := zrI h
                  exact ⟨zR_ret 4 ((if_neg g16).trans rfl), rfl⟩
              · rcases zit h with ⟨g17, h⟩ | ⟨g17, h⟩
                · obtain ⟨g18, h⟩ := zIx h
                  obtain ⟨rfl, rfl⟩ := zrI h
                  exact ⟨zR_ret 9 ((if_neg g1).trans ((if_neg g2).trans ((if_neg g5).trans ((if_neg g8).trans ((if_neg g11).trans ((if_neg g13).trans ((if_neg g15).trans ((if_pos g17).trans ((if_pos g18).trans rfl))))))))), rfl⟩
                · rcases zit h with ⟨g19, h⟩ | ⟨g19, h⟩
                  · obtain ⟨p107, g20, h⟩ := zOx h
                    obtain rfl : ra101 = some p107 := g20
                    obtain ⟨g21, h⟩ := zIx h
                    obtain ⟨rfl, rfl⟩ := zrI h
                    exact ⟨zR_ret 9 ((if_neg g1).trans ((if_neg g2).trans ((if_neg g5).trans ((if_neg g8).trans ((if_neg g11).trans ((if_neg g13).trans ((if_neg g15).trans ((if_neg g17).trans ((if_pos g19).trans ((if_pos g21).trans rfl)))))))))), rfl⟩
                  · rcases zit h with ⟨g22, h⟩ | ⟨g22, h⟩
                    · obtain ⟨p108, g23, h⟩ := zOx h
                      obtain rfl : ra101 = some p108 := g23
                      obtain ⟨g24, h⟩ := zIx h
                      obtain ⟨rfl, rfl⟩ := zrI h
                      exact ⟨zR_ret 9 ((if_neg g1).trans ((if_neg g2).trans ((if_neg g5).trans ((if_neg g8).trans ((if_neg g11).trans ((if_neg g13).trans ((if_neg g15).trans ((if_neg g17).trans ((if_neg g19).trans ((if_pos g22).trans ((if_pos g24).trans rfl))))))))))), rfl⟩
                    · obtain ⟨rfl, rfl⟩ := zrI h
                      exact ⟨zR_ret 5 ((if_neg g1).trans ((if_neg g2).trans ((if_neg g5).trans ((if_neg g8).trans ((if_neg g11).trans ((if_neg g13).trans ((if_neg g15).trans ((if_neg g17).trans ((if_neg g19).trans ((if_neg g22).trans rfl)))))))))), rfl⟩
set_option maxRecDepth 20000 in
theorem L_Wp_wind {N d sl : Nat} {sx : Nat → Int} {a0 : Nat} {x1 : Int} {M : ZM} {x : Int} {M' : ZM} (h : Wp_wind N a0 x1 M = some (x, M')) (hK : mK M = zK0 sl sx) : zLI (d + 5) tb_X12_wind 0 [some (vR 10 (some a0)), some (vI x1)] [] M x M' (zK0 sl sx) := by
  obtain ⟨I0, L0, ⟨ra0, rb0, rc0, rd0⟩, K0, c0⟩ := M
  obtain rfl : K0 = zK0 sl sx := hK
  obtain ⟨v101, M101, f101, h⟩ := zBx h
  have q101 := L_Wp_stands (d := (d + 4)) f101 rfl
  obtain ⟨I101, L101, ⟨ra101, rb101, rc101, rd101⟩, K101, c101⟩ := M101
  obtain rfl : K101 = zK0 sl sx := q101.2
  suffices w101 : zLI (d + 5) tb_X12_wind 5 [some (vR 10 (some a0)), some (vI x1)] [vI v101] (I101, L101, (ra101, rb101, rc101, rd101), zK0 sl sx, c101) x M' (zK0 sl sx) from ⟨zR_call (rest := []) 3 q101.1 (fun n => rfl) w101.1, w101.2⟩
  rcases zit h with ⟨g1, h⟩ | ⟨g1, h⟩
  · obtain ⟨rfl, rfl⟩ := zrI h
    exact ⟨zR_ret 3 ((if_pos g1).trans rfl), rfl⟩
  · obtain ⟨p102, g2, h⟩ := zOx h
    obtain rfl : ra101 = some p102 := g2
    obtain ⟨M103, f103, h⟩ := zBvx h
    have q103 := L_Fl_measure (d := d) f103 rfl
    obtain ⟨I103, L103, ⟨ra103, rb103, rc103, rd103⟩, K103, c103⟩ := M103
    obtain rfl : K103 = zK0 sl sx := q103.2
    suffices w103 : zLI (d + 5) tb_X12_wind 25 [some (vR 10 (some a0)), some (vI x1)] [] (I103, L103, (ra103, rb103, rc103, rd103), zK0 sl sx, c103) x M' (zK0 sl sx) from ⟨zR_call (rest := []) 8 q103.1 (fun n => (if_neg g1).trans rfl) w103.1, w103.2⟩
    obtain ⟨g3, h⟩ := zIx h
    obtain ⟨rfl, rfl⟩ := zrI h
    exact ⟨zR_ret 6 ((if_pos g3).trans rfl), rfl⟩
set_option maxRecDepth 20000 in
theorem L_Wp_power {N d sl : Nat} {sx : Nat → Int} {a0 : Nat} {x1 : Int} {M : ZM} {x : Int} {M' : ZM} (h : Wp_power N a0 x1 M = some (x, M')) (hK : mK M = zK0 sl sx) : zLI (d + 5) tb_X12_power 0 [some (vR 10 (some a0)), some (vI x1)] [] M x M' (zK0 sl sx) := by
  obtain ⟨I0, L0, ⟨ra0, rb0, rc0, rd0⟩, K0, c0⟩ := M
  obtain rfl : K0 = zK0 sl sx := hK
  obtain ⟨v101, M101, f101, h⟩ := zBx h
  have q101 := L_Wp_stands (d := (d + 4)) f101 rfl
  obtain ⟨I101, L101, ⟨ra101, rb101, rc101, rd101⟩, K101, c101⟩ := M101
  obtain rfl : K101 = zK0 sl sx := q101.2
  suffices w101 : zLI (d + 5) tb_X12_power 5 [some (vR 10 (some a0)), some (vI x1)] [vI v101] (I101, L101, (ra101, rb101, rc101, rd101), zK0 sl sx, c101) x M' (zK0 sl sx) from ⟨zR_call (rest := []) 3 q101.1 (fun n => rfl) w101.1, w101.2⟩
  rcases zit h with ⟨g1, h⟩ | ⟨g1, h⟩
  · obtain ⟨rfl, rfl⟩ := zrI h
    exact ⟨zR_ret 3 ((if_pos g1).trans rfl), rfl⟩
  · obtain ⟨p102, g2, h⟩ := zOx h
    obtain rfl : ra101 = some p102 := g2
    obtain ⟨M103, f103, h⟩ := zBvx h
    have q103 := L_Fl_measure (d := d) f103 rfl
    obtain ⟨I103, L103, ⟨ra103, rb103, rc103, rd103⟩, K103, c103⟩ := M103
    obtain rfl : K103 = zK0 sl sx := q103.2
    suffices w103 : zLI (d + 5) tb_X12_power 25 [some (vR 10 (some a0)), some (vI x1)] [] (I103, L103, (ra103, rb103, rc103, rd103), zK0 sl sx, c103) x M' (zK0 sl sx) from ⟨zR_call (rest := []) 8 q103.1 (fun n => (if_neg g1).trans rfl) w103.1, w103.2⟩
    obtain ⟨g3, h⟩ := zIx h
    obtain ⟨rfl, rfl⟩ := zrI h
    exact ⟨zR_ret 6 ((if_pos g3).trans rfl), rfl⟩
set_option maxRecDepth 20000 in
theorem L_Wp_carried {N d sl : Nat} {sx : Nat → Int} {a0 : Nat} {x1 : Int} {M : ZM} {x : Int} {M' : ZM} (h : Wp_carried N a0 x1 M = some (x, M')) (hK : mK M = zK0 sl sx) : zLI (d + 5) tb_X12_carried 0 [some (vR 10 (some a0)), some (vI x1)] [] M x M' (zK0 sl sx) := by
  obtain ⟨I0, L0, ⟨ra0, rb0, rc0, rd0⟩, K0, c0⟩ := M
  obtain rfl : K0 = zK0 sl sx := hK
  obtain ⟨v101, M101, f101, h⟩ := zBx h
  have q101 := L_Wp_stands (d := (d + 4)) f101 rfl
  obtain ⟨I101, L101, ⟨ra101, rb101, rc101, rd101⟩, K101, c101⟩ := M101
  obtain rfl : K101 = zK0 sl sx := q101.2
  suffices w101 : zLI (d + 5) tb_X12_carried 5 [some (vR 10 (some a0)), some (vI x1)] [vI v101] (I101, L101, (ra101, rb101, rc101, rd101), zK0 sl sx, c101) x M' (zK0 sl sx) from ⟨zR_call (rest := []) 3 q101.1 (fun n => rfl) w101.1, w101.2⟩
  rcases zit h with ⟨g1, h⟩ | ⟨g1, h⟩
  · obtain ⟨rfl, rfl⟩ := zrI h
    exact ⟨zR_ret 3 ((if_pos g1).trans rfl), rfl⟩
  · obtain ⟨p102, g2, h⟩ := zOx h
    obtain rfl : ra101 = some p102 := g2
    obtain ⟨M103, f103, h⟩ := zBvx h
    have q103 := L_Fl_measure (d := d) f103 rfl
    obtain ⟨I103, L103, ⟨ra103, rb103, rc103, rd103⟩, K103, c103⟩ := M103
    obtain rfl : K103 = zK0 sl sx := q103.2
    suffices w103 : zLI (d + 5) tb_X12_carried 25 [some (vR 10 (some a0)), some (vI x1)] [] (I103, L103, (ra103, rb103, rc103, rd103), zK0 sl sx, c103) x M' (zK0 sl sx) from ⟨zR_call (rest := []) 8 q103.1 (fun n => (if_neg g1).trans rfl) w103.1, w103.2⟩
    obtain ⟨g3, h⟩ := zIx h
    obtain ⟨rfl, rfl⟩ := zrI h
    exact ⟨zR_ret 6 ((if_pos g3).trans rfl), rfl⟩
set_option maxRecDepth 20000 in
theorem L_Wp_home {N d sl : Nat} {sx : Nat → Int} {a0 : Nat} {M : ZM} {x : Int} {M' : ZM} (h : Wp_home N a0 M = some (x, M')) (hK : mK M = zK0 sl sx) : zLI (d + 5) tb_X12_home 0 [some (vR 10 (some a0))] [] M x M' (zK0 sl sx) := by
  obtain ⟨I0, L0, ⟨ra0, rb0, rc0, rd0⟩, K0, c0⟩ := M
  obtain rfl : K0 = zK0 sl sx := hK
  obtain ⟨p101, g1, h⟩ := zOx h
  obtain rfl : ra0 = some p101 := g1
  obtain ⟨M102, f102, h⟩ := zBvx h
  have q102 := L_Fl_measure (d := d) f102 rfl
  obtain ⟨I102, L102, ⟨ra102, rb102, rc102, rd102⟩, K102, c102⟩ := M102
  obtain rfl : K102 = zK0 sl sx := q102.2
  suffices w102 : zLI (d + 5) tb_X12_home 15 [some (vR 10 (some a0))] [] (I102, L102, (ra102, rb102, rc102, rd102), zK0 sl sx, c102) x M' (zK0 sl sx) from ⟨zR_call (rest := []) 7 q102.1 (fun n => rfl) w102.1, w102.2⟩
  obtain ⟨rfl, rfl⟩ := zrI h
  exact ⟨zR_ret 4 (rfl), rfl⟩
set_option maxRecDepth 20000 in
theorem L_Wp_remember {N d sl : Nat} {sx : Nat → Int} {a0 : Nat} {M : ZM} {M' : ZM} (h : Wp_remember N a0 M = some M') (hK : mK M = zK0 sl sx) : zLV (d + 1) tb_X12_remember 0 [some (vR 10 (some a0))] [] M M' (zK0 sl sx) := by
  obtain ⟨I0, L0, ⟨ra0, rb0, rc0, rd0⟩, K0, c0⟩ := M
  obtain rfl : K0 = zK0 sl sx := hK
  obtain ⟨g1, h⟩ := zIx h
  obtain ⟨M101, f101, h⟩ := zBvx h
  have q101 := L_St_copy (d := d) f101 rfl
  obtain ⟨I101, L101, ⟨ra101, rb101, rc101, rd101⟩, K101, c101⟩ := M101
  obtain rfl : K101 = zK0 sl sx := q101.2
  suffices w101 : zLV (d + 1) tb_X12_remember 16 [some (vR 10 (some a0))] [] (I101, L101, (ra101, rb101, rc101, rd101), zK0 sl sx, c101) M' (zK0 sl sx) from ⟨zR_call (rest := []) 8 q101.1 (fun n => (if_pos g1).trans rfl) w101.1, w101.2⟩
  replace h := zWx h
  replace h := zWx h
  obtain ⟨M104, f104, h⟩ := zBvx h
  have q104 := L_Wp_forgetSearches (d := d) f104 rfl
  obtain ⟨I104, L104, ⟨ra104, rb104, rc104, rd104⟩, K104, c104⟩ := M104
  obtain rfl : K104 = zK0 sl sx := q104.2
  suffices w104 : zLV (d + 1) tb_X12_remember 48 [some (vR 10 (some a0))] [] (I104, L104, (ra104, rb104, rc104, rd104), zK0 sl sx, c104) M' (zK0 sl sx) from ⟨zR_call (rest := []) 18 q104.1 (fun n => rfl) w104.1, w104.2⟩
  obtain rfl := zrV h
  exact ⟨zR_ret 1 (rfl), rfl⟩
set_option maxRecDepth 20000 in
theorem L_Wp_act {N d sl : Nat} {sx : Nat → Int} {a0 : Nat} {x1 : Int} {x2 : Int} {x3 : Int} {M : ZM} {x : Int} {M' : ZM} (h : Wp_act N a0 x1 x2 x3 M = some (x, M')) (hK : mK M = zK0 sl sx) : zLI (d + 3) tb_X12_act 0 [some (vR 10 (some a0)), some (vI x1), some (vI x2), some (vI x3)] [] M x M' (zK0 sl sx) := by
  obtain ⟨I0, L0, ⟨ra0, rb0, rc0, rd0⟩, K0, c0⟩ := M
  obtain rfl : K0 = zK0 sl sx := hK
  obtain ⟨p101, g1, h⟩ := zOx h
  obtain rfl : ra0 = some p101 := g1
  obtain ⟨v102, M102, f102, h⟩ := zBx h
  have q102 := L_St_can (d := (d + 1)) f102 rfl
  obtain ⟨I102, L102, ⟨ra102, rb102, rc102, rd102⟩, K102, c102⟩ := M102
  obtain rfl : K102 = zK0 sl sx := q102.2
  suffices w102 : zLI (d + 3) tb_X12_act 13 [some (vR 10 (some a0)), some (vI x1), some (vI x2), some (vI x3)] [vI v102] (I102, L102, (ra102, rb102, rc102, rd102), zK0 sl sx, c102) x M' (zK0 sl sx) from ⟨zR_call (rest := []) 7 q102.1 (fun n => rfl) w102.1, w102.2⟩
  rcases zit h with ⟨g2, h⟩ | ⟨g2, h⟩
  · obtain ⟨rfl, rfl⟩ := zrI h
    exact ⟨zR_ret 3 ((if_pos g2).trans rfl), rfl⟩
  · obtain ⟨M103, f103, h⟩ := zBvx h
    have q103 := L_Wp_remember (d := (d + 1)) f103 rfl
    obtain ⟨I103, L103, ⟨ra103, rb103, rc103, rd103⟩, K103, c103⟩ := M103
    obtain rfl : K103 = zK0 sl sx := q103.2
    suffices w103 : zLI (d + 3) tb_X12_act 22 [some (vR 10 (some a0)), some (vI x1), some (vI x2), some (vI x3)] [] (I103, L103, (ra103, rb103, rc103, rd103), zK0 sl sx, c103) x M' (zK0 sl sx) from ⟨zR_call (rest := []) 3 q103.1 (fun n => (if_neg g2).trans rfl) w103.1, w103.2⟩
    obtain ⟨p104, g3, h⟩ := zOx h
    obtain rfl : ra103 = some p104 := g3
    obtain ⟨v105, M105, f105, h⟩ := zBx h
    have q105 := L_St_act (d := d) f105 rfl
    obtain ⟨I105, L105, ⟨ra105, rb105, rc105, rd105⟩, K105, c105⟩ := M105
    obtain rfl : K105 = zK0 sl sx := q105.2
    suffices w105 : zLI (d + 3) tb_X12_act 36 [some (vR 10 (some a0)), some (vI x1), some (vI x2), some (vI x3)] [vI v105] (I105, L105, (ra105, rb105, rc105, rd105), zK0 sl sx, c105) x M' (zK0 sl sx) from ⟨zR_call (rest := []) 8 q105.1 (fun n => rfl) w105.1, w105.2⟩
    obtain ⟨rfl, rfl⟩ := zrI h
    exact ⟨zR_ret 1 (rfl), rfl⟩
set_option maxRecDepth 20000 in
theorem L_Wp_turn {N d sl : Nat} {sx : Nat → Int} {a0 : Nat} {x1 : Int} {x2 : Int} {M : ZM} {x : Int} {M' : ZM} (h : Wp_turn N a0 x1 x2 M = some (x, M')) (hK : mK M = zK0 sl sx) : zLI (d + 4) tb_X12_turn 0 [some (vR 10 (some a0)), some (vI x1), some (vI x2), none] [] M x M' (zK0 sl sx) := by
  obtain ⟨I0, L0, ⟨ra0, rb0, rc0, rd0⟩, K0, c0⟩ := M
  obtain rfl : K0 = zK0 sl sx := hK
  obtain ⟨v101, M101, f101, h⟩ := zBx h
  have q101 := L_Wp_stands (d := (d + 3)) f101 rfl
  obtain ⟨I101, L101, ⟨ra101, rb101, rc101, rd101⟩, K101, c101⟩ := M101
  obtain rfl : K101 = zK0 sl sx := q101.2
  suffices w101 : zLI (d + 4) tb_X12_turn 5 [some (vR 10 (some a0)), some (vI x1), some (vI x2), none] [vI v101] (I101, L101, (ra101, rb101, rc101, rd101), zK0 sl sx, c101) x M' (zK0 sl sx) from ⟨zR_call (rest := []) 3 q101.1 (fun n => rfl) w101.1, w101.2⟩
  rcases zit h with ⟨g1, h⟩ | ⟨g1, h⟩
  · obtain ⟨rfl, rfl⟩ := zrI h
    exact ⟨zR_ret 3 ((if_pos g1).trans rfl), rfl⟩
  · rcases zit h with ⟨g2, h⟩ | ⟨g2, h⟩
    · obtain ⟨rfl, rfl⟩ := zrI h
      exact ⟨zR_ret 5 ((if_neg g1).trans ((if_pos g2).trans rfl)), rfl⟩
    · rcases zit h with ⟨g3, h⟩ | ⟨g3, h⟩
      · obtain ⟨g4, h⟩ := zIx h
        replace h := zWx h
        obtain ⟨v103, M103, f103, h⟩ := zBx h
        have q103 := L_Wp_act (d := d) f103 rfl
        obtain ⟨I103, L103, ⟨ra103, rb103, rc103, rd103⟩, K103, c103⟩ := M103
        obtain rfl : K103 = zK0 sl sx := q103.2
        suffices w103 : zLI (d + 4) tb_X12_turn 36 [some (vR 10 (some a0)), some (vI x1), some (vI x2), some (vI (mI (I101, L101, (ra101, rb101, rc101, rd101), zK0 sl sx, c101) 40 0 x1.toNat))] [vI v103] (I103, L103, (ra103, rb103, rc103, rd103), zK0 sl sx, c103) x M' (zK0 sl sx) from ⟨zR_call (rest := []) 17 q103.1 (fun n => (if_neg g1).trans ((if_neg g2).trans ((if_pos g3).trans ((if_pos g4).trans rfl)))) w103.1, w103.2⟩
        obtain ⟨rfl, rfl⟩ := zrI h
        exact ⟨zR_ret 3 (rfl), rfl⟩
      · obtain ⟨rfl, rfl⟩ := zrI h
        exact ⟨zR_ret 8 ((if_neg g1).trans ((if_neg g2).trans ((if_neg g3).trans rfl))), rfl⟩
set_option maxRecDepth 20000 in
theorem L_Wp_shut {N d sl : Nat} {sx : Nat → Int} {a0 : Nat} {x1 : Int} {M : ZM} {x : Int} {M' : ZM} (h : Wp_shut N a0 x1 M = some (x, M')) (hK : mK M = zK0 sl sx) : zLI (d + 4) tb_X12_shut 0 [some (vR 10 (some a0)), some (vI x1)] [] M x M' (zK0 sl sx) := by
  obtain ⟨I0, L0, ⟨ra0, rb0, rc0, rd0⟩, K0, c0⟩ := M
  obtain rfl : K0 = zK0 sl sx := hK
  obtain ⟨v101, M101, f101, h⟩ := zBx h
  have q101 := L_Wp_act (d := d) f101 rfl
  obtain ⟨I101, L101, ⟨ra101, rb101, rc101, rd101⟩, K101, c101⟩ := M101
  obtain rfl : K101 = zK0 sl sx := q101.2
  suffices w101 : zLI (d + 4) tb_X12_shut 7 [some (vR 10 (some a0)), some (vI x1)] [vI v101] (I101, L101, (ra101, rb101, rc101, rd101), zK0 sl sx, c101) x M' (zK0 sl sx) from ⟨zR_call (rest := []) 5 q101.1 (fun n => rfl) w101.1, w101.2⟩
  obtain ⟨rfl, rfl⟩ := zrI h
  exact ⟨zR_ret 1 (rfl), rfl⟩
set_option maxRecDepth 20000 in
theorem L_Wp_open {N d sl : Nat} {sx : Nat → Int} {a0 : Nat} {x1 : Int} {M : ZM} {x : Int} {M' : ZM} (h : Wp_open N a0 x1 M = some (x, M')) (hK : mK M = zK0 sl sx) : zLI (d + 4) tb_X12_open 0 [some (vR 10 (some a0)), some (vI x1)] [] M x M' (zK0 sl sx) := by
  obtain ⟨I0, L0, ⟨ra0, rb0, rc0, rd0⟩, K0, c0⟩ := M
  obtain rfl : K0 = zK0 sl sx := hK
  obtain ⟨v101, M101, f101, h⟩ := zBx h
  have q101 := L_Wp_act (d := d) f101 rfl
  obtain ⟨I101, L101, ⟨ra101, rb101, rc101, rd101⟩, K101, c101⟩ := M101
  obtain rfl : K101 = zK0 sl sx := q101.2
  suffices w101 : zLI (d + 4) tb_X12_open 7 [some (vR 10 (some a0)), some (vI x1)] [vI v101] (I101, L101, (ra101, rb101, rc101, rd101), zK0 sl sx, c101) x M' (zK0 sl sx) from ⟨zR_call (rest := []) 5 q101.1 (fun n => rfl) w101.1, w101.2⟩
  obtain ⟨rfl, rfl⟩ := zrI h
  exact ⟨zR_ret 1 (rfl), rfl⟩
set_option maxRecDepth 20000 in
theorem L_Wp_mend {N d sl : Nat} {sx : Nat → Int} {a0 : Nat} {x1 : Int} {M : ZM} {x : Int} {M' : ZM} (h : Wp_mend N a0 x1 M = some (x, M')) (hK : mK M = zK0 sl sx) : zLI (d + 4) tb_X12_mend 0 [some (vR 10 (some a0)), some (vI x1)] [] M x M' (zK0 sl sx) := by
  obtain ⟨I0, L0, ⟨ra0, rb0, rc0, rd0⟩, K0, c0⟩ := M
  obtain rfl : K0 = zK0 sl sx := hK
  obtain ⟨v101, M101, f101, h⟩ := zBx h
  have q101 := L_Wp_act (d := d) f101 rfl
  obtain ⟨I101, L101, ⟨ra101, rb101, rc101, rd101⟩, K101, c101⟩ := M101
  obtain rfl : K101 = zK0 sl sx := q101.2
  suffices w101 : zLI (d + 4) tb_X12_mend 7 [some (vR 10 (some a0)), some (vI x1)] [vI v101] (I101, L101, (ra101, rb101, rc101, rd101), zK0 sl sx, c101) x M' (zK0 sl sx) from ⟨zR_call (rest := []) 5 q101.1 (fun n => rfl) w101.1, w101.2⟩
  obtain ⟨rfl, rfl⟩ := zrI h
  exact ⟨zR_ret 1 (rfl), rfl⟩
set_option maxRecDepth 20000 in
theorem L_Wp_step {N d sl : Nat} {sx : Nat → Int} {a0 : Nat} {M : ZM} {x : Int} {M' : ZM} (h : Wp_step N a0 M = some (x, M')) (hK : mK M = zK0 sl sx) : zLI (d + 6) tb_X12_step 0 [some (vR 10 (some a0))] [] M x M' (zK0 sl sx) := by
  obtain ⟨I0, L0, ⟨ra0, rb0, rc0, rd0⟩, K0, c0⟩ := M
  obtain rfl : K0 = zK0 sl sx := hK
  obtain ⟨M101, f101, h⟩ := zBvx h
  have q101 := L_Wp_remember (d := (d + 4)) f101 rfl
  obtain ⟨I101, L101, ⟨ra101, rb101, rc101, rd101⟩, K101, c101⟩ := M101
  obtain rfl : K101 = zK0 sl sx := q101.2
  suffices w101 : zLI (d + 6) tb_X12_step 4 [some (vR 10 (some a0))] [] (I101, L101, (ra101, rb101, rc101, rd101), zK0 sl sx, c101) x M' (zK0 sl sx) from ⟨zR_call (rest := []) 2 q101.1 (fun n => rfl) w101.1, w101.2⟩
  obtain ⟨p102, g1, h⟩ := zOx h
  obtain rfl : ra101 = some p102 := g1
  obtain ⟨v103, M103, f103, h⟩ := zBx h
  have q103 := L_Fl_runStep (d := d) f103 rfl
  obtain ⟨I103, L103, ⟨ra103, rb103, rc103, rd103⟩, K103, c103⟩ := M103
  obtain rfl : K103 = zK0 sl sx := q103.2
  suffices w103 : zLI (d + 6) tb_X12_step 19 [some (vR 10 (some a0))] [vI v103] (I103, L103, (ra103, rb103, rc103, rd103), zK0 sl sx, c103) x M' (zK0 sl sx) from ⟨zR_call (rest := []) 7 q103.1 (fun n => rfl) w103.1, w103.2⟩
  obtain ⟨rfl, rfl⟩ := zrI h
  exact ⟨zR_ret 1 (rfl), rfl⟩
set_option maxRecDepth 20000 in
theorem L_Ma_floorMod {N d sl : Nat} {sx : Nat → Int} {x0 : Int} {x1 : Int} {M : ZM} {x : Int} {M' : ZM} (h : Ma_floorMod N x0 x1 M = some (x, M')) (hK : mK M = zK0 sl sx) : zLI (d + 0) tb_J9_floorMod_7cf53 0 [some (vI x0), some (vI x1), none] [] M x M' (zK0 sl sx) := by
  obtain ⟨I0, L0, ⟨ra0, rb0, rc0, rd0⟩, K0, c0⟩ := M
  obtain rfl : K0 = zK0 sl sx := hK
  obtain ⟨g1, h⟩ := zgn h
  replace h := zWx h
  rcases zit h with ⟨g2, h⟩ | ⟨g2, h⟩
  · rcases zit h with ⟨g3, h⟩ | ⟨g3, h⟩
    · obtain ⟨rfl, rfl⟩ := zrI h
      exact ⟨zR_ret 12 ((if_neg g1).trans ((if_pos g2).trans ((if_pos g3).trans rfl))), rfl⟩
    · obtain ⟨rfl, rfl⟩ := zrI h
      exact ⟨zR_ret 14 ((if_neg g1).trans ((if_pos g2).trans ((if_neg g3).trans rfl))), rfl⟩
  · obtain ⟨rfl, rfl⟩ := zrI h
    exact ⟨zR_ret 10 ((if_neg g1).trans ((if_neg g2).trans rfl)), rfl⟩
set_option maxRecDepth 20000 in
theorem L_Wp_undo {N d sl : Nat} {sx : Nat → Int} {a0 : Nat} {M : ZM} {x : Int} {M' : ZM} (h : Wp_undo N a0 M = some (x, M')) (hK : mK M = zK0 sl sx) : zLI (d + 1) tb_X12_undo 0 [some (vR 10 (some a0))] [] M x M' (zK0 sl sx) := by
  obtain ⟨I0, L0, ⟨ra0, rb0, rc0, rd0⟩, K0, c0⟩ := M
  obtain rfl : K0 = zK0 sl sx := hK
  rcases zit h with ⟨g1, h⟩ | ⟨g1, h⟩
  · replace h := zWx h
    obtain ⟨v102, M102, f102, h⟩ := zBx h
    have q102 := L_Ma_floorMod (d := d) f102 rfl
    obtain ⟨I102, L102, ⟨ra102, rb102, rc102, rd102⟩, K102, c102⟩ := M102
    obtain rfl : K102 = zK0 sl sx := q102.2
    suffices w102 : zLI (d + 1) tb_X12_undo 31 [some (vR 10 (some a0))] [vI v102, vR 10 (some a0)] (I102, L102, (ra102, rb102, rc102, rd102), zK0 sl sx, c102) x M' (zK0 sl sx) from ⟨zR_call (rest := [vR 10 (some a0)]) 16 q102.1 (fun n => (if_pos g1).trans rfl) w102.1, w102.2⟩
    replace h := zWx h
    obtain ⟨g2, h⟩ := zIx h
    obtain ⟨M104, f104, h⟩ := zBvx h
    have q104 := L_St_copy (d := d) f104 rfl
    obtain ⟨I104, L104, ⟨ra104, rb104, rc104, rd104⟩, K104, c104⟩ := M104
    obtain rfl : K104 = zK0 sl sx := q104.2
    suffices w104 : zLI (d + 1) tb_X12_undo 50 [some (vR 10 (some a0))] [] (I104, L104, (ra104, rb104, rc104, rd104), zK0 sl sx, c104) x M' (zK0 sl sx) from ⟨zR_call (rest := []) 9 q104.1 (fun n => (if_pos g2).trans rfl) w104.1, w104.2⟩
    obtain ⟨M105, f105, h⟩ := zBvx h
    have q105 := L_Wp_forgetSearches (d := d) f105 rfl
    obtain ⟨I105, L105, ⟨ra105, rb105, rc105, rd105⟩, K105, c105⟩ := M105
    obtain rfl : K105 = zK0 sl sx := q105.2
    suffices w105 : zLI (d + 1) tb_X12_undo 54 [some (vR 10 (some a0))] [] (I105, L105, (ra105, rb105, rc105, rd105), zK0 sl sx, c105) x M' (zK0 sl sx) from ⟨zR_call (rest := []) 2 q105.1 (fun n => rfl) w105.1, w105.2⟩
    obtain ⟨rfl, rfl⟩ := zrI h
    exact ⟨zR_ret 2 (rfl), rfl⟩
  · obtain ⟨rfl, rfl⟩ := zrI h
    exact ⟨zR_ret 5 ((if_neg g1).trans rfl), rfl⟩
set_option maxRecDepth 20000 in
theorem L_Wp_judged_30 {N d sl : Nat} {sx : Nat → Int} : ∀ {n : Nat} {a0 : Nat} {x1 : Int} {x2 : Int} {x3 : Int} {x4 : Int} {M : ZM} {x : Int} {M' : ZM}, Wp_judged_30 N n a0 x1 x2 x3 x4 M = some (x, M') → mK M = zK0 sl sx → zLI (d + 6) tb_X12_judged 30 [some (vR 10 (some a0)), some (vI x1), some (vI x2), some (vI x3), some (vI x4), none, none, none] [] M x M' (zK0 sl sx) := by
  intro n
  induction n with
  | zero => intros; rename_i h _; cases h
  | succ n ih =>
    intro a0 x1 x2 x3 x4 M x M' h hK
    obtain ⟨I0, L0, ⟨ra0, rb0, rc0, rd0⟩, K0, c0⟩ := M
    obtain rfl : K0 = zK0 sl sx := hK
    rcases zit h with ⟨g1, h⟩ | ⟨g1, h⟩
    · obtain ⟨v101, M101, f101, h⟩ := zBx h
      have q101 := L_Nu_get (d := (d + 5)) f101 rfl
      obtain ⟨I101, L101, ⟨ra101, rb101, rc101, rd101⟩, K101, c101⟩ := M101
      obtain rfl : K101 = zK0 sl sx := q101.2
      suffices w101 : zLI (d + 6) tb_X12_judged 51 [some (vR 10 (some a0)), some (vI x1), some (vI x2), some (vI x3), some (vI x4), none, none, none] [vI v101] (I101, L101, (ra101, rb101, rc101, rd101), zK0 sl sx, c101) x M' (zK0 sl sx) from ⟨zR_call (rest := []) 9 q101.1 (fun n => (if_pos g1).trans rfl) w101.1, w101.2⟩
      replace h := zWx h
      replace h := zWx h
      rcases zit h with ⟨g2, h⟩ | ⟨g2, h⟩
      · obtain ⟨p104, g3, h⟩ := zOx h
        obtain rfl : ra101 = some p104 := g3
        obtain ⟨v105, M105, f105, h⟩ := zBx h
        have q105 := L_Fl_runStep (d := d) f105 rfl
        obtain ⟨I105, L105, ⟨ra105, rb105, rc105, rd105⟩, K105, c105⟩ := M105
        obtain rfl : K105 = zK0 sl sx := q105.2
        suffices w105 : zLI (d + 6) tb_X12_judged 90 [some (vR 10 (some a0)), some (vI x1), some (vI x2), some (vI x3), some (vI x4), some (vI v101), some (vI (z32 (v101.tdiv 100))), some (vI (mI (I101, L101, ((some p104), rb101, rc101, rd101), zK0 sl sx, c101) 7 1 3))] [vI v105] (I105, L105, (ra105, rb105, rc105, rd105), zK0 sl sx, c105) x M' (zK0 sl sx) from ⟨zR_call (rest := []) 19 q105.1 (fun n => (if_pos g2).trans rfl) w105.1, w105.2⟩
        rcases zit h with ⟨g4, h⟩ | ⟨g4, h⟩
        · rcases zit h with ⟨g5, h⟩ | ⟨g5, h⟩
          · replace h := zWx h
            have q := ih h rfl
            exact ⟨zR_go 14 (zR_up (ls' := [some (vR 10 (some a0)), some (vI x1), some (vI x2), some (vI x3), some (vI (z32 (x4 + 1))), some (vI v101), some (vI (z32 (v101.tdiv 100))), some (vI (mI (I101, L101, ((some p104), rb101, rc101, rd101), zK0 sl sx, c101) 7 1 3))]) q.1 ⟨.inr rfl, .inr rfl, .inr rfl, .inr rfl, .inr rfl, .inl rfl, .inl rfl, .inl rfl, trivial⟩) (fun n => (if_pos g4).trans ((if_pos g5).trans rfl)), q.2⟩
          · replace h := zWx h
            have q := ih h rfl
            exact ⟨zR_go 15 (zR_up (ls' := [some (vR 10 (some a0)), some (vI x1), some (vI x2), some (vI x4), some (vI (z32 (x4 + 1))), some (vI v101), some (vI (z32 (v101.tdiv 100))), some (vI (mI (I101, L101, ((some p104), rb101, rc101, rd101), zK0 sl sx, c101) 7 1 3))]) q.1 ⟨.inr rfl, .inr rfl, .inr rfl, .inr rfl, .inr rfl, .inl rfl, .inl rfl, .inl rfl, trivial⟩) (fun n => (if_pos g4).trans ((if_neg g5).trans rfl)), q.2⟩
        · replace h := zWx h
          have q := ih h rfl
          exact ⟨zR_go 9 (zR_up (ls' := [some (vR 10 (some a0)), some (vI x1), some (vI x2), some (vI x3), some (vI (z32 (x4 + 1))), some (vI v101), some (vI (z32 (v101.tdiv 100))), some (vI (mI (I101, L101, ((some p104), rb101, rc101, rd101), zK0 sl sx, c101) 7 1 3))]) q.1 ⟨.inr rfl, .inr rfl, .inr rfl, .inr rfl, .inr rfl, .inl rfl, .inl rfl, .inl rfl, trivial⟩) (fun n => (if_neg g4).trans rfl), q.2⟩
      · obtain ⟨p109, g6, h⟩ := zOx h
        obtain rfl : ra101 = some p109 := g6
        obtain ⟨v110, M110, f110, h⟩ := zBx h
        have q110 := L_St_act (d := (d + 3)) f110 rfl
        obtain ⟨I110, L110, ⟨ra110, rb110, rc110, rd110⟩, K110, c110⟩ := M110
        obtain rfl : K110 = zK0 sl sx := q110.2
        suffices w110 : zLI (d + 6) tb_X12_judged 144 [some (vR 10 (some a0)), some (vI x1), some (vI x2), some (vI x3), some (vI x4), some (vI v101), some (vI (z32 (v101.tdiv 100))), some (vI (mI (I101, L101, ((some p109), rb101, rc101, rd101), zK0 sl sx, c101) 7 1 3))] [vI v110] (I110, L110, (ra110, rb110, rc110, rd110), zK0 sl sx, c110) x M' (zK0 sl sx) from ⟨zR_call (rest := []) 26 q110.1 (fun n => (if_neg g2).trans rfl) w110.1, w110.2⟩
        rcases zit h with ⟨g7, h⟩ | ⟨g7, h⟩
        · rcases zit h with ⟨g8, h⟩ | ⟨g8, h⟩
          · replace h := zWx h
            have q := ih h rfl
            exact ⟨zR_go 8 (zR_up (ls' := [some (vR 10 (some a0)), some (vI x1), some (vI x4), some (vI x3), some (vI (z32 (x4 + 1))), some (vI v101), some (vI (z32 (v101.tdiv 100))), some (vI (mI (I101, L101, ((some p109), rb101, rc101, rd101), zK0 sl sx, c101) 7 1 3))]) q.1 ⟨.inr rfl, .inr rfl, .inr rfl, .inr rfl, .inr rfl, .inl rfl, .inl rfl, .inl rfl, trivial⟩) (fun n => (if_pos g7).trans ((if_pos g8).trans rfl)), q.2⟩
          · replace h := zWx h
            have q := ih h rfl
            exact ⟨zR_go 6 (zR_up (ls' := [some (vR 10 (some a0)), some (vI x1), some (vI x2), some (vI x3), some (vI (z32 (x4 + 1))), some (vI v101), some (vI (z32 (v101.tdiv 100))), some (vI (mI (I101, L101, ((some p109), rb101, rc101, rd101), zK0 sl sx, c101) 7 1 3))]) q.1 ⟨.inr rfl, .inr rfl, .inr rfl, .inr rfl, .inr rfl, .inl rfl, .inl rfl, .inl rfl, trivial⟩) (fun n => (if_pos g7).trans ((if_neg g8).trans rfl)), q.2⟩
        · replace h := zWx h
          have q := ih h rfl
          exact ⟨zR_go 3 (zR_up (ls' := [some (vR 10 (some a0)), some (vI x1), some (vI x2), some (vI x3), some (vI (z32 (x4 + 1))), some (vI v101), some (vI (z32 (v101.tdiv 100))), some (vI (mI (I101, L101, ((some p109), rb101, rc101, rd101), zK0 sl sx, c101) 7 1 3))]) q.1 ⟨.inr rfl, .inr rfl, .inr rfl, .inr rfl, .inr rfl, .inl rfl, .inl rfl, .inl rfl, trivial⟩) (fun n => (if_neg g7).trans rfl), q.2⟩
    · rcases zit h with ⟨g9, h⟩ | ⟨g9, h⟩
      · obtain ⟨rfl, rfl⟩ := zrI h
        exact ⟨zR_ret 10 ((if_neg g1).trans ((if_pos g9).trans rfl)), rfl⟩
      · rcases zit h with ⟨g10, h⟩ | ⟨g10, h⟩
        · obtain ⟨rfl, rfl⟩ := zrI h
          exact ⟨zR_ret 13 ((if_neg g1).trans ((if_neg g9).trans ((if_pos g10).trans rfl))), rfl⟩
        · obtain ⟨rfl, rfl⟩ := zrI h
          exact ⟨zR_ret 14 ((if_neg g1).trans ((if_neg g9).trans ((if_neg g10).trans rfl))), rfl⟩
set_option maxRecDepth 20000 in
theorem L_Wp_judged {N d sl : Nat} {sx : Nat → Int} {a0 : Nat} {x1 : Int} {M : ZM} {x : Int} {M' : ZM} (h : Wp_judged N a0 x1 M = some (x, M')) (hK : mK M = zK0 sl sx) : zLI (d + 6) tb_X12_judged 0 [some (vR 10 (some a0)), some (vI x1), none, none, none, none, none, none] [] M x M' (zK0 sl sx) := by
  obtain ⟨I0, L0, ⟨ra0, rb0, rc0, rd0⟩, K0, c0⟩ := M
  obtain rfl : K0 = zK0 sl sx := hK
  rcases zit h with ⟨g1, h⟩ | ⟨g1, h⟩
  · obtain ⟨rfl, rfl⟩ := zrI h
    exact ⟨zR_ret 4 ((if_pos g1).trans rfl), rfl⟩
  · rcases zit h with ⟨g2, h⟩ | ⟨g2, h⟩
    · obtain ⟨rfl, rfl⟩ := zrI h
      exact ⟨zR_ret 7 ((if_neg g1).trans ((if_pos g2).trans rfl)), rfl⟩
    · obtain ⟨p101, g3, h⟩ := zOx h
      obtain rfl : ra0 = some p101 := g3
      obtain ⟨M102, f102, h⟩ := zBvx h
      have q102 := L_St_begin (d := (d + 4)) f102 rfl
      obtain ⟨I102, L102, ⟨ra102, rb102, rc102, rd102⟩, K102, c102⟩ := M102
      obtain rfl : K102 = zK0 sl sx := q102.2
      suffices w102 : zLI (d + 6) tb_X12_judged 27 [some (vR 10 (some a0)), some (vI x1), some (vI (-1)), some (vI (-1)), none, none, none, none] [] (I102, L102, (ra102, rb102, rc102, rd102), zK0 sl sx, c102) x M' (zK0 sl sx) from ⟨zR_call (rest := []) 14 q102.1 (fun n => (if_neg g1).trans ((if_neg g2).trans rfl)) w102.1, w102.2⟩
      have q := L_Wp_judged_30 (d := d) h rfl
      exact ⟨zR_go 2 q.1 (fun n => rfl), q.2⟩
set_option maxRecDepth 20000 in
theorem L_Wp_takenNow {N d sl : Nat} {sx : Nat → Int} {a0 : Nat} {x1 : Int} {x2 : Int} {M : ZM} {x : Int} {M' : ZM} (h : Wp_takenNow N a0 x1 x2 M = some (x, M')) (hK : mK M = zK0 sl sx) : zLI (d + 3) tb_X12_takenNow 0 [some (vR 10 (some a0)), some (vI x1), some (vI x2)] [] M x M' (zK0 sl sx) := by
  obtain ⟨I0, L0, ⟨ra0, rb0, rc0, rd0⟩, K0, c0⟩ := M
  obtain rfl : K0 = zK0 sl sx := hK
  obtain ⟨v101, M101, f101, h⟩ := zBx h
  have q101 := L_St_runs (d := (d + 1)) f101 rfl
  obtain ⟨I101, L101, ⟨ra101, rb101, rc101, rd101⟩, K101, c101⟩ := M101
  obtain rfl : K101 = zK0 sl sx := q101.2
  suffices w101 : zLI (d + 3) tb_X12_takenNow 8 [some (vR 10 (some a0)), some (vI x1), some (vI x2)] [vI v101] (I101, L101, (ra101, rb101, rc101, rd101), zK0 sl sx, c101) x M' (zK0 sl sx) from ⟨zR_call (rest := []) 4 q101.1 (fun n => rfl) w101.1, w101.2⟩
  rcases zit h with ⟨g1, h⟩ | ⟨g1, h⟩
  · obtain ⟨rfl, rfl⟩ := zrI h
    exact ⟨zR_ret 3 ((if_pos g1).trans rfl), rfl⟩
  · obtain ⟨g2, h⟩ := zIx h
    obtain ⟨p102, g3, h⟩ := zOx h
    obtain rfl : ra101 = some p102 := g3
    obtain ⟨v103, M103, f103, h⟩ := zBx h
    have q103 := L_Nu_round (d := (d + 2)) f103 rfl
    obtain ⟨I103, L103, ⟨ra103, rb103, rc103, rd103⟩, K103, c103⟩ := M103
    obtain rfl : K103 = zK0 sl sx := q103.2
    suffices w103 : zLI (d + 3) tb_X12_takenNow 45 [some (vR 10 (some a0)), some (vI x1), some (vI x2)] [vI v103, vI x2, vI (mI (I101, L101, ((some p102), rb101, rc101, rd101), zK0 sl sx, c101) 40 0 x1.toNat), vI x1, vR 4 (some p102)] (I103, L103, (ra103, rb103, rc103, rd103), zK0 sl sx, c103) x M' (zK0 sl sx) from ⟨zR_call (rest := [vI x2, vI (mI (I101, L101, ((some p102), rb101, rc101, rd101), zK0 sl sx, c101) 40 0 x1.toNat), vI x1, vR 4 (some p102)]) 17 q103.1 (fun n => (if_neg g1).trans ((if_pos g2).trans rfl)) w103.1, w103.2⟩
    obtain ⟨v104, M104, f104, h⟩ := zBx h
    have q104 := L_Pa_tenths (d := d) f104 rfl
    obtain ⟨I104, L104, ⟨ra104, rb104, rc104, rd104⟩, K104, c104⟩ := M104
    obtain rfl : K104 = zK0 sl sx := q104.2
    suffices w104 : zLI (d + 3) tb_X12_takenNow 48 [some (vR 10 (some a0)), some (vI x1), some (vI x2)] [vI v104] (I104, L104, (ra104, rb104, rc104, rd104), zK0 sl sx, c104) x M' (zK0 sl sx) from ⟨zR_call (rest := []) 1 q104.1 (fun n => rfl) w104.1, w104.2⟩
    obtain ⟨rfl, rfl⟩ := zrI h
    exact ⟨zR_ret 1 (rfl), rfl⟩
set_option maxRecDepth 20000 in
theorem L_Wp_takes {N d sl : Nat} {sx : Nat → Int} {a0 : Nat} {x1 : Int} {x2 : Int} {M : ZM} {x : Int} {M' : ZM} (h : Wp_takes N a0 x1 x2 M = some (x, M')) (hK : mK M = zK0 sl sx) : zLI (d + 4) tb_X12_takes 0 [some (vR 10 (some a0)), some (vI x1), some (vI x2)] [] M x M' (zK0 sl sx) := by
  obtain ⟨I0, L0, ⟨ra0, rb0, rc0, rd0⟩, K0, c0⟩ := M
  obtain rfl : K0 = zK0 sl sx := hK
  obtain ⟨v101, M101, f101, h⟩ := zBx h
  have q101 := L_Wp_stands (d := (d + 3)) f101 rfl
  obtain ⟨I101, L101, ⟨ra101, rb101, rc101, rd101⟩, K101, c101⟩ := M101
  obtain rfl : K101 = zK0 sl sx := q101.2
  suffices w101 : zLI (d + 4) tb_X12_takes 5 [some (vR 10 (some a0)), some (vI x1), some (vI x2)] [vI v101] (I101, L101, (ra101, rb101, rc101, rd101), zK0 sl sx, c101) x M' (zK0 sl sx) from ⟨zR_call (rest := []) 3 q101.1 (fun n => rfl) w101.1, w101.2⟩
  rcases zit h with ⟨g1, h⟩ | ⟨g1, h⟩
  · obtain ⟨rfl, rfl⟩ := zrI h
    exact ⟨zR_ret 3 ((if_pos g1).trans rfl), rfl⟩
  · obtain ⟨v102, M102, f102, h⟩ := zBx h
    have q102 := L_Wp_stands (d := (d + 3)) f102 rfl
    obtain ⟨I102, L102, ⟨ra102, rb102, rc102, rd102⟩, K102, c102⟩ := M102
    obtain rfl : K102 = zK0 sl sx := q102.2
    suffices w102 : zLI (d + 4) tb_X12_takes 13 [some (vR 10 (some a0)), some (vI x1), some (vI x2)] [vI v102] (I102, L102, (ra102, rb102, rc102, rd102), zK0 sl sx, c102) x M' (zK0 sl sx) from ⟨zR_call (rest := []) 4 q102.1 (fun n => (if_neg g1).trans rfl) w102.1, w102.2⟩
    rcases zit h with ⟨g2, h⟩ | ⟨g2, h⟩
    · obtain ⟨rfl, rfl⟩ := zrI h
      exact ⟨zR_ret 3 ((if_pos g2).trans rfl), rfl⟩
    · rcases zit h with ⟨g3, h⟩ | ⟨g3, h⟩
      · obtain ⟨rfl, rfl⟩ := zrI h
        exact ⟨zR_ret 6 ((if_neg g2).trans ((if_pos g3).trans rfl)), rfl⟩
      · obtain ⟨v103, M103, f103, h⟩ := zBx h
        have q103 := L_Wp_takenNow (d := d) f103 rfl
        obtain ⟨I103, L103, ⟨ra103, rb103, rc103, rd103⟩, K103, c103⟩ := M103
        obtain rfl : K103 = zK0 sl sx := q103.2
        suffices w103 : zLI (d + 4) tb_X12_takes 29 [some (vR 10 (some a0)), some (vI x1), some (vI x2)] [vI v103] (I103, L103, (ra103, rb103, rc103, rd103), zK0 sl sx, c103) x M' (zK0 sl sx) from ⟨zR_call (rest := []) 8 q103.1 (fun n => (if_neg g2).trans ((if_neg g3).trans rfl)) w103.1, w103.2⟩
        obtain ⟨rfl, rfl⟩ := zrI h
        exact ⟨zR_ret 1 (rfl), rfl⟩
set_option maxRecDepth 20000 in
theorem L_Wp_later_25 {N d sl : Nat} {sx : Nat → Int} : ∀ {n : Nat} {a0 : Nat} {x1 : Int} {x2 : Int} {M : ZM} {x : Int} {M' : ZM}, Wp_later_25 N n a0 x1 x2 M = some (x, M') → mK M = zK0 sl sx → zLI (d + 6) tb_X12_later 25 [some (vR 10 (some a0)), some (vI x1), some (vI x2)] [] M x M' (zK0 sl sx) := by
  intro n
  induction n with
  | zero => intros; rename_i h _; cases h
  | succ n ih =>
    intro a0 x1 x2 M x M' h hK
    obtain ⟨I0, L0, ⟨ra0, rb0, rc0, rd0⟩, K0, c0⟩ := M
    obtain rfl : K0 = zK0 sl sx := hK
    rcases zit h with ⟨g1, h⟩ | ⟨g1, h⟩
    · obtain ⟨p101, g2, h⟩ := zOx h
      obtain rfl : ra0 = some p101 := g2
      obtain ⟨v102, M102, f102, h⟩ := zBx h
      have q102 := L_Fl_runStep (d := d) f102 rfl
      obtain ⟨I102, L102, ⟨ra102, rb102, rc102, rd102⟩, K102, c102⟩ := M102
      obtain rfl : K102 = zK0 sl sx := q102.2
      suffices w102 : zLI (d + 6) tb_X12_later 45 [some (vR 10 (some a0)), some (vI x1), some (vI x2)] [vI v102] (I102, L102, (ra102, rb102, rc102, rd102), zK0 sl sx, c102) x M' (zK0 sl sx) from ⟨zR_call (rest := []) 10 q102.1 (fun n => (if_pos g1).trans rfl) w102.1, w102.2⟩
      replace h := zWx h
      have q := ih h rfl
      exact ⟨zR_go 3 q.1 (fun n => rfl), q.2⟩
    · obtain ⟨p104, g3, h⟩ := zOx h
      obtain rfl : ra0 = some p104 := g3
      obtain ⟨M105, f105, h⟩ := zBvx h
      have q105 := L_Fl_measure (d := (d + 1)) f105 rfl
      obtain ⟨I105, L105, ⟨ra105, rb105, rc105, rd105⟩, K105, c105⟩ := M105
      obtain rfl : K105 = zK0 sl sx := q105.2
      suffices w105 : zLI (d + 6) tb_X12_later 67 [some (vR 10 (some a0)), some (vI x1), some (vI x2)] [] (I105, L105, (ra105, rb105, rc105, rd105), zK0 sl sx, c105) x M' (zK0 sl sx) from ⟨zR_call (rest := []) 10 q105.1 (fun n => (if_neg g1).trans rfl) w105.1, w105.2⟩
      obtain ⟨rfl, rfl⟩ := zrI h
      exact ⟨zR_ret 4 (rfl), rfl⟩
set_option maxRecDepth 20000 in
theorem L_Wp_later {N d sl : Nat} {sx : Nat → Int} {a0 : Nat} {x1 : Int} {M : ZM} {x : Int} {M' : ZM} (h : Wp_later N a0 x1 M = some (x, M')) (hK : mK M = zK0 sl sx) : zLI (d + 6) tb_X12_later 0 [some (vR 10 (some a0)), some (vI x1), none] [] M x M' (zK0 sl sx) := by
  obtain ⟨I0, L0, ⟨ra0, rb0, rc0, rd0⟩, K0, c0⟩ := M
  obtain rfl : K0 = zK0 sl sx := hK
  rcases zit h with ⟨g1, h⟩ | ⟨g1, h⟩
  · obtain ⟨rfl, rfl⟩ := zrI h
    exact ⟨zR_ret 4 ((if_pos g1).trans rfl), rfl⟩
  · rcases zit h with ⟨g2, h⟩ | ⟨g2, h⟩
    · obtain ⟨rfl, rfl⟩ := zrI h
      exact ⟨zR_ret 7 ((if_neg g1).trans ((if_pos g2).trans rfl)), rfl⟩
    · obtain ⟨M101, f101, h⟩ := zBvx h
      have q101 := L_St_copy (d := (d + 5)) f101 rfl
      obtain ⟨I101, L101, ⟨ra101, rb101, rc101, rd101⟩, K101, c101⟩ := M101
      obtain rfl : K101 = zK0 sl sx := q101.2
      suffices w101 : zLI (d + 6) tb_X12_later 23 [some (vR 10 (some a0)), some (vI x1), none] [] (I101, L101, (ra101, rb101, rc101, rd101), zK0 sl sx, c101) x M' (zK0 sl sx) from ⟨zR_call (rest := []) 10 q101.1 (fun n => (if_neg g1).trans ((if_neg g2).trans rfl)) w101.1, w101.2⟩
      have q := L_Wp_later_25 (d := d) h rfl
      exact ⟨zR_go 2 q.1 (fun n => rfl), q.2⟩
set_option maxRecDepth 20000 in
theorem L_Wp_total_29 {N d sl : Nat} {sx : Nat → Int} : ∀ {n : Nat} {a0 : Nat} {x1 : Int} {x2 : Int} {x3 : Int} {M : ZM} {x : Int} {M' : ZM}, Wp_total_29 N n a0 x1 x2 x3 M = some (x, M') → mK M = zK0 sl sx → zLI (d + 6) tb_X12_total 29 [some (vR 10 (some a0)), some (vI x1), some (vI x2), some (vI x3)] [] M x M' (zK0 sl sx) := by
  intro n
  induction n with
  | zero => intros; rename_i h _; cases h
  | succ n ih =>
    intro a0 x1 x2 x3 M x M' h hK
    obtain ⟨I0, L0, ⟨ra0, rb0, rc0, rd0⟩, K0, c0⟩ := M
    obtain rfl : K0 = zK0 sl sx := hK
    rcases zit h with ⟨g1, h⟩ | ⟨g1, h⟩
    · obtain ⟨p101, g2, h⟩ := zOx h
      obtain rfl : ra0 = some p101 := g2
      obtain ⟨v102, M102, f102, h⟩ := zBx h
      have q102 := L_Fl_runStep (d := d) f102 rfl
      obtain ⟨I102, L102, ⟨ra102, rb102, rc102, rd102⟩, K102, c102⟩ := M102
      obtain rfl : K102 = zK0 sl sx := q102.2
      suffices w102 : zLI (d + 6) tb_X12_total 50 [some (vR 10 (some a0)), some (vI x1), some (vI x2), some (vI x3)] [vI v102, vI x2] (I102, L102, (ra102, rb102, rc102, rd102), zK0 sl sx, c102) x M' (zK0 sl sx) from ⟨zR_call (rest := [vI x2]) 11 q102.1 (fun n => (if_pos g1).trans rfl) w102.1, w102.2⟩
      replace h := zWx h
      replace h := zWx h
      have q := ih h rfl
      exact ⟨zR_go 4 q.1 (fun n => rfl), q.2⟩
    · obtain ⟨rfl, rfl⟩ := zrI h
      exact ⟨zR_ret 5 ((if_neg g1).trans rfl), rfl⟩
set_option maxRecDepth 20000 in
theorem L_Wp_total {N d sl : Nat} {sx : Nat → Int} {a0 : Nat} {x1 : Int} {M : ZM} {x : Int} {M' : ZM} (h : Wp_total N a0 x1 M = some (x, M')) (hK : mK M = zK0 sl sx) : zLI (d + 6) tb_X12_total 0 [some (vR 10 (some a0)), some (vI x1), none, none] [] M x M' (zK0 sl sx) := by
  obtain ⟨I0, L0, ⟨ra0, rb0, rc0, rd0⟩, K0, c0⟩ := M
  obtain rfl : K0 = zK0 sl sx := hK
  rcases zit h with ⟨g1, h⟩ | ⟨g1, h⟩
  · obtain ⟨rfl, rfl⟩ := zrI h
    exact ⟨zR_ret 5 ((if_pos g1).trans rfl), rfl⟩
  · rcases zit h with ⟨g2, h⟩ | ⟨g2, h⟩
    · obtain ⟨rfl, rfl⟩ := zrI h
      exact ⟨zR_ret 8 ((if_neg g1).trans ((if_pos g2).trans rfl)), rfl⟩
    · obtain ⟨M101, f101, h⟩ := zBvx h
      have q101 := L_St_copy (d := (d + 5)) f101 rfl
      obtain ⟨I101, L101, ⟨ra101, rb101, rc101, rd101⟩, K101, c101⟩ := M101
      obtain rfl : K101 = zK0 sl sx := q101.2
      suffices w101 : zLI (d + 6) tb_X12_total 25 [some (vR 10 (some a0)), some (vI x1), none, none] [] (I101, L101, (ra101, rb101, rc101, rd101), zK0 sl sx, c101) x M' (zK0 sl sx) from ⟨zR_call (rest := []) 11 q101.1 (fun n => (if_neg g1).trans ((if_neg g2).trans rfl)) w101.1, w101.2⟩
      have q := L_Wp_total_29 (d := d) h rfl
      exact ⟨zR_go 4 q.1 (fun n => rfl), q.2⟩
set_option maxRecDepth 20000 in
theorem L_Wp_breaks_34 {N d sl : Nat} {sx : Nat → Int} : ∀ {n : Nat} {a0 : Nat} {x1 : Int} {x2 : Int} {M : ZM} {x : Int} {M' : ZM}, Wp_breaks_34 N n a0 x1 x2 M = some (x, M') → mK M = zK0 sl sx → zLI (d + 6) tb_X12_breaks 34 [some (vR 10 (some a0)), some (vI x1), some (vI x2)] [] M x M' (zK0 sl sx) := by
  intro n
  induction n with
  | zero => intros; rename_i h _; cases h
  | succ n ih =>
    intro a0 x1 x2 M x M' h hK
    obtain ⟨I0, L0, ⟨ra0, rb0, rc0, rd0⟩, K0, c0⟩ := M
    obtain rfl : K0 = zK0 sl sx := hK
    rcases zit h with ⟨g1, h⟩ | ⟨g1, h⟩
    · obtain ⟨rfl, rfl⟩ := zrI h
      exact ⟨zR_ret 5 ((if_pos g1).trans rfl), rfl⟩
    · obtain ⟨p101, g2, h⟩ := zOx h
      obtain rfl : ra0 = some p101 := g2
      obtain ⟨v102, M102, f102, h⟩ := zBx h
      have q102 := L_Fl_runStep (d := d) f102 rfl
      obtain ⟨I102, L102, ⟨ra102, rb102, rc102, rd102⟩, K102, c102⟩ := M102
      obtain rfl : K102 = zK0 sl sx := q102.2
      suffices w102 : zLI (d + 6) tb_X12_breaks 55 [some (vR 10 (some a0)), some (vI x1), some (vI x2)] [vI v102] (I102, L102, (ra102, rb102, rc102, rd102), zK0 sl sx, c102) x M' (zK0 sl sx) from ⟨zR_call (rest := []) 10 q102.1 (fun n => (if_neg g1).trans rfl) w102.1, w102.2⟩
      obtain ⟨v103, M103, f103, h⟩ := zBx h
      have q103 := L_St_isBroken (d := (d + 5)) f103 rfl
      obtain ⟨I103, L103, ⟨ra103, rb103, rc103, rd103⟩, K103, c103⟩ := M103
      obtain rfl : K103 = zK0 sl sx := q103.2
      suffices w103 : zLI (d + 6) tb_X12_breaks 64 [some (vR 10 (some a0)), some (vI x1), some (vI x2)] [vI v103] (I103, L103, (ra103, rb103, rc103, rd103), zK0 sl sx, c103) x M' (zK0 sl sx) from ⟨zR_call (rest := []) 5 q103.1 (fun n => rfl) w103.1, w103.2⟩
      rcases zit h with ⟨g3, h⟩ | ⟨g3, h⟩
      · replace h := zWx h
        have q := ih h rfl
        exact ⟨zR_go 3 q.1 (fun n => (if_pos g3).trans rfl), q.2⟩
      · obtain ⟨rfl, rfl⟩ := zrI h
        exact ⟨zR_ret 3 ((if_neg g3).trans rfl), rfl⟩
set_option maxRecDepth 20000 in
theorem L_Wp_breaks {N d sl : Nat} {sx : Nat → Int} {a0 : Nat} {x1 : Int} {M : ZM} {x : Int} {M' : ZM} (h : Wp_breaks N a0 x1 M = some (x, M')) (hK : mK M = zK0 sl sx) : zLI (d + 6) tb_X12_breaks 0 [some (vR 10 (some a0)), some (vI x1), none] [] M x M' (zK0 sl sx) := by
  obtain ⟨I0, L0, ⟨ra0, rb0, rc0, rd0⟩, K0, c0⟩ := M
  obtain rfl : K0 = zK0 sl sx := hK
  obtain ⟨v101, M101, f101, h⟩ := zBx h
  have q101 := L_Wp_stands (d := (d + 5)) f101 rfl
  obtain ⟨I101, L101, ⟨ra101, rb101, rc101, rd101⟩, K101, c101⟩ := M101
  obtain rfl : K101 = zK0 sl sx := q101.2
  suffices w101 : zLI (d + 6) tb_X12_breaks 5 [some (vR 10 (some a0)), some (vI x1), none] [vI v101] (I101, L101, (ra101, rb101, rc101, rd101), zK0 sl sx, c101) x M' (zK0 sl sx) from ⟨zR_call (rest := []) 3 q101.1 (fun n => rfl) w101.1, w101.2⟩
  rcases zit h with ⟨g1, h⟩ | ⟨g1, h⟩
  · obtain ⟨rfl, rfl⟩ := zrI h
    exact ⟨zR_ret 3 ((if_pos g1).trans rfl), rfl⟩
  · obtain ⟨v102, M102, f102, h⟩ := zBx h
    have q102 := L_St_isBroken (d := (d + 5)) f102 rfl
    obtain ⟨I102, L102, ⟨ra102, rb102, rc102, rd102⟩, K102, c102⟩ := M102
    obtain rfl : K102 = zK0 sl sx := q102.2
    suffices w102 : zLI (d + 6) tb_X12_breaks 16 [some (vR 10 (some a0)), some (vI x1), none] [vI v102] (I102, L102, (ra102, rb102, rc102, rd102), zK0 sl sx, c102) x M' (zK0 sl sx) from ⟨zR_call (rest := []) 5 q102.1 (fun n => (if_neg g1).trans rfl) w102.1, w102.2⟩
    rcases zit h with ⟨g2, h⟩ | ⟨g2, h⟩
    · obtain ⟨M103, f103, h⟩ := zBvx h
      have q103 := L_St_copy (d := (d + 5)) f103 rfl
      obtain ⟨I103, L103, ⟨ra103, rb103, rc103, rd103⟩, K103, c103⟩ := M103
      obtain rfl : K103 = zK0 sl sx := q103.2
      suffices w103 : zLI (d + 6) tb_X12_breaks 32 [some (vR 10 (some a0)), some (vI x1), none] [] (I103, L103, (ra103, rb103, rc103, rd103), zK0 sl sx, c103) x M' (zK0 sl sx) from ⟨zR_call (rest := []) 6 q103.1 (fun n => (if_pos g2).trans rfl) w103.1, w103.2⟩
      have q := L_Wp_breaks_34 (d := d) h rfl
      exact ⟨zR_go 2 q.1 (fun n => rfl), q.2⟩
    · obtain ⟨rfl, rfl⟩ := zrI h
      exact ⟨zR_ret 3 ((if_neg g2).trans rfl), rfl⟩
set_option maxRecDepth 20000 in
theorem L_Wp_lost {N d sl : Nat} {sx : Nat → Int} {a0 : Nat} {M : ZM} {x : Int} {M' : ZM} (h : Wp_lost N a0 M = some (x, M')) (hK : mK M = zK0 sl sx) : zLI (d + 5) tb_X12_lost 0 [some (vR 10 (some a0))] [] M x M' (zK0 sl sx) := by
  obtain ⟨I0, L0, ⟨ra0, rb0, rc0, rd0⟩, K0, c0⟩ := M
  obtain rfl : K0 = zK0 sl sx := hK
  obtain ⟨p101, g1, h⟩ := zOx h
  obtain rfl : ra0 = some p101 := g1
  obtain ⟨M102, f102, h⟩ := zBvx h
  have q102 := L_Fl_measure (d := d) f102 rfl
  obtain ⟨I102, L102, ⟨ra102, rb102, rc102, rd102⟩, K102, c102⟩ := M102
  obtain rfl : K102 = zK0 sl sx := q102.2
  suffices w102 : zLI (d + 5) tb_X12_lost 15 [some (vR 10 (some a0))] [] (I102, L102, (ra102, rb102, rc102, rd102), zK0 sl sx, c102) x M' (zK0 sl sx) from ⟨zR_call (rest := []) 7 q102.1 (fun n => rfl) w102.1, w102.2⟩
  obtain ⟨rfl, rfl⟩ := zrI h
  exact ⟨zR_ret 8 (rfl), rfl⟩
set_option maxRecDepth 20000 in
theorem L_Wp_searched_36 {N d sl : Nat} {sx : Nat → Int} {x2 : Int} {a3 : Nat} {M : ZM} {x : Int} {M' : ZM} (h : Wp_searched_36 N x2 a3 M = some (x, M')) (hK : mK M = zK0 sl sx) : zLI (d + 5) tb_X12_searched 36 [none, none, some (vI x2), some (vR 6 (some a3))] [] M x M' (zK0 sl sx) := by
  obtain ⟨I0, L0, ⟨ra0, rb0, rc0, rd0⟩, K0, c0⟩ := M
  obtain rfl : K0 = zK0 sl sx := hK
  rcases zit h with ⟨g1, h⟩ | ⟨g1, h⟩
  · obtain ⟨rfl, rfl⟩ := zrI h
    exact ⟨zR_ret 7 ((if_pos g1).trans rfl), rfl⟩
  · obtain ⟨g2, h⟩ := zIx h
    obtain ⟨rfl, rfl⟩ := zrI h
    exact ⟨zR_ret 8 ((if_neg g1).trans ((if_pos g2).trans rfl)), rfl⟩
set_option maxRecDepth 20000 in
theorem L_Wp_searched {N d sl : Nat} {sx : Nat → Int} {a0 : Nat} {x1 : Int} {x2 : Int} {M : ZM} {x : Int} {M' : ZM} (h : Wp_searched N a0 x1 x2 M = some (x, M')) (hK : mK M = zK0 sl sx) : zLI (d + 5) tb_X12_searched 0 [some (vR 10 (some a0)), some (vI x1), some (vI x2), none] [] M x M' (zK0 sl sx) := by
  obtain ⟨I0, L0, ⟨ra0, rb0, rc0, rd0⟩, K0, c0⟩ := M
  obtain rfl : K0 = zK0 sl sx := hK
  obtain ⟨g1, h⟩ := zIx h
  replace h := zWx h
  rcases zit h with ⟨g2, h⟩ | ⟨g2, h⟩
  · obtain ⟨p102, g3, h⟩ := zOx h
    obtain rfl : ra0 = some p102 := g3
    obtain ⟨M103, f103, h⟩ := zBvx h
    have q103 := L_Se_seek (d := d) f103 rfl
    obtain ⟨I103, L103, ⟨ra103, rb103, rc103, rd103⟩, K103, c103⟩ := M103
    obtain rfl : K103 = zK0 sl sx := q103.2
    suffices w103 : zLI (d + 5) tb_X12_searched 31 [some (vR 10 (some a0)), some (vI x1), some (vI x2), some (vR 6 (some x1.toNat))] [] (I103, L103, (ra103, rb103, rc103, rd103), zK0 sl sx, c103) x M' (zK0 sl sx) from ⟨zR_call (rest := []) 17 q103.1 (fun n => (if_pos g1).trans ((if_pos g2).trans rfl)) w103.1, w103.2⟩
    replace h := zWx h
    have q := L_Wp_searched_36 (d := d) h rfl
    exact ⟨zR_go 3 (zR_up (ls' := [some (vR 10 (some a0)), some (vI x1), some (vI x2), some (vR 6 (some x1.toNat))]) q.1 ⟨.inl rfl, .inl rfl, .inr rfl, .inr rfl, trivial⟩) (fun n => rfl), q.2⟩
  · have q := L_Wp_searched_36 (d := d) h rfl
    exact ⟨zR_go 8 (zR_up (ls' := [some (vR 10 (some a0)), some (vI x1), some (vI x2), some (vR 6 (some x1.toNat))]) q.1 ⟨.inl rfl, .inl rfl, .inr rfl, .inr rfl, trivial⟩) (fun n => (if_pos g1).trans ((if_neg g2).trans rfl)), q.2⟩
set_option maxRecDepth 20000 in
theorem L_Wp_best_16 {N d sl : Nat} {sx : Nat → Int} {a0 : Nat} {x1 : Int} {M : ZM} {x : Int} {M' : ZM} (h : Wp_best_16 N a0 x1 M = some (x, M')) (hK : mK M = zK0 sl sx) : zLI (d + 6) tb_X12_best 16 [some (vR 10 (some a0)), some (vI x1)] [] M x M' (zK0 sl sx) := by
  obtain ⟨I0, L0, ⟨ra0, rb0, rc0, rd0⟩, K0, c0⟩ := M
  obtain rfl : K0 = zK0 sl sx := hK
  obtain ⟨v101, M101, f101, h⟩ := zBx h
  have q101 := L_Wp_searched (d := d) f101 rfl
  obtain ⟨I101, L101, ⟨ra101, rb101, rc101, rd101⟩, K101, c101⟩ := M101
  obtain rfl : K101 = zK0 sl sx := q101.2
  suffices w101 : zLI (d + 6) tb_X12_best 22 [some (vR 10 (some a0)), some (vI x1)] [vI v101] (I101, L101, (ra101, rb101, rc101, rd101), zK0 sl sx, c101) x M' (zK0 sl sx) from ⟨zR_call (rest := []) 4 q101.1 (fun n => rfl) w101.1, w101.2⟩
  obtain ⟨rfl, rfl⟩ := zrI h
  exact ⟨zR_ret 1 (rfl), rfl⟩
set_option maxRecDepth 20000 in
theorem L_Wp_best {N d sl : Nat} {sx : Nat → Int} {a0 : Nat} {x1 : Int} {M : ZM} {x : Int} {M' : ZM} (h : Wp_best N a0 x1 M = some (x, M')) (hK : mK M = zK0 sl sx) : zLI (d + 6) tb_X12_best 0 [some (vR 10 (some a0)), some (vI x1)] [] M x M' (zK0 sl sx) := by
  obtain ⟨I0, L0, ⟨ra0, rb0, rc0, rd0⟩, K0, c0⟩ := M
  obtain rfl : K0 = zK0 sl sx := hK
  rcases zit h with ⟨g1, h⟩ | ⟨g1, h⟩
  · have q := L_Wp_best_16 (d := d) h rfl
    exact ⟨zR_go 3 q.1 (fun n => (if_pos g1).trans rfl), q.2⟩
  · obtain ⟨v101, M101, f101, h⟩ := zBx h
    have q101 := L_Wp_stands (d := (d + 5)) f101 rfl
    obtain ⟨I101, L101, ⟨ra101, rb101, rc101, rd101⟩, K101, c101⟩ := M101
    obtain rfl : K101 = zK0 sl sx := q101.2
    suffices w101 : zLI (d + 6) tb_X12_best 10 [some (vR 10 (some a0)), some (vI x1)] [vI v101] (I101, L101, (ra101, rb101, rc101, rd101), zK0 sl sx, c101) x M' (zK0 sl sx) from ⟨zR_call (rest := []) 6 q101.1 (fun n => (if_neg g1).trans rfl) w101.1, w101.2⟩
    rcases zit h with ⟨g2, h⟩ | ⟨g2, h⟩
    · obtain ⟨rfl, rfl⟩ := zrI h
      exact ⟨zR_ret 3 ((if_pos g2).trans rfl), rfl⟩
    · have q := L_Wp_best_16 (d := d) h rfl
      exact ⟨zR_go 1 q.1 (fun n => (if_neg g2).trans rfl), q.2⟩
set_option maxRecDepth 20000 in
theorem L_Wp_alone_26 {N d sl : Nat} {sx : Nat → Int} {a0 : Nat} {x1 : Int} {x2 : Int} {M : ZM} {x : Int} {M' : ZM} (h : Wp_alone_26 N a0 x1 x2 M = some (x, M')) (hK : mK M = zK0 sl sx) : zLI (d + 6) tb_X12_alone 26 [some (vR 10 (some a0)), some (vI x1), some (vI x2)] [] M x M' (zK0 sl sx) := by
  obtain ⟨I0, L0, ⟨ra0, rb0, rc0, rd0⟩, K0, c0⟩ := M
  obtain rfl : K0 = zK0 sl sx := hK
  obtain ⟨v101, M101, f101, h⟩ := zBx h
  have q101 := L_Wp_searched (d := d) f101 rfl
  obtain ⟨I101, L101, ⟨ra101, rb101, rc101, rd101⟩, K101, c101⟩ := M101
  obtain rfl : K101 = zK0 sl sx := q101.2
  suffices w101 : zLI (d + 6) tb_X12_alone 32 [some (vR 10 (some a0)), some (vI x1), some (vI x2)] [vI v101] (I101, L101, (ra101, rb101, rc101, rd101), zK0 sl sx, c101) x M' (zK0 sl sx) from ⟨zR_call (rest := []) 4 q101.1 (fun n => rfl) w101.1, w101.2⟩
  obtain ⟨rfl, rfl⟩ := zrI h
  exact ⟨zR_ret 1 (rfl), rfl⟩
set_option maxRecDepth 20000 in
theorem L_Wp_alone {N d sl : Nat} {sx : Nat → Int} {a0 : Nat} {x1 : Int} {x2 : Int} {M : ZM} {x : Int} {M' : ZM} (h : Wp_alone N a0 x1 x2 M = some (x, M')) (hK : mK M = zK0 sl sx) : zLI (d + 6) tb_X12_alone 0 [some (vR 10 (some a0)), some (vI x1), some (vI x2)] [] M x M' (zK0 sl sx) := by
  obtain ⟨I0, L0, ⟨ra0, rb0, rc0, rd0⟩, K0, c0⟩ := M
  obtain rfl : K0 = zK0 sl sx := hK
  rcases zit h with ⟨g1, h⟩ | ⟨g1, h⟩
  · obtain ⟨rfl, rfl⟩ := zrI h
    exact ⟨zR_ret 5 ((if_pos g1).trans rfl), rfl⟩
  · rcases zit h with ⟨g2, h⟩ | ⟨g2, h⟩
    · obtain ⟨rfl, rfl⟩ := zrI h
      exact ⟨zR_ret 8 ((if_neg g1).trans ((if_pos g2).trans rfl)), rfl⟩
    · rcases zit h with ⟨g3, h⟩ | ⟨g3, h⟩
      · have q := L_Wp_alone_26 (d := d) h rfl
        exact ⟨zR_go 9 q.1 (fun n => (if_neg g1).trans ((if_neg g2).trans ((if_pos g3).trans rfl))), q.2⟩
      · obtain ⟨v101, M101, f101, h⟩ := zBx h
        have q101 := L_Wp_stands (d := (d + 5)) f101 rfl
        obtain ⟨I101, L101, ⟨ra101, rb101, rc101, rd101⟩, K101, c101⟩ := M101
        obtain rfl : K101 = zK0 sl sx := q101.2
        suffices w101 : zLI (d + 6) tb_X12_alone 20 [some (vR 10 (some a0)), some (vI x1), some (vI x2)] [vI v101] (I101, L101, (ra101, rb101, rc101, rd101), zK0 sl sx, c101) x M' (zK0 sl sx) from ⟨zR_call (rest := []) 12 q101.1 (fun n => (if_neg g1).trans ((if_neg g2).trans ((if_neg g3).trans rfl))) w101.1, w101.2⟩
        rcases zit h with ⟨g4, h⟩ | ⟨g4, h⟩
        · obtain ⟨rfl, rfl⟩ := zrI h
          exact ⟨zR_ret 3 ((if_pos g4).trans rfl), rfl⟩
        · have q := L_Wp_alone_26 (d := d) h rfl
          exact ⟨zR_go 1 q.1 (fun n => (if_neg g4).trans rfl), q.2⟩
set_option maxRecDepth 20000 in
theorem L_Wp_idle_40 {N d sl : Nat} {sx : Nat → Int} : ∀ {n : Nat} {a0 : Nat} {x1 : Int} {x2 : Int} {x3 : Int} {x4 : Int} {M : ZM} {x : Int} {M' : ZM}, Wp_idle_40 N n a0 x1 x2 x3 x4 M = some (x, M') → mK M = zK0 sl sx → zLI (d + 6) tb_X12_idle 40 [some (vR 10 (some a0)), some (vI x1), some (vI x2), some (vI x3), some (vI x4), none] [] M x M' (zK0 sl sx) := by
  intro n
  induction n with
  | zero => intros; rename_i h _; cases h
  | succ n ih =>
    intro a0 x1 x2 x3 x4 M x M' h hK
    obtain ⟨I0, L0, ⟨ra0, rb0, rc0, rd0⟩, K0, c0⟩ := M
    obtain rfl : K0 = zK0 sl sx := hK
    rcases zit h with ⟨g1, h⟩ | ⟨g1, h⟩
    · obtain ⟨rfl, rfl⟩ := zrI h
      exact ⟨zR_ret 5 ((if_pos g1).trans rfl), rfl⟩
    · rcases zit h with ⟨g2, h⟩ | ⟨g2, h⟩
      · replace h := zWx h
        obtain ⟨p102, g3, h⟩ := zOx h
        obtain rfl : ra0 = some p102 := g3
        obtain ⟨v103, M103, f103, h⟩ := zBx h
        have q103 := L_Fl_sold (d := d) f103 rfl
        obtain ⟨I103, L103, ⟨ra103, rb103, rc103, rd103⟩, K103, c103⟩ := M103
        obtain rfl : K103 = zK0 sl sx := q103.2
        suffices w103 : zLI (d + 6) tb_X12_idle 98 [some (vR 10 (some a0)), some (vI x1), some (vI x2), some (vI x3), some (vI x4), none] [vI v103] (I103, L103, (ra103, rb103, rc103, rd103), zK0 sl sx, c103) x M' (zK0 sl sx) from ⟨zR_call (rest := []) 32 q103.1 (fun n => (if_neg g1).trans ((if_pos g2).trans rfl)) w103.1, w103.2⟩
        rcases zit h with ⟨g4, h⟩ | ⟨g4, h⟩
        · replace h := zWx h
          have q := ih h rfl
          exact ⟨zR_go 10 (zR_up (ls' := [some (vR 10 (some a0)), some (vI x1), some (vI v103), some (vI x4), some (vI (z32 (x4 + 1))), some (vI v103)]) q.1 ⟨.inr rfl, .inr rfl, .inr rfl, .inr rfl, .inr rfl, .inl rfl, trivial⟩) (fun n => (if_pos g4).trans rfl), q.2⟩
        · rcases zit h with ⟨g5, h⟩ | ⟨g5, h⟩
          · replace h := zWx h
            have q := ih h rfl
            exact ⟨zR_go 13 (zR_up (ls' := [some (vR 10 (some a0)), some (vI x1), some (vI v103), some (vI x4), some (vI (z32 (x4 + 1))), some (vI v103)]) q.1 ⟨.inr rfl, .inr rfl, .inr rfl, .inr rfl, .inr rfl, .inl rfl, trivial⟩) (fun n => (if_neg g4).trans ((if_pos g5).trans rfl)), q.2⟩
          · replace h := zWx h
            have q := ih h rfl
            exact ⟨zR_go 9 (zR_up (ls' := [some (vR 10 (some a0)), some (vI x1), some (vI x2), some (vI x3), some (vI (z32 (x4 + 1))), some (vI v103)]) q.1 ⟨.inr rfl, .inr rfl, .inr rfl, .inr rfl, .inr rfl, .inl rfl, trivial⟩) (fun n => (if_neg g4).trans ((if_neg g5).trans rfl)), q.2⟩
      · replace h := zWx h
        have q := ih h rfl
        exact ⟨zR_go 12 q.1 (fun n => (if_neg g1).trans ((if_neg g2).trans rfl)), q.2⟩
set_option maxRecDepth 20000 in
theorem L_Wp_idle {N d sl : Nat} {sx : Nat → Int} {a0 : Nat} {M : ZM} {x : Int} {M' : ZM} (h : Wp_idle N a0 M = some (x, M')) (hK : mK M = zK0 sl sx) : zLI (d + 6) tb_X12_idle 0 [some (vR 10 (some a0)), none, none, none, none, none] [] M x M' (zK0 sl sx) := by
  obtain ⟨I0, L0, ⟨ra0, rb0, rc0, rd0⟩, K0, c0⟩ := M
  obtain rfl : K0 = zK0 sl sx := hK
  obtain ⟨p101, g1, h⟩ := zOx h
  obtain rfl : ra0 = some p101 := g1
  obtain ⟨v102, M102, f102, h⟩ := zBx h
  have q102 := L_St_everyone (d := (d + 5)) f102 rfl
  obtain ⟨I102, L102, ⟨ra102, rb102, rc102, rd102⟩, K102, c102⟩ := M102
  obtain rfl : K102 = zK0 sl sx := q102.2
  suffices w102 : zLI (d + 6) tb_X12_idle 11 [some (vR 10 (some a0)), none, none, none, none, none] [vI v102] (I102, L102, (ra102, rb102, rc102, rd102), zK0 sl sx, c102) x M' (zK0 sl sx) from ⟨zR_call (rest := []) 5 q102.1 (fun n => rfl) w102.1, w102.2⟩
  replace h := zWx h
  obtain ⟨M104, f104, h⟩ := zBvx h
  have q104 := L_St_copy (d := (d + 5)) f104 rfl
  obtain ⟨I104, L104, ⟨ra104, rb104, rc104, rd104⟩, K104, c104⟩ := M104
  obtain rfl : K104 = zK0 sl sx := q104.2
  suffices w104 : zLI (d + 6) tb_X12_idle 33 [some (vR 10 (some a0)), some (vI (z_and v102 (z_xor (mI (I102, L102, (ra102, rb102, rc102, rd102), zK0 sl sx, c102) 7 0 3) (-1)))), none, none, none, none] [] (I104, L104, (ra104, rb104, rc104, rd104), zK0 sl sx, c104) x M' (zK0 sl sx) from ⟨zR_call (rest := []) 12 q104.1 (fun n => rfl) w104.1, w104.2⟩
  have q := L_Wp_idle_40 (d := d) h rfl
  exact ⟨zR_go 6 q.1 (fun n => rfl), q.2⟩
set_option maxRecDepth 20000 in
theorem L_Wp_straight {N d sl : Nat} {sx : Nat → Int} {a0 : Nat} {M : ZM} {x : Int} {M' : ZM} (h : Wp_straight N a0 M = some (x, M')) (hK : mK M = zK0 sl sx) : zLI (d + 6) tb_X12_straight 0 [some (vR 10 (some a0))] [] M x M' (zK0 sl sx) := by
  obtain ⟨I0, L0, ⟨ra0, rb0, rc0, rd0⟩, K0, c0⟩ := M
  obtain rfl : K0 = zK0 sl sx := hK
  obtain ⟨M101, f101, h⟩ := zBvx h
  have q101 := L_St_copy (d := (d + 5)) f101 rfl
  obtain ⟨I101, L101, ⟨ra101, rb101, rc101, rd101⟩, K101, c101⟩ := M101
  obtain rfl : K101 = zK0 sl sx := q101.2
  suffices w101 : zLI (d + 6) tb_X12_straight 11 [some (vR 10 (some a0))] [] (I101, L101, (ra101, rb101, rc101, rd101), zK0 sl sx, c101) x M' (zK0 sl sx) from ⟨zR_call (rest := []) 5 q101.1 (fun n => rfl) w101.1, w101.2⟩
  obtain ⟨M102, f102, h⟩ := zBvx h
  have q102 := L_Ar_fill_40 (d := (d + 5)) f102 rfl
  obtain ⟨I102, L102, ⟨ra102, rb102, rc102, rd102⟩, K102, c102⟩ := M102
  obtain rfl : K102 = zK0 sl sx := q102.2
  suffices w102 : zLI (d + 6) tb_X12_straight 22 [some (vR 10 (some a0))] [] (I102, L102, (ra102, rb102, rc102, rd102), zK0 sl sx, c102) x M' (zK0 sl sx) from ⟨zR_call (rest := []) 5 q102.1 (fun n => rfl) w102.1, w102.2⟩
  obtain ⟨p103, g1, h⟩ := zOx h
  obtain rfl : ra102 = some p103 := g1
  obtain ⟨v104, M104, f104, h⟩ := zBx h
  have q104 := L_Fl_sold (d := d) f104 rfl
  obtain ⟨I104, L104, ⟨ra104, rb104, rc104, rd104⟩, K104, c104⟩ := M104
  obtain rfl : K104 = zK0 sl sx := q104.2
  suffices w104 : zLI (d + 6) tb_X12_straight 37 [some (vR 10 (some a0))] [vI v104] (I104, L104, (ra104, rb104, rc104, rd104), zK0 sl sx, c104) x M' (zK0 sl sx) from ⟨zR_call (rest := []) 7 q104.1 (fun n => rfl) w104.1, w104.2⟩
  obtain ⟨p105, g2, h⟩ := zOx h
  obtain rfl : ra104 = some p105 := g2
  obtain ⟨v106, M106, f106, h⟩ := zBx h
  have q106 := L_Fl_sold (d := d) f106 rfl
  obtain ⟨I106, L106, ⟨ra106, rb106, rc106, rd106⟩, K106, c106⟩ := M106
  obtain rfl : K106 = zK0 sl sx := q106.2
  suffices w106 : zLI (d + 6) tb_X12_straight 52 [some (vR 10 (some a0))] [vI v106, vI v104] (I106, L106, (ra106, rb106, rc106, rd106), zK0 sl sx, c106) x M' (zK0 sl sx) from ⟨zR_call (rest := [vI v104]) 7 q106.1 (fun n => rfl) w106.1, w106.2⟩
  obtain ⟨rfl, rfl⟩ := zrI h
  exact ⟨zR_ret 2 (rfl), rfl⟩
set_option maxRecDepth 20000 in
theorem L_Wp_full_19 {N d sl : Nat} {sx : Nat → Int} : ∀ {n : Nat} {a0 : Nat} {x1 : Int} {x2 : Int} {M : ZM} {x : Int} {M' : ZM}, Wp_full_19 N n a0 x1 x2 M = some (x, M') → mK M = zK0 sl sx → zLI (d + 5) tb_X12_full 19 [some (vR 10 (some a0)), some (vI x1), some (vI x2)] [] M x M' (zK0 sl sx) := by
  intro n
  induction n with
  | zero => intros; rename_i h _; cases h
  | succ n ih =>
    intro a0 x1 x2 M x M' h hK
    obtain ⟨I0, L0, ⟨ra0, rb0, rc0, rd0⟩, K0, c0⟩ := M
    obtain rfl : K0 = zK0 sl sx := hK
    obtain ⟨p101, g1, h⟩ := zOx h
    obtain rfl : ra0 = some p101 := g1
    rcases zit h with ⟨g2, h⟩ | ⟨g2, h⟩
    · obtain ⟨g3, h⟩ := zIx h
      rcases zit h with ⟨g4, h⟩ | ⟨g4, h⟩
      · replace h := zWx h
        have q := ih h rfl
        exact ⟨zR_go 14 q.1 (fun n => (if_pos g2).trans ((if_pos g3).trans ((if_pos g4).trans rfl))), q.2⟩
      · obtain ⟨g5, h⟩ := zIx h
        obtain ⟨g6, h⟩ := zIx h
        rcases zit h with ⟨g7, h⟩ | ⟨g7, h⟩
        · replace h := zWx h
          replace h := zWx h
          have q := ih h rfl
          exact ⟨zR_go 31 q.1 (fun n => (if_pos g2).trans ((if_pos g3).trans ((if_neg g4).trans ((if_pos g5).trans ((if_pos g6).trans ((if_pos g7).trans rfl)))))), q.2⟩
        · replace h := zWx h
          have q := ih h rfl
          exact ⟨zR_go 25 q.1 (fun n => (if_pos g2).trans ((if_pos g3).trans ((if_neg g4).trans ((if_pos g5).trans ((if_pos g6).trans ((if_neg g7).trans rfl)))))), q.2⟩
    · obtain ⟨rfl, rfl⟩ := zrI h
      exact ⟨zR_ret 7 ((if_neg g2).trans rfl), rfl⟩
set_option maxRecDepth 20000 in
theorem L_Wp_full {N d sl : Nat} {sx : Nat → Int} {a0 : Nat} {M : ZM} {x : Int} {M' : ZM} (h : Wp_full N a0 M = some (x, M')) (hK : mK M = zK0 sl sx) : zLI (d + 5) tb_X12_full 0 [some (vR 10 (some a0)), none, none] [] M x M' (zK0 sl sx) := by
  obtain ⟨I0, L0, ⟨ra0, rb0, rc0, rd0⟩, K0, c0⟩ := M
  obtain rfl : K0 = zK0 sl sx := hK
  obtain ⟨p101, g1, h⟩ := zOx h
  obtain rfl : ra0 = some p101 := g1
  obtain ⟨M102, f102, h⟩ := zBvx h
  have q102 := L_Fl_measure (d := d) f102 rfl
  obtain ⟨I102, L102, ⟨ra102, rb102, rc102, rd102⟩, K102, c102⟩ := M102
  obtain rfl : K102 = zK0 sl sx := q102.2
  suffices w102 : zLI (d + 5) tb_X12_full 15 [some (vR 10 (some a0)), none, none] [] (I102, L102, (ra102, rb102, rc102, rd102), zK0 sl sx, c102) x M' (zK0 sl sx) from ⟨zR_call (rest := []) 7 q102.1 (fun n => rfl) w102.1, w102.2⟩
  have q := L_Wp_full_19 (d := d) h rfl
  exact ⟨zR_go 4 q.1 (fun n => rfl), q.2⟩
