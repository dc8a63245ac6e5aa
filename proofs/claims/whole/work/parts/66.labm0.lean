set_option maxRecDepth 20000 in
theorem L_Mo_usual_2 {N d sl : Nat} {sx : Nat → Int} : ∀ {n : Nat} {a0 : Nat} {x1 : Int} {x2 : Int} {M : ZM} {M' : ZM}, Mo_usual_2 N n a0 x1 x2 M = some M' → mK M = zK0 sl sx → zLV (d + 0) tb_X13_usual 2 [some (vR 11 (some a0)), some (vI x1), some (vI x2)] [] M M' (zK0 sl sx) := by
  intro n
  induction n with
  | zero => intros; rename_i h _; cases h
  | succ n ih =>
    intro a0 x1 x2 M M' h hK
    obtain ⟨I0, L0, ⟨ra0, rb0, rc0, rd0⟩, K0, c0⟩ := M
    obtain rfl : K0 = zK0 sl sx := hK
    rcases zit h with ⟨g1, h⟩ | ⟨g1, h⟩
    · obtain ⟨g2, h⟩ := zIx h
      replace h := zWx h
      replace h := zWx h
      have q := ih h rfl
      exact ⟨zR_go 14 q.1 (fun n => (if_pos g1).trans ((if_pos g2).trans rfl)), q.2⟩
    · obtain ⟨g3, h⟩ := zIx h
      replace h := zWx h
      obtain ⟨g4, h⟩ := zIx h
      replace h := zWx h
      obtain ⟨g5, h⟩ := zIx h
      replace h := zWx h
      obtain ⟨g6, h⟩ := zIx h
      replace h := zWx h
      obtain ⟨g7, h⟩ := zIx h
      replace h := zWx h
      obtain rfl := zrV h
      exact ⟨zR_ret 53 ((if_neg g1).trans ((if_pos g3).trans ((if_pos g4).trans ((if_pos g5).trans ((if_pos g6).trans ((if_pos g7).trans rfl)))))), rfl⟩
set_option maxRecDepth 20000 in
theorem L_Mo_usual {N d sl : Nat} {sx : Nat → Int} {a0 : Nat} {x1 : Int} {M : ZM} {M' : ZM} (h : Mo_usual N a0 x1 M = some M') (hK : mK M = zK0 sl sx) : zLV (d + 0) tb_X13_usual 0 [some (vR 11 (some a0)), some (vI x1), none] [] M M' (zK0 sl sx) := by
  obtain ⟨I0, L0, ⟨ra0, rb0, rc0, rd0⟩, K0, c0⟩ := M
  obtain rfl : K0 = zK0 sl sx := hK
  have q := L_Mo_usual_2 (d := d) h rfl
  exact ⟨zR_go 2 q.1 (fun n => rfl), q.2⟩
set_option maxRecDepth 20000 in
theorem L_Mo_fresh0_2 {N d sl : Nat} {sx : Nat → Int} : ∀ {n : Nat} {a0 : Nat} {x1 : Int} {M : ZM} {M' : ZM}, Mo_fresh0_2 N n a0 x1 M = some M' → mK M = zK0 sl sx → zLV (d + 0) tb_X13_fresh0 2 [some (vR 11 (some a0)), some (vI x1)] [] M M' (zK0 sl sx) := by
  intro n
  induction n with
  | zero => intros; rename_i h _; cases h
  | succ n ih =>
    intro a0 x1 M M' h hK
    obtain ⟨I0, L0, ⟨ra0, rb0, rc0, rd0⟩, K0, c0⟩ := M
    obtain rfl : K0 = zK0 sl sx := hK
    rcases zit h with ⟨g1, h⟩ | ⟨g1, h⟩
    · rcases zit h with ⟨g2, h⟩ | ⟨g2, h⟩
      · obtain ⟨g3, h⟩ := zIx h
        replace h := zWx h
        replace h := zWx h
        have q := ih h rfl
        exact ⟨zR_go 13 q.1 (fun n => (if_pos g1).trans ((if_pos g2).trans ((if_pos g3).trans rfl))), q.2⟩
      · rcases zit h with ⟨g4, h⟩ | ⟨g4, h⟩
        · obtain ⟨g5, h⟩ := zIx h
          replace h := zWx h
          replace h := zWx h
          have q := ih h rfl
          exact ⟨zR_go 17 q.1 (fun n => (if_pos g1).trans ((if_neg g2).trans ((if_pos g4).trans ((if_pos g5).trans rfl)))), q.2⟩
        · obtain ⟨g6, h⟩ := zIx h
          replace h := zWx h
          replace h := zWx h
          have q := ih h rfl
          exact ⟨zR_go 16 q.1 (fun n => (if_pos g1).trans ((if_neg g2).trans ((if_neg g4).trans ((if_pos g6).trans rfl)))), q.2⟩
    · obtain rfl := zrV h
      exact ⟨zR_ret 4 ((if_neg g1).trans rfl), rfl⟩
set_option maxRecDepth 20000 in
theorem L_Mo_fresh0 {N d sl : Nat} {sx : Nat → Int} {a0 : Nat} {M : ZM} {M' : ZM} (h : Mo_fresh0 N a0 M = some M') (hK : mK M = zK0 sl sx) : zLV (d + 0) tb_X13_fresh0 0 [some (vR 11 (some a0)), none] [] M M' (zK0 sl sx) := by
  obtain ⟨I0, L0, ⟨ra0, rb0, rc0, rd0⟩, K0, c0⟩ := M
  obtain rfl : K0 = zK0 sl sx := hK
  have q := L_Mo_fresh0_2 (d := d) h rfl
  exact ⟨zR_go 2 q.1 (fun n => rfl), q.2⟩
set_option maxRecDepth 20000 in
theorem L_Mo_thrown {N d sl : Nat} {sx : Nat → Int} {a0 : Nat} {M : ZM} {x : Int} {M' : ZM} (h : Mo_thrown N a0 M = some (x, M')) (hK : mK M = zK0 sl sx) : zLI (d + 0) tb_X13_thrown 0 [some (vR 11 (some a0))] [] M x M' (zK0 sl sx) := by
  obtain ⟨I0, L0, ⟨ra0, rb0, rc0, rd0⟩, K0, c0⟩ := M
  obtain rfl : K0 = zK0 sl sx := hK
  obtain ⟨rfl, rfl⟩ := zrI h
  exact ⟨zR_ret 3 (rfl), rfl⟩
set_option maxRecDepth 20000 in
theorem L_Mo_within {N d sl : Nat} {sx : Nat → Int} {x0 : Int} {x1 : Int} {x2 : Int} {M : ZM} {x : Int} {M' : ZM} (h : Mo_within N x0 x1 x2 M = some (x, M')) (hK : mK M = zK0 sl sx) : zLI (d + 0) tb_X13_within 0 [some (vI x0), some (vI x1), some (vI x2)] [] M x M' (zK0 sl sx) := by
  obtain ⟨I0, L0, ⟨ra0, rb0, rc0, rd0⟩, K0, c0⟩ := M
  obtain rfl : K0 = zK0 sl sx := hK
  rcases zit h with ⟨g1, h⟩ | ⟨g1, h⟩
  · obtain ⟨rfl, rfl⟩ := zrI h
    exact ⟨zR_ret 5 ((if_pos g1).trans rfl), rfl⟩
  · rcases zit h with ⟨g2, h⟩ | ⟨g2, h⟩
    · obtain ⟨rfl, rfl⟩ := zrI h
      exact ⟨zR_ret 8 ((if_neg g1).trans ((if_pos g2).trans rfl)), rfl⟩
    · obtain ⟨rfl, rfl⟩ := zrI h
      exact ⟨zR_ret 9 ((if_neg g1).trans ((if_neg g2).trans rfl)), rfl⟩
set_option maxRecDepth 20000 in
theorem L_Mo_between {N d sl : Nat} {sx : Nat → Int} {x0 : Int} {x1 : Int} {x2 : Int} {M : ZM} {x : Int} {M' : ZM} (h : Mo_between N x0 x1 x2 M = some (x, M')) (hK : mK M = zK0 sl sx) : zLI (d + 0) tb_X13_between 0 [some (vI x0), some (vI x1), some (vI x2)] [] M x M' (zK0 sl sx) := by
  obtain ⟨I0, L0, ⟨ra0, rb0, rc0, rd0⟩, K0, c0⟩ := M
  obtain rfl : K0 = zK0 sl sx := hK
  rcases zit h with ⟨g1, h⟩ | ⟨g1, h⟩
  · obtain ⟨rfl, rfl⟩ := zrI h
    exact ⟨zR_ret 6 ((if_pos g1).trans rfl), rfl⟩
  · rcases zit h with ⟨g2, h⟩ | ⟨g2, h⟩
    · obtain ⟨rfl, rfl⟩ := zrI h
      exact ⟨zR_ret 9 ((if_neg g1).trans ((if_pos g2).trans rfl)), rfl⟩
    · obtain ⟨rfl, rfl⟩ := zrI h
      exact ⟨zR_ret 8 ((if_neg g1).trans ((if_neg g2).trans rfl)), rfl⟩
set_option maxRecDepth 20000 in
theorem L_Mo_feed_93 {N d sl : Nat} {sx : Nat → Int} {rec8 : Nat → Int → Int → Int → Int → ZM → Option (Int × ZM)} (hrec8 : ∀ {a0 : Nat} {x1 : Int} {x3 : Int} {x5 : Int} {x7 : Int} {M : ZM} {x : Int} {M' : ZM}, rec8 a0 x1 x3 x5 x7 M = some (x, M') → mK M = zK0 sl sx → zLI (d + 0) tb_X13_feed 8 [some (vR 11 (some a0)), some (vL x1), none, some (vL x3), none, some (vL x5), none, some (vI x7), none, none, none] [] M x M' (zK0 sl sx)) {a0 : Nat} {x1 : Int} {x3 : Int} {x5 : Int} {x7 : Int} {x10 : Int} {M : ZM} {x : Int} {M' : ZM} (h : Mo_feed_93 N rec8 a0 x1 x3 x5 x7 x10 M = some (x, M')) (hK : mK M = zK0 sl sx) : zLI (d + 0) tb_X13_feed 93 [some (vR 11 (some a0)), some (vL x1), none, some (vL x3), none, some (vL x5), none, some (vI x7), none, none, some (vI x10)] [] M x M' (zK0 sl sx) := by
  obtain ⟨I0, L0, ⟨ra0, rb0, rc0, rd0⟩, K0, c0⟩ := M
  obtain rfl : K0 = zK0 sl sx := hK
  obtain ⟨g1, h⟩ := zIx h
  replace h := zWx h
  replace h := zWx h
  replace h := zWx h
  have q := hrec8 h rfl
  exact ⟨zR_go 14 (zR_up (ls' := [some (vR 11 (some a0)), some (vL x1), none, some (vL x3), none, some (vL x5), none, some (vI (z32 (x7 + 1))), none, none, some (vI x10)]) q.1 ⟨.inr rfl, .inr rfl, .inr rfl, .inr rfl, .inr rfl, .inr rfl, .inr rfl, .inr rfl, .inr rfl, .inr rfl, .inl rfl, trivial⟩) (fun n => (if_pos g1).trans rfl), q.2⟩
set_option maxRecDepth 20000 in
theorem L_Mo_feed_39 {N d sl : Nat} {sx : Nat → Int} {rec8 : Nat → Int → Int → Int → Int → ZM → Option (Int × ZM)} (hrec8 : ∀ {a0 : Nat} {x1 : Int} {x3 : Int} {x5 : Int} {x7 : Int} {M : ZM} {x : Int} {M' : ZM}, rec8 a0 x1 x3 x5 x7 M = some (x, M') → mK M = zK0 sl sx → zLI (d + 0) tb_X13_feed 8 [some (vR 11 (some a0)), some (vL x1), none, some (vL x3), none, some (vL x5), none, some (vI x7), none, none, none] [] M x M' (zK0 sl sx)) {a0 : Nat} {x1 : Int} {x3 : Int} {x5 : Int} {x7 : Int} {y0 : Int} {M : ZM} {x : Int} {M' : ZM} (h : Mo_feed_39 N rec8 a0 x1 x3 x5 x7 y0 M = some (x, M')) (hK : mK M = zK0 sl sx) : zLI (d + 0) tb_X13_feed 39 [some (vR 11 (some a0)), some (vL x1), none, some (vL x3), none, some (vL x5), none, some (vI x7), none, none, none] [vL y0] M x M' (zK0 sl sx) := by
  obtain ⟨I0, L0, ⟨ra0, rb0, rc0, rd0⟩, K0, c0⟩ := M
  obtain rfl : K0 = zK0 sl sx := hK
  replace h := zWx h
  rcases zit h with ⟨g1, h⟩ | ⟨g1, h⟩
  · rcases zit h with ⟨g2, h⟩ | ⟨g2, h⟩
    · have q := L_Mo_feed_93 (d := d) hrec8 h rfl
      exact ⟨zR_go 21 (zR_up (ls' := [some (vR 11 (some a0)), some (vL x1), none, some (vL x3), none, some (vL x5), none, some (vI x7), some (vL y0), none, some (vI (z32 (z_land (z_lushr y0 (z32 (56 - (z32 (8 * (z_and x7 7)))))) 255)))]) q.1 ⟨.inr rfl, .inr rfl, .inr rfl, .inr rfl, .inr rfl, .inr rfl, .inr rfl, .inr rfl, .inl rfl, .inr rfl, .inr rfl, trivial⟩) (fun n => (if_pos g1).trans ((if_pos g2).trans rfl)), q.2⟩
    · rcases zit h with ⟨g3, h⟩ | ⟨g3, h⟩
      · replace h := zWx h
        have q := hrec8 h rfl
        exact ⟨zR_go 26 (zR_up (ls' := [some (vR 11 (some a0)), some (vL x1), none, some (vL x3), none, some (vL x5), none, some (vI (z32 (x7 + 1))), some (vL y0), none, some (vI (z32 (z_land (z_lushr y0 (z32 (56 - (z32 (8 * (z_and x7 7)))))) 255)))]) q.1 ⟨.inr rfl, .inr rfl, .inr rfl, .inr rfl, .inr rfl, .inr rfl, .inr rfl, .inr rfl, .inl rfl, .inr rfl, .inl rfl, trivial⟩) (fun n => (if_pos g1).trans ((if_neg g2).trans ((if_pos g3).trans rfl))), q.2⟩
      · rcases zit h with ⟨g4, h⟩ | ⟨g4, h⟩
        · replace h := zWx h
          have q := hrec8 h rfl
          exact ⟨zR_go 29 (zR_up (ls' := [some (vR 11 (some a0)), some (vL x1), none, some (vL x3), none, some (vL x5), none, some (vI (z32 (x7 + 1))), some (vL y0), none, some (vI (z32 (z_land (z_lushr y0 (z32 (56 - (z32 (8 * (z_and x7 7)))))) 255)))]) q.1 ⟨.inr rfl, .inr rfl, .inr rfl, .inr rfl, .inr rfl, .inr rfl, .inr rfl, .inr rfl, .inl rfl, .inr rfl, .inl rfl, trivial⟩) (fun n => (if_pos g1).trans ((if_neg g2).trans ((if_neg g3).trans ((if_pos g4).trans rfl)))), q.2⟩
        · have q := L_Mo_feed_93 (d := d) hrec8 h rfl
          exact ⟨zR_go 27 (zR_up (ls' := [some (vR 11 (some a0)), some (vL x1), none, some (vL x3), none, some (vL x5), none, some (vI x7), some (vL y0), none, some (vI (z32 (z_land (z_lushr y0 (z32 (56 - (z32 (8 * (z_and x7 7)))))) 255)))]) q.1 ⟨.inr rfl, .inr rfl, .inr rfl, .inr rfl, .inr rfl, .inr rfl, .inr rfl, .inr rfl, .inl rfl, .inr rfl, .inr rfl, trivial⟩) (fun n => (if_pos g1).trans ((if_neg g2).trans ((if_neg g3).trans ((if_neg g4).trans rfl)))), q.2⟩
  · replace h := zWx h
    have q := hrec8 h rfl
    exact ⟨zR_go 20 (zR_up (ls' := [some (vR 11 (some a0)), some (vL x1), none, some (vL x3), none, some (vL x5), none, some (vI (z32 (x7 + 1))), some (vL y0), none, some (vI (z32 (z_land (z_lushr y0 (z32 (56 - (z32 (8 * (z_and x7 7)))))) 255)))]) q.1 ⟨.inr rfl, .inr rfl, .inr rfl, .inr rfl, .inr rfl, .inr rfl, .inr rfl, .inr rfl, .inl rfl, .inr rfl, .inl rfl, trivial⟩) (fun n => (if_neg g1).trans rfl), q.2⟩
set_option maxRecDepth 20000 in
theorem L_Mo_feed_8 {N d sl : Nat} {sx : Nat → Int} : ∀ {n : Nat} {a0 : Nat} {x1 : Int} {x3 : Int} {x5 : Int} {x7 : Int} {M : ZM} {x : Int} {M' : ZM}, Mo_feed_8 N n a0 x1 x3 x5 x7 M = some (x, M') → mK M = zK0 sl sx → zLI (d + 0) tb_X13_feed 8 [some (vR 11 (some a0)), some (vL x1), none, some (vL x3), none, some (vL x5), none, some (vI x7), none, none, none] [] M x M' (zK0 sl sx) := by
  intro n
  induction n with
  | zero => intros; rename_i h _; cases h
  | succ n ih =>
    intro a0 x1 x3 x5 x7 M x M' h hK
    obtain ⟨I0, L0, ⟨ra0, rb0, rc0, rd0⟩, K0, c0⟩ := M
    obtain rfl : K0 = zK0 sl sx := hK
    rcases zit h with ⟨g1, h⟩ | ⟨g1, h⟩
    · rcases zit h with ⟨g2, h⟩ | ⟨g2, h⟩
      · have q := L_Mo_feed_39 (d := d) ih h rfl
        exact ⟨zR_go 8 q.1 (fun n => (if_pos g1).trans ((if_pos g2).trans rfl)), q.2⟩
      · rcases zit h with ⟨g3, h⟩ | ⟨g3, h⟩
        · have q := L_Mo_feed_39 (d := d) ih h rfl
          exact ⟨zR_go 11 q.1 (fun n => (if_pos g1).trans ((if_neg g2).trans ((if_pos g3).trans rfl))), q.2⟩
        · have q := L_Mo_feed_39 (d := d) ih h rfl
          exact ⟨zR_go 10 q.1 (fun n => (if_pos g1).trans ((if_neg g2).trans ((if_neg g3).trans rfl))), q.2⟩
    · obtain ⟨rfl, rfl⟩ := zrI h
      exact ⟨zR_ret 6 ((if_neg g1).trans rfl), rfl⟩
set_option maxRecDepth 20000 in
theorem L_Mo_feed {N d sl : Nat} {sx : Nat → Int} {a0 : Nat} {x1 : Int} {x2 : Int} {x3 : Int} {M : ZM} {x : Int} {M' : ZM} (h : Mo_feed N a0 x1 x2 x3 M = some (x, M')) (hK : mK M = zK0 sl sx) : zLI (d + 0) tb_X13_feed 0 [some (vR 11 (some a0)), some (vL x1), none, some (vL x2), none, some (vL x3), none, none, none, none, none] [] M x M' (zK0 sl sx) := by
  obtain ⟨I0, L0, ⟨ra0, rb0, rc0, rd0⟩, K0, c0⟩ := M
  obtain rfl : K0 = zK0 sl sx := hK
  replace h := zWx h
  have q := L_Mo_feed_8 (d := d) h rfl
  exact ⟨zR_go 5 q.1 (fun n => rfl), q.2⟩
set_option maxRecDepth 20000 in
theorem L_Mo_signAt {N d sl : Nat} {sx : Nat → Int} {a0 : Nat} {x1 : Int} {M : ZM} {x : Int} {M' : ZM} (h : Mo_signAt N a0 x1 M = some (x, M')) (hK : mK M = zK0 sl sx) : zLI (d + 0) tb_X13_signAt 0 [some (vR 11 (some a0)), some (vI x1)] [] M x M' (zK0 sl sx) := by
  obtain ⟨I0, L0, ⟨ra0, rb0, rc0, rd0⟩, K0, c0⟩ := M
  obtain rfl : K0 = zK0 sl sx := hK
  rcases zit h with ⟨g1, h⟩ | ⟨g1, h⟩
  · obtain ⟨g2, h⟩ := zIx h
    obtain ⟨rfl, rfl⟩ := zrI h
    exact ⟨zR_ret 10 ((if_pos g1).trans ((if_pos g2).trans rfl)), rfl⟩
  · obtain ⟨rfl, rfl⟩ := zrI h
    exact ⟨zR_ret 6 ((if_neg g1).trans rfl), rfl⟩
set_option maxRecDepth 20000 in
theorem L_Mo_nextToken_188 {N d sl : Nat} {sx : Nat → Int} {a0 : Nat} {M : ZM} {M' : ZM} (h : Mo_nextToken_188 N a0 M = some M') (hK : mK M = zK0 sl sx) : zLV (d + 1) tb_X13_nextToken 188 [some (vR 11 (some a0)), none] [] M M' (zK0 sl sx) := by
  obtain ⟨I0, L0, ⟨ra0, rb0, rc0, rd0⟩, K0, c0⟩ := M
  obtain rfl : K0 = zK0 sl sx := hK
  rcases zit h with ⟨g1, h⟩ | ⟨g1, h⟩
  · replace h := zWx h
    obtain rfl := zrV h
    exact ⟨zR_ret 12 ((if_pos g1).trans rfl), rfl⟩
  · replace h := zWx h
    obtain rfl := zrV h
    exact ⟨zR_ret 11 ((if_neg g1).trans rfl), rfl⟩
set_option maxRecDepth 20000 in
theorem L_Mo_nextToken_109 {N d sl : Nat} {sx : Nat → Int} : ∀ {n : Nat} {a0 : Nat} {M : ZM} {M' : ZM}, Mo_nextToken_109 N n a0 M = some M' → mK M = zK0 sl sx → zLV (d + 1) tb_X13_nextToken 109 [some (vR 11 (some a0)), none] [] M M' (zK0 sl sx) := by
  intro n
  induction n with
  | zero => intros; rename_i h _; cases h
  | succ n ih =>
    intro a0 M M' h hK
    obtain ⟨I0, L0, ⟨ra0, rb0, rc0, rd0⟩, K0, c0⟩ := M
    obtain rfl : K0 = zK0 sl sx := hK
    obtain ⟨v101, M101, f101, h⟩ := zBx h
    have q101 := L_Mo_signAt (d := d) f101 rfl
    obtain ⟨I101, L101, ⟨ra101, rb101, rc101, rd101⟩, K101, c101⟩ := M101
    obtain rfl : K101 = zK0 sl sx := q101.2
    suffices w101 : zLV (d + 1) tb_X13_nextToken 117 [some (vR 11 (some a0)), none] [vI v101] (I101, L101, (ra101, rb101, rc101, rd101), zK0 sl sx, c101) M' (zK0 sl sx) from ⟨zR_call (rest := []) 4 q101.1 (fun n => rfl) w101.1, w101.2⟩
    rcases zit h with ⟨g1, h⟩ | ⟨g1, h⟩
    · have q := L_Mo_nextToken_188 (d := d) h rfl
      exact ⟨zR_go 2 q.1 (fun n => (if_pos g1).trans rfl), q.2⟩
    · obtain ⟨v102, M102, f102, h⟩ := zBx h
      have q102 := L_Mo_signAt (d := d) f102 rfl
      obtain ⟨I102, L102, ⟨ra102, rb102, rc102, rd102⟩, K102, c102⟩ := M102
      obtain rfl : K102 = zK0 sl sx := q102.2
      suffices w102 : zLV (d + 1) tb_X13_nextToken 130 [some (vR 11 (some a0)), none] [vI v102] (I102, L102, (ra102, rb102, rc102, rd102), zK0 sl sx, c102) M' (zK0 sl sx) from ⟨zR_call (rest := []) 6 q102.1 (fun n => (if_neg g1).trans rfl) w102.1, w102.2⟩
      rcases zit h with ⟨g2, h⟩ | ⟨g2, h⟩
      · have q := L_Mo_nextToken_188 (d := d) h rfl
        exact ⟨zR_go 2 q.1 (fun n => (if_pos g2).trans rfl), q.2⟩
      · rcases zit h with ⟨g3, h⟩ | ⟨g3, h⟩
        · obtain ⟨v103, M103, f103, h⟩ := zBx h
          have q103 := L_Mo_signAt (d := d) f103 rfl
          obtain ⟨I103, L103, ⟨ra103, rb103, rc103, rd103⟩, K103, c103⟩ := M103
          obtain rfl : K103 = zK0 sl sx := q103.2
          suffices w103 : zLV (d + 1) tb_X13_nextToken 166 [some (vR 11 (some a0)), none] [vI v103, vL (z64 ((mL (I102, L102, (ra102, rb102, rc102, rd102), zK0 sl sx, c102) 11 a0 7) * 27)), vR 11 (some a0)] (I103, L103, (ra103, rb103, rc103, rd103), zK0 sl sx, c103) M' (zK0 sl sx) from ⟨zR_call (rest := [vL (z64 ((mL (I102, L102, (ra102, rb102, rc102, rd102), zK0 sl sx, c102) 11 a0 7) * 27)), vR 11 (some a0)]) 18 q103.1 (fun n => (if_neg g2).trans ((if_pos g3).trans rfl)) w103.1, w103.2⟩
          replace h := zWx h
          replace h := zWx h
          have q := ih h rfl
          exact ⟨zR_go 12 q.1 (fun n => rfl), q.2⟩
        · replace h := zWx h
          have q := ih h rfl
          exact ⟨zR_go 16 q.1 (fun n => (if_neg g2).trans ((if_neg g3).trans rfl)), q.2⟩
set_option maxRecDepth 20000 in
theorem L_Mo_nextToken_299 {N d sl : Nat} {sx : Nat → Int} {a0 : Nat} {M : ZM} {M' : ZM} (h : Mo_nextToken_299 N a0 M = some M') (hK : mK M = zK0 sl sx) : zLV (d + 1) tb_X13_nextToken 299 [some (vR 11 (some a0)), none] [] M M' (zK0 sl sx) := by
  obtain ⟨I0, L0, ⟨ra0, rb0, rc0, rd0⟩, K0, c0⟩ := M
  obtain rfl : K0 = zK0 sl sx := hK
  rcases zit h with ⟨g1, h⟩ | ⟨g1, h⟩
  · replace h := zWx h
    obtain rfl := zrV h
    exact ⟨zR_ret 12 ((if_pos g1).trans rfl), rfl⟩
  · replace h := zWx h
    obtain rfl := zrV h
    exact ⟨zR_ret 11 ((if_neg g1).trans rfl), rfl⟩
set_option maxRecDepth 20000 in
theorem L_Mo_nextToken_224 {N d sl : Nat} {sx : Nat → Int} : ∀ {n : Nat} {a0 : Nat} {M : ZM} {M' : ZM}, Mo_nextToken_224 N n a0 M = some M' → mK M = zK0 sl sx → zLV (d + 1) tb_X13_nextToken 224 [some (vR 11 (some a0)), none] [] M M' (zK0 sl sx) := by
  intro n
  induction n with
  | zero => intros; rename_i h _; cases h
  | succ n ih =>
    intro a0 M M' h hK
    obtain ⟨I0, L0, ⟨ra0, rb0, rc0, rd0⟩, K0, c0⟩ := M
    obtain rfl : K0 = zK0 sl sx := hK
    obtain ⟨v101, M101, f101, h⟩ := zBx h
    have q101 := L_Mo_signAt (d := d) f101 rfl
    obtain ⟨I101, L101, ⟨ra101, rb101, rc101, rd101⟩, K101, c101⟩ := M101
    obtain rfl : K101 = zK0 sl sx := q101.2
    suffices w101 : zLV (d + 1) tb_X13_nextToken 232 [some (vR 11 (some a0)), none] [vI v101] (I101, L101, (ra101, rb101, rc101, rd101), zK0 sl sx, c101) M' (zK0 sl sx) from ⟨zR_call (rest := []) 4 q101.1 (fun n => rfl) w101.1, w101.2⟩
    rcases zit h with ⟨g1, h⟩ | ⟨g1, h⟩
    · have q := L_Mo_nextToken_299 (d := d) h rfl
      exact ⟨zR_go 2 q.1 (fun n => (if_pos g1).trans rfl), q.2⟩
    · obtain ⟨v102, M102, f102, h⟩ := zBx h
      have q102 := L_Mo_signAt (d := d) f102 rfl
      obtain ⟨I102, L102, ⟨ra102, rb102, rc102, rd102⟩, K102, c102⟩ := M102
      obtain rfl : K102 = zK0 sl sx := q102.2
      suffices w102 : zLV (d + 1) tb_X13_nextToken 245 [some (vR 11 (some a0)), none] [vI v102] (I102, L102, (ra102, rb102, rc102, rd102), zK0 sl sx, c102) M' (zK0 sl sx) from ⟨zR_call (rest := []) 6 q102.1 (fun n => (if_neg g1).trans rfl) w102.1, w102.2⟩
      rcases zit h with ⟨g2, h⟩ | ⟨g2, h⟩
      · have q := L_Mo_nextToken_299 (d := d) h rfl
        exact ⟨zR_go 2 q.1 (fun n => (if_pos g2).trans rfl), q.2⟩
      · rcases zit h with ⟨g3, h⟩ | ⟨g3, h⟩
        · obtain ⟨v103, M103, f103, h⟩ := zBx h
          have q103 := L_Mo_signAt (d := d) f103 rfl
          obtain ⟨I103, L103, ⟨ra103, rb103, rc103, rd103⟩, K103, c103⟩ := M103
          obtain rfl : K103 = zK0 sl sx := q103.2
          suffices w103 : zLV (d + 1) tb_X13_nextToken 279 [some (vR 11 (some a0)), none] [vI v103, vI (z32 ((mI (I102, L102, (ra102, rb102, rc102, rd102), zK0 sl sx, c102) 11 a0 8) * 10)), vR 11 (some a0)] (I103, L103, (ra103, rb103, rc103, rd103), zK0 sl sx, c103) M' (zK0 sl sx) from ⟨zR_call (rest := [vI (z32 ((mI (I102, L102, (ra102, rb102, rc102, rd102), zK0 sl sx, c102) 11 a0 8) * 10)), vR 11 (some a0)]) 18 q103.1 (fun n => (if_neg g2).trans ((if_pos g3).trans rfl)) w103.1, w103.2⟩
          replace h := zWx h
          replace h := zWx h
          have q := ih h rfl
          exact ⟨zR_go 11 q.1 (fun n => rfl), q.2⟩
        · replace h := zWx h
          have q := ih h rfl
          exact ⟨zR_go 16 q.1 (fun n => (if_neg g2).trans ((if_neg g3).trans rfl)), q.2⟩
set_option maxRecDepth 20000 in
theorem L_Mo_nextToken_345 {N d sl : Nat} {sx : Nat → Int} {x1 : Int} {b0 : Nat} {M : ZM} {M' : ZM} (h : Mo_nextToken_345 N x1 b0 M = some M') (hK : mK M = zK0 sl sx) : zLV (d + 1) tb_X13_nextToken 345 [none, some (vI x1)] [vR 11 (some b0)] M M' (zK0 sl sx) := by
  obtain ⟨I0, L0, ⟨ra0, rb0, rc0, rd0⟩, K0, c0⟩ := M
  obtain rfl : K0 = zK0 sl sx := hK
  rcases zit h with ⟨g1, h⟩ | ⟨g1, h⟩
  · replace h := zWx h
    obtain rfl := zrV h
    exact ⟨zR_ret 7 ((if_pos g1).trans rfl), rfl⟩
  · rcases zit h with ⟨g2, h⟩ | ⟨g2, h⟩
    · replace h := zWx h
      obtain rfl := zrV h
      exact ⟨zR_ret 9 ((if_neg g1).trans ((if_pos g2).trans rfl)), rfl⟩
    · rcases zit h with ⟨g3, h⟩ | ⟨g3, h⟩
      · replace h := zWx h
        obtain rfl := zrV h
        exact ⟨zR_ret 12 ((if_neg g1).trans ((if_neg g2).trans ((if_pos g3).trans rfl))), rfl⟩
      · replace h := zWx h
        obtain rfl := zrV h
        exact ⟨zR_ret 13 ((if_neg g1).trans ((if_neg g2).trans ((if_neg g3).trans rfl))), rfl⟩
set_option maxRecDepth 20000 in
theorem L_Mo_nextToken_322 {N d sl : Nat} {sx : Nat → Int} {a0 : Nat} {x1 : Int} {M : ZM} {M' : ZM} (h : Mo_nextToken_322 N a0 x1 M = some M') (hK : mK M = zK0 sl sx) : zLV (d + 1) tb_X13_nextToken 322 [some (vR 11 (some a0)), some (vI x1)] [] M M' (zK0 sl sx) := by
  obtain ⟨I0, L0, ⟨ra0, rb0, rc0, rd0⟩, K0, c0⟩ := M
  obtain rfl : K0 = zK0 sl sx := hK
  replace h := zWx h
  rcases zit h with ⟨g1, h⟩ | ⟨g1, h⟩
  · have q := L_Mo_nextToken_345 (d := d) h rfl
    exact ⟨zR_go 10 (zR_up (ls' := [some (vR 11 (some a0)), some (vI x1)]) q.1 ⟨.inl rfl, .inr rfl, trivial⟩) (fun n => (if_pos g1).trans rfl), q.2⟩
  · rcases zit h with ⟨g2, h⟩ | ⟨g2, h⟩
    · have q := L_Mo_nextToken_345 (d := d) h rfl
      exact ⟨zR_go 13 (zR_up (ls' := [some (vR 11 (some a0)), some (vI x1)]) q.1 ⟨.inl rfl, .inr rfl, trivial⟩) (fun n => (if_neg g1).trans ((if_pos g2).trans rfl)), q.2⟩
    · replace h := zWx h
      obtain rfl := zrV h
      exact ⟨zR_ret 17 ((if_neg g1).trans ((if_neg g2).trans rfl)), rfl⟩
set_option maxRecDepth 20000 in
theorem L_Mo_nextToken_52 {N d sl : Nat} {sx : Nat → Int} {a0 : Nat} {M : ZM} {M' : ZM} (h : Mo_nextToken_52 N a0 M = some M') (hK : mK M = zK0 sl sx) : zLV (d + 1) tb_X13_nextToken 52 [some (vR 11 (some a0)), none] [] M M' (zK0 sl sx) := by
  obtain ⟨I0, L0, ⟨ra0, rb0, rc0, rd0⟩, K0, c0⟩ := M
  obtain rfl : K0 = zK0 sl sx := hK
  replace h := zWx h
  replace h := zWx h
  replace h := zWx h
  rcases zit h with ⟨g1, h⟩ | ⟨g1, h⟩
  · replace h := zWx h
    obtain rfl := zrV h
    exact ⟨zR_ret 19 ((if_pos g1).trans rfl), rfl⟩
  · obtain ⟨g2, h⟩ := zIx h
    replace h := zWx h
    rcases zit h with ⟨g3, h⟩ | ⟨g3, h⟩
    · rcases zit h with ⟨g4, h⟩ | ⟨g4, h⟩
      · have q := L_Mo_nextToken_322 (d := d) h rfl
        exact ⟨zR_go 27 q.1 (fun n => (if_neg g1).trans ((if_pos g2).trans ((if_pos g3).trans ((if_pos g4).trans rfl)))), q.2⟩
      · rcases zit h with ⟨g5, h⟩ | ⟨g5, h⟩
        · have q := L_Mo_nextToken_322 (d := d) h rfl
          exact ⟨zR_go 30 q.1 (fun n => (if_neg g1).trans ((if_pos g2).trans ((if_pos g3).trans ((if_neg g4).trans ((if_pos g5).trans rfl))))), q.2⟩
        · have q := L_Mo_nextToken_224 (d := d) h rfl
          exact ⟨zR_go 30 (zR_up (ls' := [some (vR 11 (some a0)), some (vI (mI (pI (pL (pI (I0, L0, (ra0, rb0, rc0, rd0), zK0 sl sx, c0) 11 a0 5 (mI (I0, L0, (ra0, rb0, rc0, rd0), zK0 sl sx, c0) 11 a0 4)) 11 a0 7 0) 11 a0 8 0) 50 a0 (mI (pI (pL (pI (I0, L0, (ra0, rb0, rc0, rd0), zK0 sl sx, c0) 11 a0 5 (mI (I0, L0, (ra0, rb0, rc0, rd0), zK0 sl sx, c0) 11 a0 4)) 11 a0 7 0) 11 a0 8 0) 11 a0 4).toNat))]) q.1 ⟨.inr rfl, .inl rfl, trivial⟩) (fun n => (if_neg g1).trans ((if_pos g2).trans ((if_pos g3).trans ((if_neg g4).trans ((if_neg g5).trans rfl))))), q.2⟩
    · rcases zit h with ⟨g6, h⟩ | ⟨g6, h⟩
      · rcases zit h with ⟨g7, h⟩ | ⟨g7, h⟩
        · have q := L_Mo_nextToken_322 (d := d) h rfl
          exact ⟨zR_go 30 q.1 (fun n => (if_neg g1).trans ((if_pos g2).trans ((if_neg g3).trans ((if_pos g6).trans ((if_pos g7).trans rfl))))), q.2⟩
        · rcases zit h with ⟨g8, h⟩ | ⟨g8, h⟩
          · have q := L_Mo_nextToken_322 (d := d) h rfl
            exact ⟨zR_go 33 q.1 (fun n => (if_neg g1).trans ((if_pos g2).trans ((if_neg g3).trans ((if_pos g6).trans ((if_neg g7).trans ((if_pos g8).trans rfl)))))), q.2⟩
          · have q := L_Mo_nextToken_224 (d := d) h rfl
            exact ⟨zR_go 33 (zR_up (ls' := [some (vR 11 (some a0)), some (vI (mI (pI (pL (pI (I0, L0, (ra0, rb0, rc0, rd0), zK0 sl sx, c0) 11 a0 5 (mI (I0, L0, (ra0, rb0, rc0, rd0), zK0 sl sx, c0) 11 a0 4)) 11 a0 7 0) 11 a0 8 0) 50 a0 (mI (pI (pL (pI (I0, L0, (ra0, rb0, rc0, rd0), zK0 sl sx, c0) 11 a0 5 (mI (I0, L0, (ra0, rb0, rc0, rd0), zK0 sl sx, c0) 11 a0 4)) 11 a0 7 0) 11 a0 8 0) 11 a0 4).toNat))]) q.1 ⟨.inr rfl, .inl rfl, trivial⟩) (fun n => (if_neg g1).trans ((if_pos g2).trans ((if_neg g3).trans ((if_pos g6).trans ((if_neg g7).trans ((if_neg g8).trans rfl)))))), q.2⟩
      · have q := L_Mo_nextToken_109 (d := d) h rfl
        exact ⟨zR_go 27 (zR_up (ls' := [some (vR 11 (some a0)), some (vI (mI (pI (pL (pI (I0, L0, (ra0, rb0, rc0, rd0), zK0 sl sx, c0) 11 a0 5 (mI (I0, L0, (ra0, rb0, rc0, rd0), zK0 sl sx, c0) 11 a0 4)) 11 a0 7 0) 11 a0 8 0) 50 a0 (mI (pI (pL (pI (I0, L0, (ra0, rb0, rc0, rd0), zK0 sl sx, c0) 11 a0 5 (mI (I0, L0, (ra0, rb0, rc0, rd0), zK0 sl sx, c0) 11 a0 4)) 11 a0 7 0) 11 a0 8 0) 11 a0 4).toNat))]) q.1 ⟨.inr rfl, .inl rfl, trivial⟩) (fun n => (if_neg g1).trans ((if_pos g2).trans ((if_neg g3).trans ((if_neg g6).trans rfl)))), q.2⟩
set_option maxRecDepth 20000 in
theorem L_Mo_nextToken_0 {N d sl : Nat} {sx : Nat → Int} : ∀ {n : Nat} {a0 : Nat} {M : ZM} {M' : ZM}, Mo_nextToken_0 N n a0 M = some M' → mK M = zK0 sl sx → zLV (d + 1) tb_X13_nextToken 0 [some (vR 11 (some a0)), none] [] M M' (zK0 sl sx) := by
  intro n
  induction n with
  | zero => intros; rename_i h _; cases h
  | succ n ih =>
    intro a0 M M' h hK
    obtain ⟨I0, L0, ⟨ra0, rb0, rc0, rd0⟩, K0, c0⟩ := M
    obtain rfl : K0 = zK0 sl sx := hK
    rcases zit h with ⟨g1, h⟩ | ⟨g1, h⟩
    · obtain ⟨g2, h⟩ := zIx h
      rcases zit h with ⟨g3, h⟩ | ⟨g3, h⟩
      · replace h := zWx h
        have q := ih h rfl
        exact ⟨zR_go 19 q.1 (fun n => (if_pos g1).trans ((if_pos g2).trans ((if_pos g3).trans rfl))), q.2⟩
      · obtain ⟨g4, h⟩ := zIx h
        rcases zit h with ⟨g5, h⟩ | ⟨g5, h⟩
        · replace h := zWx h
          have q := ih h rfl
          exact ⟨zR_go 26 q.1 (fun n => (if_pos g1).trans ((if_pos g2).trans ((if_neg g3).trans ((if_pos g4).trans ((if_pos g5).trans rfl))))), q.2⟩
        · have q := L_Mo_nextToken_52 (d := d) h rfl
          exact ⟨zR_go 19 q.1 (fun n => (if_pos g1).trans ((if_pos g2).trans ((if_neg g3).trans ((if_pos g4).trans ((if_neg g5).trans rfl))))), q.2⟩
    · have q := L_Mo_nextToken_52 (d := d) h rfl
      exact ⟨zR_go 5 q.1 (fun n => (if_neg g1).trans rfl), q.2⟩
theorem L_Mo_nextToken {N d sl : Nat} {sx : Nat → Int} {a0 : Nat} {M : ZM} {M' : ZM} (h : Mo_nextToken N a0 M = some M') (hK : mK M = zK0 sl sx) : zLV (d + 1) tb_X13_nextToken 0 [some (vR 11 (some a0)), none] [] M M' (zK0 sl sx) := by
  have q := L_Mo_nextToken_0 (d := d) h hK
  exact ⟨q.1, q.2⟩
set_option maxRecDepth 20000 in
theorem L_Mo_isWord {N d sl : Nat} {sx : Nat → Int} {a0 : Nat} {x1 : Int} {M : ZM} {x : Int} {M' : ZM} (h : Mo_isWord N a0 x1 M = some (x, M')) (hK : mK M = zK0 sl sx) : zLI (d + 0) tb_X13_isWord 0 [some (vR 11 (some a0)), some (vL x1), none] [] M x M' (zK0 sl sx) := by
  obtain ⟨I0, L0, ⟨ra0, rb0, rc0, rd0⟩, K0, c0⟩ := M
  obtain rfl : K0 = zK0 sl sx := hK
  rcases zit h with ⟨g1, h⟩ | ⟨g1, h⟩
  · rcases zit h with ⟨g2, h⟩ | ⟨g2, h⟩
    · obtain ⟨rfl, rfl⟩ := zrI h
      exact ⟨zR_ret 12 ((if_pos g1).trans ((if_pos g2).trans rfl)), rfl⟩
    · obtain ⟨rfl, rfl⟩ := zrI h
      exact ⟨zR_ret 11 ((if_pos g1).trans ((if_neg g2).trans rfl)), rfl⟩
  · obtain ⟨rfl, rfl⟩ := zrI h
    exact ⟨zR_ret 6 ((if_neg g1).trans rfl), rfl⟩
set_option maxRecDepth 20000 in
theorem L_Mo_isSign {N d sl : Nat} {sx : Nat → Int} {a0 : Nat} {x1 : Int} {M : ZM} {x : Int} {M' : ZM} (h : Mo_isSign N a0 x1 M = some (x, M')) (hK : mK M = zK0 sl sx) : zLI (d + 0) tb_X13_isSign 0 [some (vR 11 (some a0)), some (vI x1)] [] M x M' (zK0 sl sx) := by
  obtain ⟨I0, L0, ⟨ra0, rb0, rc0, rd0⟩, K0, c0⟩ := M
  obtain rfl : K0 = zK0 sl sx := hK
  rcases zit h with ⟨g1, h⟩ | ⟨g1, h⟩
  · obtain ⟨g2, h⟩ := zIx h
    rcases zit h with ⟨g3, h⟩ | ⟨g3, h⟩
    · obtain ⟨rfl, rfl⟩ := zrI h
      exact ⟨zR_ret 14 ((if_pos g1).trans ((if_pos g2).trans ((if_pos g3).trans rfl))), rfl⟩
    · obtain ⟨rfl, rfl⟩ := zrI h
      exact ⟨zR_ret 13 ((if_pos g1).trans ((if_pos g2).trans ((if_neg g3).trans rfl))), rfl⟩
  · obtain ⟨rfl, rfl⟩ := zrI h
    exact ⟨zR_ret 6 ((if_neg g1).trans rfl), rfl⟩
set_option maxRecDepth 20000 in
theorem L_Mo_fails {N d sl : Nat} {sx : Nat → Int} {a0 : Nat} {x1 : Int} {M : ZM} {x : Int} {M' : ZM} (h : Mo_fails N a0 x1 M = some (x, M')) (hK : mK M = zK0 sl sx) : zLI (d + 0) tb_X13_fails 0 [some (vR 11 (some a0)), some (vI x1)] [] M x M' (zK0 sl sx) := by
  obtain ⟨I0, L0, ⟨ra0, rb0, rc0, rd0⟩, K0, c0⟩ := M
  obtain rfl : K0 = zK0 sl sx := hK
  replace h := zWx h
  obtain ⟨rfl, rfl⟩ := zrI h
  exact ⟨zR_ret 10 (rfl), rfl⟩
set_option maxRecDepth 20000 in
theorem L_Mo_puts {N d sl : Nat} {sx : Nat → Int} {a0 : Nat} {x1 : Int} {M : ZM} {M' : ZM} (h : Mo_puts N a0 x1 M = some M') (hK : mK M = zK0 sl sx) : zLV (d + 0) tb_X13_puts 0 [some (vR 11 (some a0)), some (vI x1)] [] M M' (zK0 sl sx) := by
  obtain ⟨I0, L0, ⟨ra0, rb0, rc0, rd0⟩, K0, c0⟩ := M
  obtain rfl : K0 = zK0 sl sx := hK
  obtain ⟨g1, h⟩ := zIx h
  replace h := zWx h
  replace h := zWx h
  obtain rfl := zrV h
  exact ⟨zR_ret 13 ((if_pos g1).trans rfl), rfl⟩
set_option maxRecDepth 20000 in
theorem L_Mo_fact {N d sl : Nat} {sx : Nat → Int} {a0 : Nat} {M : ZM} {x : Int} {M' : ZM} (h : Mo_fact N a0 M = some (x, M')) (hK : mK M = zK0 sl sx) : zLI (d + 0) tb_X13_fact 0 [some (vR 11 (some a0))] [] M x M' (zK0 sl sx) := by
  obtain ⟨I0, L0, ⟨ra0, rb0, rc0, rd0⟩, K0, c0⟩ := M
  obtain rfl : K0 = zK0 sl sx := hK
  rcases zit h with ⟨g1, h⟩ | ⟨g1, h⟩
  · rcases zit h with ⟨g2, h⟩ | ⟨g2, h⟩
    · obtain ⟨rfl, rfl⟩ := zrI h
      exact ⟨zR_ret 11 ((if_pos g1).trans ((if_pos g2).trans rfl)), rfl⟩
    · rcases zit h with ⟨g3, h⟩ | ⟨g3, h⟩
      · obtain ⟨rfl, rfl⟩ := zrI h
        exact ⟨zR_ret 16 ((if_pos g1).trans ((if_neg g2).trans ((if_pos g3).trans rfl))), rfl⟩
      · rcases zit h with ⟨g4, h⟩ | ⟨g4, h⟩
        · obtain ⟨rfl, rfl⟩ := zrI h
          exact ⟨zR_ret 22 ((if_pos g1).trans ((if_neg g2).trans ((if_neg g3).trans ((if_pos g4).trans rfl)))), rfl⟩
        · rcases zit h with ⟨g5, h⟩ | ⟨g5, h⟩
          · obtain ⟨rfl, rfl⟩ := zrI h
            exact ⟨zR_ret 27 ((if_pos g1).trans ((if_neg g2).trans ((if_neg g3).trans ((if_neg g4).trans ((if_pos g5).trans rfl))))), rfl⟩
          · obtain ⟨rfl, rfl⟩ := zrI h
            exact ⟨zR_ret 26 ((if_pos g1).trans ((if_neg g2).trans ((if_neg g3).trans ((if_neg g4).trans ((if_neg g5).trans rfl))))), rfl⟩
  · obtain ⟨rfl, rfl⟩ := zrI h
    exact ⟨zR_ret 6 ((if_neg g1).trans rfl), rfl⟩
set_option maxRecDepth 20000 in
theorem L_Mo_reads_172 {N d sl : Nat} {sx : Nat → Int} {rec11 : Nat → Int → Int → ZM → Option (Int × ZM)} (hrec11 : ∀ {a0 : Nat} {x1 : Int} {x2 : Int} {M : ZM} {x : Int} {M' : ZM}, rec11 a0 x1 x2 M = some (x, M') → mK M = zK0 sl sx → zLI (d + 2) tb_X13_reads 11 [some (vR 11 (some a0)), some (vI x1), some (vI x2), none, none, none] [] M x M' (zK0 sl sx)) {a0 : Nat} {x1 : Int} {x2 : Int} {M : ZM} {x : Int} {M' : ZM} (h : Mo_reads_172 N rec11 a0 x1 x2 M = some (x, M')) (hK : mK M = zK0 sl sx) : zLI (d + 2) tb_X13_reads 172 [some (vR 11 (some a0)), some (vI x1), some (vI x2), none, none, none] [] M x M' (zK0 sl sx) := by
  obtain ⟨I0, L0, ⟨ra0, rb0, rc0, rd0⟩, K0, c0⟩ := M
  obtain rfl : K0 = zK0 sl sx := hK
  obtain ⟨M101, f101, h⟩ := zBvx h
  have q101 := L_Mo_nextToken (d := d) f101 rfl
  obtain ⟨I101, L101, ⟨ra101, rb101, rc101, rd101⟩, K101, c101⟩ := M101
  obtain rfl : K101 = zK0 sl sx := q101.2
  suffices w101 : zLI (d + 2) tb_X13_reads 176 [some (vR 11 (some a0)), some (vI x1), some (vI x2), none, none, none] [] (I101, L101, (ra101, rb101, rc101, rd101), zK0 sl sx, c101) x M' (zK0 sl sx) from ⟨zR_call (rest := []) 2 q101.1 (fun n => rfl) w101.1, w101.2⟩
  have q := hrec11 h rfl
  exact ⟨zR_go 1 q.1 (fun n => rfl), q.2⟩
set_option maxRecDepth 20000 in
theorem L_Mo_reads_99 {N d sl : Nat} {sx : Nat → Int} {rec11 : Nat → Int → Int → ZM → Option (Int × ZM)} (hrec11 : ∀ {a0 : Nat} {x1 : Int} {x2 : Int} {M : ZM} {x : Int} {M' : ZM}, rec11 a0 x1 x2 M = some (x, M') → mK M = zK0 sl sx → zLI (d + 2) tb_X13_reads 11 [some (vR 11 (some a0)), some (vI x1), some (vI x2), none, none, none] [] M x M' (zK0 sl sx)) {a0 : Nat} {x1 : Int} {x2 : Int} {x4 : Int} {b0 : Nat} {y1 : Int} {M : ZM} {x : Int} {M' : ZM} (h : Mo_reads_99 N rec11 a0 x1 x2 x4 b0 y1 M = some (x, M')) (hK : mK M = zK0 sl sx) : zLI (d + 2) tb_X13_reads 99 [some (vR 11 (some a0)), some (vI x1), some (vI x2), none, some (vI x4), none] [vI y1, vR 11 (some b0)] M x M' (zK0 sl sx) := by
  obtain ⟨I0, L0, ⟨ra0, rb0, rc0, rd0⟩, K0, c0⟩ := M
  obtain rfl : K0 = zK0 sl sx := hK
  obtain ⟨M101, f101, h⟩ := zBvx h
  have q101 := L_Mo_puts (d := (d + 1)) f101 rfl
  obtain ⟨I101, L101, ⟨ra101, rb101, rc101, rd101⟩, K101, c101⟩ := M101
  obtain rfl : K101 = zK0 sl sx := q101.2
  suffices w101 : zLI (d + 2) tb_X13_reads 102 [some (vR 11 (some a0)), some (vI x1), some (vI x2), none, some (vI x4), none] [] (I101, L101, (ra101, rb101, rc101, rd101), zK0 sl sx, c101) x M' (zK0 sl sx) from ⟨zR_call (rest := []) 1 q101.1 (fun n => rfl) w101.1, w101.2⟩
  replace h := zWx h
  rcases zit h with ⟨g1, h⟩ | ⟨g1, h⟩
  · obtain ⟨g2, h⟩ := zIx h
    replace h := zWx h
    obtain ⟨g3, h⟩ := zIx h
    replace h := zWx h
    have q := L_Mo_reads_172 (d := d) hrec11 h rfl
    exact ⟨zR_go 14 (zR_up (ls' := [some (vR 11 (some a0)), some (vI (z32 (x1 + 1))), some (vI x2), none, some (vI x4), none]) q.1 ⟨.inr rfl, .inr rfl, .inr rfl, .inr rfl, .inl rfl, .inr rfl, trivial⟩) (fun n => (if_pos g1).trans ((if_pos g2).trans ((if_pos g3).trans rfl))), q.2⟩
  · obtain ⟨g4, h⟩ := zIx h
    replace h := zWx h
    obtain ⟨g5, h⟩ := zIx h
    replace h := zWx h
    have q := L_Mo_reads_172 (d := d) hrec11 h rfl
    exact ⟨zR_go 15 (zR_up (ls' := [some (vR 11 (some a0)), some (vI (z32 (x1 + 1))), some (vI x2), none, some (vI x4), none]) q.1 ⟨.inr rfl, .inr rfl, .inr rfl, .inr rfl, .inl rfl, .inr rfl, trivial⟩) (fun n => (if_neg g1).trans ((if_pos g4).trans ((if_pos g5).trans rfl))), q.2⟩
set_option maxRecDepth 20000 in
theorem L_Mo_reads_152 {N d sl : Nat} {sx : Nat → Int} {rec11 : Nat → Int → Int → ZM → Option (Int × ZM)} (hrec11 : ∀ {a0 : Nat} {x1 : Int} {x2 : Int} {M : ZM} {x : Int} {M' : ZM}, rec11 a0 x1 x2 M = some (x, M') → mK M = zK0 sl sx → zLI (d + 2) tb_X13_reads 11 [some (vR 11 (some a0)), some (vI x1), some (vI x2), none, none, none] [] M x M' (zK0 sl sx)) : ∀ {n : Nat} {a0 : Nat} {x1 : Int} {x2 : Int} {M : ZM} {x : Int} {M' : ZM}, Mo_reads_152 N rec11 n a0 x1 x2 M = some (x, M') → mK M = zK0 sl sx → zLI (d + 2) tb_X13_reads 152 [some (vR 11 (some a0)), some (vI x1), some (vI x2), none, none, none] [] M x M' (zK0 sl sx) := by
  intro n
  induction n with
  | zero => intros; rename_i h _; cases h
  | succ n ih =>
    intro a0 x1 x2 M x M' h hK
    obtain ⟨I0, L0, ⟨ra0, rb0, rc0, rd0⟩, K0, c0⟩ := M
    obtain rfl : K0 = zK0 sl sx := hK
    rcases zit h with ⟨g1, h⟩ | ⟨g1, h⟩
    · obtain ⟨g2, h⟩ := zIx h
      rcases zit h with ⟨g3, h⟩ | ⟨g3, h⟩
      · replace h := zWx h
        have q := ih h rfl
        exact ⟨zR_go 10 q.1 (fun n => (if_pos g1).trans ((if_pos g2).trans ((if_pos g3).trans rfl))), q.2⟩
      · have q := L_Mo_reads_172 (d := d) hrec11 h rfl
        exact ⟨zR_go 8 q.1 (fun n => (if_pos g1).trans ((if_pos g2).trans ((if_neg g3).trans rfl))), q.2⟩
    · have q := L_Mo_reads_172 (d := d) hrec11 h rfl
      exact ⟨zR_go 2 q.1 (fun n => (if_neg g1).trans rfl), q.2⟩
set_option maxRecDepth 20000 in
theorem L_Mo_reads_147 {N d sl : Nat} {sx : Nat → Int} {rec11 : Nat → Int → Int → ZM → Option (Int × ZM)} (hrec11 : ∀ {a0 : Nat} {x1 : Int} {x2 : Int} {M : ZM} {x : Int} {M' : ZM}, rec11 a0 x1 x2 M = some (x, M') → mK M = zK0 sl sx → zLI (d + 2) tb_X13_reads 11 [some (vR 11 (some a0)), some (vI x1), some (vI x2), none, none, none] [] M x M' (zK0 sl sx)) {a0 : Nat} {x1 : Int} {b0 : Nat} {y1 : Int} {M : ZM} {x : Int} {M' : ZM} (h : Mo_reads_147 N rec11 a0 x1 b0 y1 M = some (x, M')) (hK : mK M = zK0 sl sx) : zLI (d + 2) tb_X13_reads 147 [some (vR 11 (some a0)), some (vI x1), none, none, none, none] [vI y1, vR 11 (some b0)] M x M' (zK0 sl sx) := by
  obtain ⟨I0, L0, ⟨ra0, rb0, rc0, rd0⟩, K0, c0⟩ := M
  obtain rfl : K0 = zK0 sl sx := hK
  obtain ⟨M101, f101, h⟩ := zBvx h
  have q101 := L_Mo_puts (d := (d + 1)) f101 rfl
  obtain ⟨I101, L101, ⟨ra101, rb101, rc101, rd101⟩, K101, c101⟩ := M101
  obtain rfl : K101 = zK0 sl sx := q101.2
  suffices w101 : zLI (d + 2) tb_X13_reads 150 [some (vR 11 (some a0)), some (vI x1), none, none, none, none] [] (I101, L101, (ra101, rb101, rc101, rd101), zK0 sl sx, c101) x M' (zK0 sl sx) from ⟨zR_call (rest := []) 1 q101.1 (fun n => rfl) w101.1, w101.2⟩
  have q := L_Mo_reads_152 (d := d) hrec11 h rfl
  exact ⟨zR_go 2 q.1 (fun n => rfl), q.2⟩
set_option maxRecDepth 20000 in
theorem L_Mo_reads_65 {N d sl : Nat} {sx : Nat → Int} {rec11 : Nat → Int → Int → ZM → Option (Int × ZM)} (hrec11 : ∀ {a0 : Nat} {x1 : Int} {x2 : Int} {M : ZM} {x : Int} {M' : ZM}, rec11 a0 x1 x2 M = some (x, M') → mK M = zK0 sl sx → zLI (d + 2) tb_X13_reads 11 [some (vR 11 (some a0)), some (vI x1), some (vI x2), none, none, none] [] M x M' (zK0 sl sx)) {a0 : Nat} {x1 : Int} {x2 : Int} {x3 : Int} {x4 : Int} {x5 : Int} {M : ZM} {x : Int} {M' : ZM} (h : Mo_reads_65 N rec11 a0 x1 x2 x3 x4 x5 M = some (x, M')) (hK : mK M = zK0 sl sx) : zLI (d + 2) tb_X13_reads 65 [some (vR 11 (some a0)), some (vI x1), some (vI x2), some (vI x3), some (vI x4), some (vI x5)] [] M x M' (zK0 sl sx) := by
  obtain ⟨I0, L0, ⟨ra0, rb0, rc0, rd0⟩, K0, c0⟩ := M
  obtain rfl : K0 = zK0 sl sx := hK
  rcases zit h with ⟨g1, h⟩ | ⟨g1, h⟩
  · obtain ⟨v101, M101, f101, h⟩ := zBx h
    have q101 := L_Mo_fails (d := (d + 1)) f101 rfl
    obtain ⟨I101, L101, ⟨ra101, rb101, rc101, rd101⟩, K101, c101⟩ := M101
    obtain rfl : K101 = zK0 sl sx := q101.2
    suffices w101 : zLI (d + 2) tb_X13_reads 75 [some (vR 11 (some a0)), some (vI x1), some (vI x2), some (vI x3), some (vI x4), some (vI x5)] [vI v101] (I101, L101, (ra101, rb101, rc101, rd101), zK0 sl sx, c101) x M' (zK0 sl sx) from ⟨zR_call (rest := []) 6 q101.1 (fun n => (if_pos g1).trans rfl) w101.1, w101.2⟩
    obtain ⟨rfl, rfl⟩ := zrI h
    exact ⟨zR_ret 1 (rfl), rfl⟩
  · rcases zit h with ⟨g2, h⟩ | ⟨g2, h⟩
    · rcases zit h with ⟨g3, h⟩ | ⟨g3, h⟩
      · rcases zit h with ⟨g4, h⟩ | ⟨g4, h⟩
        · have q := L_Mo_reads_147 (d := d) hrec11 h rfl
          exact ⟨zR_go 12 (zR_up (ls' := [some (vR 11 (some a0)), some (vI x1), some (vI x2), some (vI x3), some (vI x4), some (vI x5)]) q.1 ⟨.inr rfl, .inr rfl, .inl rfl, .inl rfl, .inl rfl, .inl rfl, trivial⟩) (fun n => (if_neg g1).trans ((if_pos g2).trans ((if_pos g3).trans ((if_pos g4).trans rfl)))), q.2⟩
        · have q := L_Mo_reads_147 (d := d) hrec11 h rfl
          exact ⟨zR_go 14 (zR_up (ls' := [some (vR 11 (some a0)), some (vI x1), some (vI x2), some (vI x3), some (vI x4), some (vI x5)]) q.1 ⟨.inr rfl, .inr rfl, .inl rfl, .inl rfl, .inl rfl, .inl rfl, trivial⟩) (fun n => (if_neg g1).trans ((if_pos g2).trans ((if_pos g3).trans ((if_neg g4).trans rfl)))), q.2⟩
      · rcases zit h with ⟨g5, h⟩ | ⟨g5, h⟩
        · have q := L_Mo_reads_99 (d := d) hrec11 h rfl
          exact ⟨zR_go 11 (zR_up (ls' := [some (vR 11 (some a0)), some (vI x1), some (vI x2), some (vI x3), some (vI x4), some (vI x5)]) q.1 ⟨.inr rfl, .inr rfl, .inr rfl, .inl rfl, .inr rfl, .inl rfl, trivial⟩) (fun n => (if_neg g1).trans ((if_pos g2).trans ((if_neg g3).trans ((if_pos g5).trans rfl)))), q.2⟩
        · have q := L_Mo_reads_99 (d := d) hrec11 h rfl
          exact ⟨zR_go 12 (zR_up (ls' := [some (vR 11 (some a0)), some (vI x1), some (vI x2), some (vI x3), some (vI x4), some (vI x5)]) q.1 ⟨.inr rfl, .inr rfl, .inr rfl, .inl rfl, .inr rfl, .inl rfl, trivial⟩) (fun n => (if_neg g1).trans ((if_pos g2).trans ((if_neg g3).trans ((if_neg g5).trans rfl)))), q.2⟩
    · rcases zit h with ⟨g6, h⟩ | ⟨g6, h⟩
      · have q := L_Mo_reads_99 (d := d) hrec11 h rfl
        exact ⟨zR_go 9 (zR_up (ls' := [some (vR 11 (some a0)), some (vI x1), some (vI x2), some (vI x3), some (vI x4), some (vI x5)]) q.1 ⟨.inr rfl, .inr rfl, .inr rfl, .inl rfl, .inr rfl, .inl rfl, trivial⟩) (fun n => (if_neg g1).trans ((if_neg g2).trans ((if_pos g6).trans rfl))), q.2⟩
      · have q := L_Mo_reads_99 (d := d) hrec11 h rfl
        exact ⟨zR_go 10 (zR_up (ls' := [some (vR 11 (some a0)), some (vI x1), some (vI x2), some (vI x3), some (vI x4), some (vI x5)]) q.1 ⟨.inr rfl, .inr rfl, .inr rfl, .inl rfl, .inr rfl, .inl rfl, trivial⟩) (fun n => (if_neg g1).trans ((if_neg g2).trans ((if_neg g6).trans rfl))), q.2⟩
set_option maxRecDepth 20000 in
theorem L_Mo_reads_424 {N d sl : Nat} {sx : Nat → Int} {rec11 : Nat → Int → Int → ZM → Option (Int × ZM)} (hrec11 : ∀ {a0 : Nat} {x1 : Int} {x2 : Int} {M : ZM} {x : Int} {M' : ZM}, rec11 a0 x1 x2 M = some (x, M') → mK M = zK0 sl sx → zLI (d + 2) tb_X13_reads 11 [some (vR 11 (some a0)), some (vI x1), some (vI x2), none, none, none] [] M x M' (zK0 sl sx)) {a0 : Nat} {x1 : Int} {x2 : Int} {M : ZM} {x : Int} {M' : ZM} (h : Mo_reads_424 N rec11 a0 x1 x2 M = some (x, M')) (hK : mK M = zK0 sl sx) : zLI (d + 2) tb_X13_reads 424 [some (vR 11 (some a0)), some (vI x1), some (vI x2), none, none, none] [] M x M' (zK0 sl sx) := by
  obtain ⟨I0, L0, ⟨ra0, rb0, rc0, rd0⟩, K0, c0⟩ := M
  obtain rfl : K0 = zK0 sl sx := hK
  obtain ⟨M101, f101, h⟩ := zBvx h
  have q101 := L_Mo_nextToken (d := d) f101 rfl
  obtain ⟨I101, L101, ⟨ra101, rb101, rc101, rd101⟩, K101, c101⟩ := M101
  obtain rfl : K101 = zK0 sl sx := q101.2
  suffices w101 : zLI (d + 2) tb_X13_reads 428 [some (vR 11 (some a0)), some (vI x1), some (vI x2), none, none, none] [] (I101, L101, (ra101, rb101, rc101, rd101), zK0 sl sx, c101) x M' (zK0 sl sx) from ⟨zR_call (rest := []) 2 q101.1 (fun n => rfl) w101.1, w101.2⟩
  have q := hrec11 h rfl
  exact ⟨zR_go 1 q.1 (fun n => rfl), q.2⟩
set_option maxRecDepth 20000 in
theorem L_Mo_reads_237 {N d sl : Nat} {sx : Nat → Int} {rec11 : Nat → Int → Int → ZM → Option (Int × ZM)} (hrec11 : ∀ {a0 : Nat} {x1 : Int} {x2 : Int} {M : ZM} {x : Int} {M' : ZM}, rec11 a0 x1 x2 M = some (x, M') → mK M = zK0 sl sx → zLI (d + 2) tb_X13_reads 11 [some (vR 11 (some a0)), some (vI x1), some (vI x2), none, none, none] [] M x M' (zK0 sl sx)) {a0 : Nat} {x1 : Int} {b0 : Nat} {y1 : Int} {M : ZM} {x : Int} {M' : ZM} (h : Mo_reads_237 N rec11 a0 x1 b0 y1 M = some (x, M')) (hK : mK M = zK0 sl sx) : zLI (d + 2) tb_X13_reads 237 [some (vR 11 (some a0)), some (vI x1), none, none, none, none] [vI y1, vR 11 (some b0)] M x M' (zK0 sl sx) := by
  obtain ⟨I0, L0, ⟨ra0, rb0, rc0, rd0⟩, K0, c0⟩ := M
  obtain rfl : K0 = zK0 sl sx := hK
  obtain ⟨M101, f101, h⟩ := zBvx h
  have q101 := L_Mo_puts (d := (d + 1)) f101 rfl
  obtain ⟨I101, L101, ⟨ra101, rb101, rc101, rd101⟩, K101, c101⟩ := M101
  obtain rfl : K101 = zK0 sl sx := q101.2
  suffices w101 : zLI (d + 2) tb_X13_reads 240 [some (vR 11 (some a0)), some (vI x1), none, none, none, none] [] (I101, L101, (ra101, rb101, rc101, rd101), zK0 sl sx, c101) x M' (zK0 sl sx) from ⟨zR_call (rest := []) 1 q101.1 (fun n => rfl) w101.1, w101.2⟩
  have q := L_Mo_reads_424 (d := d) hrec11 h rfl
  exact ⟨zR_go 3 q.1 (fun n => rfl), q.2⟩
set_option maxRecDepth 20000 in
theorem L_Mo_reads_206 {N d sl : Nat} {sx : Nat → Int} {rec11 : Nat → Int → Int → ZM → Option (Int × ZM)} (hrec11 : ∀ {a0 : Nat} {x1 : Int} {x2 : Int} {M : ZM} {x : Int} {M' : ZM}, rec11 a0 x1 x2 M = some (x, M') → mK M = zK0 sl sx → zLI (d + 2) tb_X13_reads 11 [some (vR 11 (some a0)), some (vI x1), some (vI x2), none, none, none] [] M x M' (zK0 sl sx)) {a0 : Nat} {x1 : Int} {M : ZM} {x : Int} {M' : ZM} (h : Mo_reads_206 N rec11 a0 x1 M = some (x, M')) (hK : mK M = zK0 sl sx) : zLI (d + 2) tb_X13_reads 206 [some (vR 11 (some a0)), some (vI x1), none, none, none, none] [] M x M' (zK0 sl sx) := by
  obtain ⟨I0, L0, ⟨ra0, rb0, rc0, rd0⟩, K0, c0⟩ := M
  obtain rfl : K0 = zK0 sl sx := hK
  obtain ⟨v101, M101, f101, h⟩ := zBx h
  have q101 := L_Mo_isSign (d := (d + 1)) f101 rfl
  obtain ⟨I101, L101, ⟨ra101, rb101, rc101, rd101⟩, K101, c101⟩ := M101
  obtain rfl : K101 = zK0 sl sx := q101.2
  suffices w101 : zLI (d + 2) tb_X13_reads 213 [some (vR 11 (some a0)), some (vI x1), none, none, none, none] [vI v101, vR 11 (some a0)] (I101, L101, (ra101, rb101, rc101, rd101), zK0 sl sx, c101) x M' (zK0 sl sx) from ⟨zR_call (rest := [vR 11 (some a0)]) 4 q101.1 (fun n => rfl) w101.1, w101.2⟩
  rcases zit h with ⟨g1, h⟩ | ⟨g1, h⟩
  · obtain ⟨v102, M102, f102, h⟩ := zBx h
    have q102 := L_Mo_isSign (d := (d + 1)) f102 rfl
    obtain ⟨I102, L102, ⟨ra102, rb102, rc102, rd102⟩, K102, c102⟩ := M102
    obtain rfl : K102 = zK0 sl sx := q102.2
    suffices w102 : zLI (d + 2) tb_X13_reads 227 [some (vR 11 (some a0)), some (vI x1), none, none, none, none] [vI v102, vR 11 (some a0)] (I102, L102, (ra102, rb102, rc102, rd102), zK0 sl sx, c102) x M' (zK0 sl sx) from ⟨zR_call (rest := [vR 11 (some a0)]) 4 q102.1 (fun n => (if_pos g1).trans rfl) w102.1, w102.2⟩
    rcases zit h with ⟨g2, h⟩ | ⟨g2, h⟩
    · have q := L_Mo_reads_237 (d := d) hrec11 h rfl
      exact ⟨zR_go 2 q.1 (fun n => (if_pos g2).trans rfl), q.2⟩
    · have q := L_Mo_reads_237 (d := d) hrec11 h rfl
      exact ⟨zR_go 3 q.1 (fun n => (if_neg g2).trans rfl), q.2⟩
  · have q := L_Mo_reads_237 (d := d) hrec11 h rfl
    exact ⟨zR_go 3 q.1 (fun n => (if_neg g1).trans rfl), q.2⟩
set_option maxRecDepth 20000 in
theorem L_Mo_reads_289 {N d sl : Nat} {sx : Nat → Int} {rec11 : Nat → Int → Int → ZM → Option (Int × ZM)} (hrec11 : ∀ {a0 : Nat} {x1 : Int} {x2 : Int} {M : ZM} {x : Int} {M' : ZM}, rec11 a0 x1 x2 M = some (x, M') → mK M = zK0 sl sx → zLI (d + 2) tb_X13_reads 11 [some (vR 11 (some a0)), some (vI x1), some (vI x2), none, none, none] [] M x M' (zK0 sl sx)) {a0 : Nat} {x1 : Int} {b0 : Nat} {y1 : Int} {M : ZM} {x : Int} {M' : ZM} (h : Mo_reads_289 N rec11 a0 x1 b0 y1 M = some (x, M')) (hK : mK M = zK0 sl sx) : zLI (d + 2) tb_X13_reads 289 [some (vR 11 (some a0)), some (vI x1), none, none, none, none] [vI y1, vR 11 (some b0)] M x M' (zK0 sl sx) := by
  obtain ⟨I0, L0, ⟨ra0, rb0, rc0, rd0⟩, K0, c0⟩ := M
  obtain rfl : K0 = zK0 sl sx := hK
  obtain ⟨M101, f101, h⟩ := zBvx h
  have q101 := L_Mo_puts (d := (d + 1)) f101 rfl
  obtain ⟨I101, L101, ⟨ra101, rb101, rc101, rd101⟩, K101, c101⟩ := M101
  obtain rfl : K101 = zK0 sl sx := q101.2
  suffices w101 : zLI (d + 2) tb_X13_reads 292 [some (vR 11 (some a0)), some (vI x1), none, none, none, none] [] (I101, L101, (ra101, rb101, rc101, rd101), zK0 sl sx, c101) x M' (zK0 sl sx) from ⟨zR_call (rest := []) 1 q101.1 (fun n => rfl) w101.1, w101.2⟩
  obtain ⟨g1, h⟩ := zIx h
  replace h := zWx h
  have q := L_Mo_reads_424 (d := d) hrec11 h rfl
  exact ⟨zR_go 8 q.1 (fun n => (if_pos g1).trans rfl), q.2⟩
set_option maxRecDepth 20000 in
theorem L_Mo_reads_342 {N d sl : Nat} {sx : Nat → Int} {rec11 : Nat → Int → Int → ZM → Option (Int × ZM)} (hrec11 : ∀ {a0 : Nat} {x1 : Int} {x2 : Int} {M : ZM} {x : Int} {M' : ZM}, rec11 a0 x1 x2 M = some (x, M') → mK M = zK0 sl sx → zLI (d + 2) tb_X13_reads 11 [some (vR 11 (some a0)), some (vI x1), some (vI x2), none, none, none] [] M x M' (zK0 sl sx)) {a0 : Nat} {x1 : Int} {b0 : Nat} {y1 : Int} {M : ZM} {x : Int} {M' : ZM} (h : Mo_reads_342 N rec11 a0 x1 b0 y1 M = some (x, M')) (hK : mK M = zK0 sl sx) : zLI (d + 2) tb_X13_reads 342 [some (vR 11 (some a0)), some (vI x1), none, none, none, none] [vI y1, vR 11 (some b0)] M x M' (zK0 sl sx) := by
  obtain ⟨I0, L0, ⟨ra0, rb0, rc0, rd0⟩, K0, c0⟩ := M
  obtain rfl : K0 = zK0 sl sx := hK
  obtain ⟨M101, f101, h⟩ := zBvx h
  have q101 := L_Mo_puts (d := (d + 1)) f101 rfl
  obtain ⟨I101, L101, ⟨ra101, rb101, rc101, rd101⟩, K101, c101⟩ := M101
  obtain rfl : K101 = zK0 sl sx := q101.2
  suffices w101 : zLI (d + 2) tb_X13_reads 345 [some (vR 11 (some a0)), some (vI x1), none, none, none, none] [] (I101, L101, (ra101, rb101, rc101, rd101), zK0 sl sx, c101) x M' (zK0 sl sx) from ⟨zR_call (rest := []) 1 q101.1 (fun n => rfl) w101.1, w101.2⟩
  obtain ⟨g1, h⟩ := zIx h
  replace h := zWx h
  have q := L_Mo_reads_424 (d := d) hrec11 h rfl
  exact ⟨zR_go 8 q.1 (fun n => (if_pos g1).trans rfl), q.2⟩
set_option maxRecDepth 20000 in
theorem L_Mo_reads_324 {N d sl : Nat} {sx : Nat → Int} {rec11 : Nat → Int → Int → ZM → Option (Int × ZM)} (hrec11 : ∀ {a0 : Nat} {x1 : Int} {x2 : Int} {M : ZM} {x : Int} {M' : ZM}, rec11 a0 x1 x2 M = some (x, M') → mK M = zK0 sl sx → zLI (d + 2) tb_X13_reads 11 [some (vR 11 (some a0)), some (vI x1), some (vI x2), none, none, none] [] M x M' (zK0 sl sx)) {a0 : Nat} {x1 : Int} {M : ZM} {x : Int} {M' : ZM} (h : Mo_reads_324 N rec11 a0 x1 M = some (x, M')) (hK : mK M = zK0 sl sx) : zLI (d + 2) tb_X13_reads 324 [some (vR 11 (some a0)), some (vI x1), none, none, none, none] [] M x M' (zK0 sl sx) := by
  obtain ⟨I0, L0, ⟨ra0, rb0, rc0, rd0⟩, K0, c0⟩ := M
  obtain rfl : K0 = zK0 sl sx := hK
  obtain ⟨v101, M101, f101, h⟩ := zBx h
  have q101 := L_Mo_isWord (d := (d + 1)) f101 rfl
  obtain ⟨I101, L101, ⟨ra101, rb101, rc101, rd101⟩, K101, c101⟩ := M101
  obtain rfl : K101 = zK0 sl sx := q101.2
  suffices w101 : zLI (d + 2) tb_X13_reads 332 [some (vR 11 (some a0)), some (vI x1), none, none, none, none] [vI v101, vR 11 (some a0)] (I101, L101, (ra101, rb101, rc101, rd101), zK0 sl sx, c101) x M' (zK0 sl sx) from ⟨zR_call (rest := [vR 11 (some a0)]) 4 q101.1 (fun n => rfl) w101.1, w101.2⟩
  rcases zit h with ⟨g1, h⟩ | ⟨g1, h⟩
  · have q := L_Mo_reads_342 (d := d) hrec11 h rfl
    exact ⟨zR_go 2 q.1 (fun n => (if_pos g1).trans rfl), q.2⟩
  · have q := L_Mo_reads_342 (d := d) hrec11 h rfl
    exact ⟨zR_go 3 q.1 (fun n => (if_neg g1).trans rfl), q.2⟩
set_option maxRecDepth 20000 in
theorem L_Mo_reads_379 {N d sl : Nat} {sx : Nat → Int} {rec11 : Nat → Int → Int → ZM → Option (Int × ZM)} (hrec11 : ∀ {a0 : Nat} {x1 : Int} {x2 : Int} {M : ZM} {x : Int} {M' : ZM}, rec11 a0 x1 x2 M = some (x, M') → mK M = zK0 sl sx → zLI (d + 2) tb_X13_reads 11 [some (vR 11 (some a0)), some (vI x1), some (vI x2), none, none, none] [] M x M' (zK0 sl sx)) : ∀ {n : Nat} {a0 : Nat} {x1 : Int} {x2 : Int} {M : ZM} {x : Int} {M' : ZM}, Mo_reads_379 N rec11 n a0 x1 x2 M = some (x, M') → mK M = zK0 sl sx → zLI (d + 2) tb_X13_reads 379 [some (vR 11 (some a0)), some (vI x1), some (vI x2), none, none, none] [] M x M' (zK0 sl sx) := by
  intro n
  induction n with
  | zero => intros; rename_i h _; cases h
  | succ n ih =>
    intro a0 x1 x2 M x M' h hK
    obtain ⟨I0, L0, ⟨ra0, rb0, rc0, rd0⟩, K0, c0⟩ := M
    obtain rfl : K0 = zK0 sl sx := hK
    rcases zit h with ⟨g1, h⟩ | ⟨g1, h⟩
    · obtain ⟨g2, h⟩ := zIx h
      rcases zit h with ⟨g3, h⟩ | ⟨g3, h⟩
      · replace h := zWx h
        have q := ih h rfl
        exact ⟨zR_go 10 q.1 (fun n => (if_pos g1).trans ((if_pos g2).trans ((if_pos g3).trans rfl))), q.2⟩
      · have q := L_Mo_reads_424 (d := d) hrec11 h rfl
        exact ⟨zR_go 8 q.1 (fun n => (if_pos g1).trans ((if_pos g2).trans ((if_neg g3).trans rfl))), q.2⟩
    · have q := L_Mo_reads_424 (d := d) hrec11 h rfl
      exact ⟨zR_go 2 q.1 (fun n => (if_neg g1).trans rfl), q.2⟩
set_option maxRecDepth 20000 in
theorem L_Mo_reads_418 {N d sl : Nat} {sx : Nat → Int} {a0 : Nat} {M : ZM} {x : Int} {M' : ZM} (h : Mo_reads_418 N a0 M = some (x, M')) (hK : mK M = zK0 sl sx) : zLI (d + 2) tb_X13_reads 418 [some (vR 11 (some a0)), none, none, none, none, none] [] M x M' (zK0 sl sx) := by
  obtain ⟨I0, L0, ⟨ra0, rb0, rc0, rd0⟩, K0, c0⟩ := M
  obtain rfl : K0 = zK0 sl sx := hK
  obtain ⟨v101, M101, f101, h⟩ := zBx h
  have q101 := L_Mo_fails (d := (d + 1)) f101 rfl
  obtain ⟨I101, L101, ⟨ra101, rb101, rc101, rd101⟩, K101, c101⟩ := M101
  obtain rfl : K101 = zK0 sl sx := q101.2
  suffices w101 : zLI (d + 2) tb_X13_reads 423 [some (vR 11 (some a0)), none, none, none, none, none] [vI v101] (I101, L101, (ra101, rb101, rc101, rd101), zK0 sl sx, c101) x M' (zK0 sl sx) from ⟨zR_call (rest := []) 3 q101.1 (fun n => rfl) w101.1, w101.2⟩
  obtain ⟨rfl, rfl⟩ := zrI h
  exact ⟨zR_ret 1 (rfl), rfl⟩
set_option maxRecDepth 20000 in
theorem L_Mo_reads_399 {N d sl : Nat} {sx : Nat → Int} {a0 : Nat} {x1 : Int} {M : ZM} {x : Int} {M' : ZM} (h : Mo_reads_399 N a0 x1 M = some (x, M')) (hK : mK M = zK0 sl sx) : zLI (d + 2) tb_X13_reads 399 [some (vR 11 (some a0)), some (vI x1), none, none, none, none] [] M x M' (zK0 sl sx) := by
  obtain ⟨I0, L0, ⟨ra0, rb0, rc0, rd0⟩, K0, c0⟩ := M
  obtain rfl : K0 = zK0 sl sx := hK
  rcases zit h with ⟨g1, h⟩ | ⟨g1, h⟩
  · obtain ⟨v101, M101, f101, h⟩ := zBx h
    have q101 := L_Mo_isSign (d := (d + 1)) f101 rfl
    obtain ⟨I101, L101, ⟨ra101, rb101, rc101, rd101⟩, K101, c101⟩ := M101
    obtain rfl : K101 = zK0 sl sx := q101.2
    suffices w101 : zLI (d + 2) tb_X13_reads 409 [some (vR 11 (some a0)), some (vI x1), none, none, none, none] [vI v101] (I101, L101, (ra101, rb101, rc101, rd101), zK0 sl sx, c101) x M' (zK0 sl sx) from ⟨zR_call (rest := []) 5 q101.1 (fun n => (if_pos g1).trans rfl) w101.1, w101.2⟩
    rcases zit h with ⟨g2, h⟩ | ⟨g2, h⟩
    · have q := L_Mo_reads_418 (d := d) h rfl
      exact ⟨zR_go 1 (zR_up (ls' := [some (vR 11 (some a0)), some (vI x1), none, none, none, none]) q.1 ⟨.inr rfl, .inl rfl, .inr rfl, .inr rfl, .inr rfl, .inr rfl, trivial⟩) (fun n => (if_pos g2).trans rfl), q.2⟩
    · obtain ⟨M102, f102, h⟩ := zBvx h
      have q102 := L_Mo_nextToken (d := d) f102 rfl
      obtain ⟨I102, L102, ⟨ra102, rb102, rc102, rd102⟩, K102, c102⟩ := M102
      obtain rfl : K102 = zK0 sl sx := q102.2
      suffices w102 : zLI (d + 2) tb_X13_reads 416 [some (vR 11 (some a0)), some (vI x1), none, none, none, none] [] (I102, L102, (ra102, rb102, rc102, rd102), zK0 sl sx, c102) x M' (zK0 sl sx) from ⟨zR_call (rest := []) 3 q102.1 (fun n => (if_neg g2).trans rfl) w102.1, w102.2⟩
      obtain ⟨rfl, rfl⟩ := zrI h
      exact ⟨zR_ret 2 (rfl), rfl⟩
  · have q := L_Mo_reads_418 (d := d) h rfl
    exact ⟨zR_go 2 (zR_up (ls' := [some (vR 11 (some a0)), some (vI x1), none, none, none, none]) q.1 ⟨.inr rfl, .inl rfl, .inr rfl, .inr rfl, .inr rfl, .inr rfl, trivial⟩) (fun n => (if_neg g1).trans rfl), q.2⟩
set_option maxRecDepth 20000 in
theorem L_Mo_reads_304 {N d sl : Nat} {sx : Nat → Int} {rec11 : Nat → Int → Int → ZM → Option (Int × ZM)} (hrec11 : ∀ {a0 : Nat} {x1 : Int} {x2 : Int} {M : ZM} {x : Int} {M' : ZM}, rec11 a0 x1 x2 M = some (x, M') → mK M = zK0 sl sx → zLI (d + 2) tb_X13_reads 11 [some (vR 11 (some a0)), some (vI x1), some (vI x2), none, none, none] [] M x M' (zK0 sl sx)) {a0 : Nat} {x1 : Int} {x2 : Int} {M : ZM} {x : Int} {M' : ZM} (h : Mo_reads_304 N rec11 a0 x1 x2 M = some (x, M')) (hK : mK M = zK0 sl sx) : zLI (d + 2) tb_X13_reads 304 [some (vR 11 (some a0)), some (vI x1), some (vI x2), none, none, none] [] M x M' (zK0 sl sx) := by
  obtain ⟨I0, L0, ⟨ra0, rb0, rc0, rd0⟩, K0, c0⟩ := M
  obtain rfl : K0 = zK0 sl sx := hK
  obtain ⟨v101, M101, f101, h⟩ := zBx h
  have q101 := L_Mo_isWord (d := (d + 1)) f101 rfl
  obtain ⟨I101, L101, ⟨ra101, rb101, rc101, rd101⟩, K101, c101⟩ := M101
  obtain rfl : K101 = zK0 sl sx := q101.2
  suffices w101 : zLI (d + 2) tb_X13_reads 311 [some (vR 11 (some a0)), some (vI x1), some (vI x2), none, none, none] [vI v101] (I101, L101, (ra101, rb101, rc101, rd101), zK0 sl sx, c101) x M' (zK0 sl sx) from ⟨zR_call (rest := []) 3 q101.1 (fun n => rfl) w101.1, w101.2⟩
  rcases zit h with ⟨g1, h⟩ | ⟨g1, h⟩
  · obtain ⟨v102, M102, f102, h⟩ := zBx h
    have q102 := L_Mo_isWord (d := (d + 1)) f102 rfl
    obtain ⟨I102, L102, ⟨ra102, rb102, rc102, rd102⟩, K102, c102⟩ := M102
    obtain rfl : K102 = zK0 sl sx := q102.2
    suffices w102 : zLI (d + 2) tb_X13_reads 321 [some (vR 11 (some a0)), some (vI x1), some (vI x2), none, none, none] [vI v102] (I102, L102, (ra102, rb102, rc102, rd102), zK0 sl sx, c102) x M' (zK0 sl sx) from ⟨zR_call (rest := []) 4 q102.1 (fun n => (if_pos g1).trans rfl) w102.1, w102.2⟩
    rcases zit h with ⟨g2, h⟩ | ⟨g2, h⟩
    · obtain ⟨v103, M103, f103, h⟩ := zBx h
      have q103 := L_Mo_isSign (d := (d + 1)) f103 rfl
      obtain ⟨I103, L103, ⟨ra103, rb103, rc103, rd103⟩, K103, c103⟩ := M103
      obtain rfl : K103 = zK0 sl sx := q103.2
      suffices w103 : zLI (d + 2) tb_X13_reads 363 [some (vR 11 (some a0)), some (vI x1), some (vI x2), none, none, none] [vI v103] (I103, L103, (ra103, rb103, rc103, rd103), zK0 sl sx, c103) x M' (zK0 sl sx) from ⟨zR_call (rest := []) 4 q103.1 (fun n => (if_pos g2).trans rfl) w103.1, w103.2⟩
      rcases zit h with ⟨g3, h⟩ | ⟨g3, h⟩
      · have q := L_Mo_reads_399 (d := d) h rfl
        exact ⟨zR_go 1 (zR_up (ls' := [some (vR 11 (some a0)), some (vI x1), some (vI x2), none, none, none]) q.1 ⟨.inr rfl, .inr rfl, .inl rfl, .inr rfl, .inr rfl, .inr rfl, trivial⟩) (fun n => (if_pos g3).trans rfl), q.2⟩
      · rcases zit h with ⟨g4, h⟩ | ⟨g4, h⟩
        · obtain ⟨M104, f104, h⟩ := zBvx h
          have q104 := L_Mo_puts (d := (d + 1)) f104 rfl
          obtain ⟨I104, L104, ⟨ra104, rb104, rc104, rd104⟩, K104, c104⟩ := M104
          obtain rfl : K104 = zK0 sl sx := q104.2
          suffices w104 : zLI (d + 2) tb_X13_reads 376 [some (vR 11 (some a0)), some (vI x1), some (vI x2), none, none, none] [] (I104, L104, (ra104, rb104, rc104, rd104), zK0 sl sx, c104) x M' (zK0 sl sx) from ⟨zR_call (rest := []) 6 q104.1 (fun n => (if_neg g3).trans ((if_pos g4).trans rfl)) w104.1, w104.2⟩
          replace h := zWx h
          have q := L_Mo_reads_379 (d := d) hrec11 h rfl
          exact ⟨zR_go 1 q.1 (fun n => rfl), q.2⟩
        · have q := L_Mo_reads_399 (d := d) h rfl
          exact ⟨zR_go 3 (zR_up (ls' := [some (vR 11 (some a0)), some (vI x1), some (vI x2), none, none, none]) q.1 ⟨.inr rfl, .inr rfl, .inl rfl, .inr rfl, .inr rfl, .inr rfl, trivial⟩) (fun n => (if_neg g3).trans ((if_neg g4).trans rfl)), q.2⟩
    · have q := L_Mo_reads_324 (d := d) hrec11 h rfl
      exact ⟨zR_go 1 (zR_up (ls' := [some (vR 11 (some a0)), some (vI x1), some (vI x2), none, none, none]) q.1 ⟨.inr rfl, .inr rfl, .inl rfl, .inr rfl, .inr rfl, .inr rfl, trivial⟩) (fun n => (if_neg g2).trans rfl), q.2⟩
  · have q := L_Mo_reads_324 (d := d) hrec11 h rfl
    exact ⟨zR_go 1 (zR_up (ls' := [some (vR 11 (some a0)), some (vI x1), some (vI x2), none, none, none]) q.1 ⟨.inr rfl, .inr rfl, .inl rfl, .inr rfl, .inr rfl, .inr rfl, trivial⟩) (fun n => (if_neg g1).trans rfl), q.2⟩
set_option maxRecDepth 20000 in
theorem L_Mo_reads_263 {N d sl : Nat} {sx : Nat → Int} {rec11 : Nat → Int → Int → ZM → Option (Int × ZM)} (hrec11 : ∀ {a0 : Nat} {x1 : Int} {x2 : Int} {M : ZM} {x : Int} {M' : ZM}, rec11 a0 x1 x2 M = some (x, M') → mK M = zK0 sl sx → zLI (d + 2) tb_X13_reads 11 [some (vR 11 (some a0)), some (vI x1), some (vI x2), none, none, none] [] M x M' (zK0 sl sx)) {a0 : Nat} {x1 : Int} {x2 : Int} {M : ZM} {x : Int} {M' : ZM} (h : Mo_reads_263 N rec11 a0 x1 x2 M = some (x, M')) (hK : mK M = zK0 sl sx) : zLI (d + 2) tb_X13_reads 263 [some (vR 11 (some a0)), some (vI x1), some (vI x2), none, none, none] [] M x M' (zK0 sl sx) := by
  obtain ⟨I0, L0, ⟨ra0, rb0, rc0, rd0⟩, K0, c0⟩ := M
  obtain rfl : K0 = zK0 sl sx := hK
  obtain ⟨g1, h⟩ := zIx h
  rcases zit h with ⟨g2, h⟩ | ⟨g2, h⟩
  · obtain ⟨v101, M101, f101, h⟩ := zBx h
    have q101 := L_Mo_isSign (d := (d + 1)) f101 rfl
    obtain ⟨I101, L101, ⟨ra101, rb101, rc101, rd101⟩, K101, c101⟩ := M101
    obtain rfl : K101 = zK0 sl sx := q101.2
    suffices w101 : zLI (d + 2) tb_X13_reads 279 [some (vR 11 (some a0)), some (vI x1), some (vI x2), none, none, none] [vI v101, vR 11 (some a0)] (I101, L101, (ra101, rb101, rc101, rd101), zK0 sl sx, c101) x M' (zK0 sl sx) from ⟨zR_call (rest := [vR 11 (some a0)]) 9 q101.1 (fun n => (if_pos g1).trans ((if_pos g2).trans rfl)) w101.1, w101.2⟩
    rcases zit h with ⟨g3, h⟩ | ⟨g3, h⟩
    · have q := L_Mo_reads_289 (d := d) hrec11 h rfl
      exact ⟨zR_go 2 (zR_up (ls' := [some (vR 11 (some a0)), some (vI x1), some (vI x2), none, none, none]) q.1 ⟨.inr rfl, .inr rfl, .inl rfl, .inr rfl, .inr rfl, .inr rfl, trivial⟩) (fun n => (if_pos g3).trans rfl), q.2⟩
    · have q := L_Mo_reads_289 (d := d) hrec11 h rfl
      exact ⟨zR_go 3 (zR_up (ls' := [some (vR 11 (some a0)), some (vI x1), some (vI x2), none, none, none]) q.1 ⟨.inr rfl, .inr rfl, .inl rfl, .inr rfl, .inr rfl, .inr rfl, trivial⟩) (fun n => (if_neg g3).trans rfl), q.2⟩
  · have q := L_Mo_reads_304 (d := d) hrec11 h rfl
    exact ⟨zR_go 5 q.1 (fun n => (if_pos g1).trans ((if_neg g2).trans rfl)), q.2⟩
set_option maxRecDepth 20000 in
theorem L_Mo_reads_11 {N d sl : Nat} {sx : Nat → Int} : ∀ {n : Nat} {a0 : Nat} {x1 : Int} {x2 : Int} {M : ZM} {x : Int} {M' : ZM}, Mo_reads_11 N n a0 x1 x2 M = some (x, M') → mK M = zK0 sl sx → zLI (d + 2) tb_X13_reads 11 [some (vR 11 (some a0)), some (vI x1), some (vI x2), none, none, none] [] M x M' (zK0 sl sx) := by
  intro n
  induction n with
  | zero => intros; rename_i h _; cases h
  | succ n ih =>
    intro a0 x1 x2 M x M' h hK
    obtain ⟨I0, L0, ⟨ra0, rb0, rc0, rd0⟩, K0, c0⟩ := M
    obtain rfl : K0 = zK0 sl sx := hK
    rcases zit h with ⟨g1, h⟩ | ⟨g1, h⟩
    · obtain ⟨v101, M101, f101, h⟩ := zBx h
      have q101 := L_Mo_isSign (d := (d + 1)) f101 rfl
      obtain ⟨I101, L101, ⟨ra101, rb101, rc101, rd101⟩, K101, c101⟩ := M101
      obtain rfl : K101 = zK0 sl sx := q101.2
      suffices w101 : zLI (d + 2) tb_X13_reads 185 [some (vR 11 (some a0)), some (vI x1), some (vI x2), none, none, none] [vI v101] (I101, L101, (ra101, rb101, rc101, rd101), zK0 sl sx, c101) x M' (zK0 sl sx) from ⟨zR_call (rest := []) 5 q101.1 (fun n => (if_pos g1).trans rfl) w101.1, w101.2⟩
      rcases zit h with ⟨g2, h⟩ | ⟨g2, h⟩
      · obtain ⟨v102, M102, f102, h⟩ := zBx h
        have q102 := L_Mo_isSign (d := (d + 1)) f102 rfl
        obtain ⟨I102, L102, ⟨ra102, rb102, rc102, rd102⟩, K102, c102⟩ := M102
        obtain rfl : K102 = zK0 sl sx := q102.2
        suffices w102 : zLI (d + 2) tb_X13_reads 194 [some (vR 11 (some a0)), some (vI x1), some (vI x2), none, none, none] [vI v102] (I102, L102, (ra102, rb102, rc102, rd102), zK0 sl sx, c102) x M' (zK0 sl sx) from ⟨zR_call (rest := []) 4 q102.1 (fun n => (if_pos g2).trans rfl) w102.1, w102.2⟩
        rcases zit h with ⟨g3, h⟩ | ⟨g3, h⟩
        · obtain ⟨v103, M103, f103, h⟩ := zBx h
          have q103 := L_Mo_isSign (d := (d + 1)) f103 rfl
          obtain ⟨I103, L103, ⟨ra103, rb103, rc103, rd103⟩, K103, c103⟩ := M103
          obtain rfl : K103 = zK0 sl sx := q103.2
          suffices w103 : zLI (d + 2) tb_X13_reads 203 [some (vR 11 (some a0)), some (vI x1), some (vI x2), none, none, none] [vI v103] (I103, L103, (ra103, rb103, rc103, rd103), zK0 sl sx, c103) x M' (zK0 sl sx) from ⟨zR_call (rest := []) 4 q103.1 (fun n => (if_pos g3).trans rfl) w103.1, w103.2⟩
          rcases zit h with ⟨g4, h⟩ | ⟨g4, h⟩
          · obtain ⟨v104, M104, f104, h⟩ := zBx h
            have q104 := L_Mo_isSign (d := (d + 1)) f104 rfl
            obtain ⟨I104, L104, ⟨ra104, rb104, rc104, rd104⟩, K104, c104⟩ := M104
            obtain rfl : K104 = zK0 sl sx := q104.2
            suffices w104 : zLI (d + 2) tb_X13_reads 251 [some (vR 11 (some a0)), some (vI x1), some (vI x2), none, none, none] [vI v104] (I104, L104, (ra104, rb104, rc104, rd104), zK0 sl sx, c104) x M' (zK0 sl sx) from ⟨zR_call (rest := []) 4 q104.1 (fun n => (if_pos g4).trans rfl) w104.1, w104.2⟩
            rcases zit h with ⟨g5, h⟩ | ⟨g5, h⟩
            · obtain ⟨v105, M105, f105, h⟩ := zBx h
              have q105 := L_Mo_isSign (d := (d + 1)) f105 rfl
              obtain ⟨I105, L105, ⟨ra105, rb105, rc105, rd105⟩, K105, c105⟩ := M105
              obtain rfl : K105 = zK0 sl sx := q105.2
              suffices w105 : zLI (d + 2) tb_X13_reads 260 [some (vR 11 (some a0)), some (vI x1), some (vI x2), none, none, none] [vI v105] (I105, L105, (ra105, rb105, rc105, rd105), zK0 sl sx, c105) x M' (zK0 sl sx) from ⟨zR_call (rest := []) 4 q105.1 (fun n => (if_pos g5).trans rfl) w105.1, w105.2⟩
              rcases zit h with ⟨g6, h⟩ | ⟨g6, h⟩
              · have q := L_Mo_reads_304 (d := d) ih h rfl
                exact ⟨zR_go 1 q.1 (fun n => (if_pos g6).trans rfl), q.2⟩
              · have q := L_Mo_reads_263 (d := d) ih h rfl
                exact ⟨zR_go 1 q.1 (fun n => (if_neg g6).trans rfl), q.2⟩
            · have q := L_Mo_reads_263 (d := d) ih h rfl
              exact ⟨zR_go 1 q.1 (fun n => (if_neg g5).trans rfl), q.2⟩
          · have q := L_Mo_reads_206 (d := d) ih h rfl
            exact ⟨zR_go 1 (zR_up (ls' := [some (vR 11 (some a0)), some (vI x1), some (vI x2), none, none, none]) q.1 ⟨.inr rfl, .inr rfl, .inl rfl, .inr rfl, .inr rfl, .inr rfl, trivial⟩) (fun n => (if_neg g4).trans rfl), q.2⟩
        · have q := L_Mo_reads_206 (d := d) ih h rfl
          exact ⟨zR_go 1 (zR_up (ls' := [some (vR 11 (some a0)), some (vI x1), some (vI x2), none, none, none]) q.1 ⟨.inr rfl, .inr rfl, .inl rfl, .inr rfl, .inr rfl, .inr rfl, trivial⟩) (fun n => (if_neg g3).trans rfl), q.2⟩
      · have q := L_Mo_reads_206 (d := d) ih h rfl
        exact ⟨zR_go 1 (zR_up (ls' := [some (vR 11 (some a0)), some (vI x1), some (vI x2), none, none, none]) q.1 ⟨.inr rfl, .inr rfl, .inl rfl, .inr rfl, .inr rfl, .inr rfl, trivial⟩) (fun n => (if_neg g2).trans rfl), q.2⟩
    · obtain ⟨v106, M106, f106, h⟩ := zBx h
      have q106 := L_Mo_fact (d := (d + 1)) f106 rfl
      obtain ⟨I106, L106, ⟨ra106, rb106, rc106, rd106⟩, K106, c106⟩ := M106
      obtain rfl : K106 = zK0 sl sx := q106.2
      suffices w106 : zLI (d + 2) tb_X13_reads 19 [some (vR 11 (some a0)), some (vI x1), some (vI x2), none, none, none] [vI v106] (I106, L106, (ra106, rb106, rc106, rd106), zK0 sl sx, c106) x M' (zK0 sl sx) from ⟨zR_call (rest := []) 4 q106.1 (fun n => (if_neg g1).trans rfl) w106.1, w106.2⟩
      obtain ⟨v107, M107, f107, h⟩ := zBx h
      have q107 := L_Mo_isWord (d := (d + 1)) f107 rfl
      obtain ⟨I107, L107, ⟨ra107, rb107, rc107, rd107⟩, K107, c107⟩ := M107
      obtain rfl : K107 = zK0 sl sx := q107.2
      suffices w107 : zLI (d + 2) tb_X13_reads 27 [some (vR 11 (some a0)), some (vI x1), some (vI x2), some (vI v106), none, none] [vI v107] (I107, L107, (ra107, rb107, rc107, rd107), zK0 sl sx, c107) x M' (zK0 sl sx) from ⟨zR_call (rest := []) 4 q107.1 (fun n => rfl) w107.1, w107.2⟩
      obtain ⟨v108, M108, f108, h⟩ := zBx h
      have q108 := L_Mo_isSign (d := (d + 1)) f108 rfl
      obtain ⟨I108, L108, ⟨ra108, rb108, rc108, rd108⟩, K108, c108⟩ := M108
      obtain rfl : K108 = zK0 sl sx := q108.2
      suffices w108 : zLI (d + 2) tb_X13_reads 35 [some (vR 11 (some a0)), some (vI x1), some (vI x2), some (vI v106), some (vI v107), none] [vI v108] (I108, L108, (ra108, rb108, rc108, rd108), zK0 sl sx, c108) x M' (zK0 sl sx) from ⟨zR_call (rest := []) 4 q108.1 (fun n => rfl) w108.1, w108.2⟩
      rcases zit h with ⟨g7, h⟩ | ⟨g7, h⟩
      · rcases zit h with ⟨g8, h⟩ | ⟨g8, h⟩
        · rcases zit h with ⟨g9, h⟩ | ⟨g9, h⟩
          · rcases zit h with ⟨g10, h⟩ | ⟨g10, h⟩
            · have q := L_Mo_reads_65 (d := d) ih h rfl
              exact ⟨zR_go 11 q.1 (fun n => (if_pos g7).trans ((if_pos g8).trans ((if_pos g9).trans ((if_pos g10).trans rfl)))), q.2⟩
            · obtain ⟨v109, M109, f109, h⟩ := zBx h
              have q109 := L_Mo_fails (d := (d + 1)) f109 rfl
              obtain ⟨I109, L109, ⟨ra109, rb109, rc109, rd109⟩, K109, c109⟩ := M109
              obtain rfl : K109 = zK0 sl sx := q109.2
              suffices w109 : zLI (d + 2) tb_X13_reads 64 [some (vR 11 (some a0)), some (vI x1), some (vI x2), some (vI v106), some (vI v107), some (vI v108)] [vI v109] (I109, L109, (ra109, rb109, rc109, rd109), zK0 sl sx, c109) x M' (zK0 sl sx) from ⟨zR_call (rest := []) 14 q109.1 (fun n => (if_pos g7).trans ((if_pos g8).trans ((if_pos g9).trans ((if_neg g10).trans rfl)))) w109.1, w109.2⟩
              obtain ⟨rfl, rfl⟩ := zrI h
              exact ⟨zR_ret 1 (rfl), rfl⟩
          · have q := L_Mo_reads_65 (d := d) ih h rfl
            exact ⟨zR_go 7 q.1 (fun n => (if_pos g7).trans ((if_pos g8).trans ((if_neg g9).trans rfl))), q.2⟩
        · have q := L_Mo_reads_65 (d := d) ih h rfl
          exact ⟨zR_go 5 q.1 (fun n => (if_pos g7).trans ((if_neg g8).trans rfl)), q.2⟩
      · have q := L_Mo_reads_65 (d := d) ih h rfl
        exact ⟨zR_go 3 q.1 (fun n => (if_neg g7).trans rfl), q.2⟩
set_option maxRecDepth 20000 in
theorem L_Mo_reads {N d sl : Nat} {sx : Nat → Int} {a0 : Nat} {M : ZM} {x : Int} {M' : ZM} (h : Mo_reads N a0 M = some (x, M')) (hK : mK M = zK0 sl sx) : zLI (d + 2) tb_X13_reads 0 [some (vR 11 (some a0)), none, none, none, none, none] [] M x M' (zK0 sl sx) := by
  obtain ⟨I0, L0, ⟨ra0, rb0, rc0, rd0⟩, K0, c0⟩ := M
  obtain rfl : K0 = zK0 sl sx := hK
  replace h := zWx h
  have q := L_Mo_reads_11 (d := d) h rfl
  exact ⟨zR_go 9 q.1 (fun n => rfl), q.2⟩
set_option maxRecDepth 20000 in
theorem L_Mo_opens {N d sl : Nat} {sx : Nat → Int} {a0 : Nat} {x1 : Int} {M : ZM} {M' : ZM} (h : Mo_opens N a0 x1 M = some M') (hK : mK M = zK0 sl sx) : zLV (d + 0) tb_X13_opens 0 [some (vR 11 (some a0)), some (vI x1)] [] M M' (zK0 sl sx) := by
  obtain ⟨I0, L0, ⟨ra0, rb0, rc0, rd0⟩, K0, c0⟩ := M
  obtain rfl : K0 = zK0 sl sx := hK
  obtain ⟨g1, h⟩ := zIx h
  replace h := zWx h
  obtain ⟨g2, h⟩ := zIx h
  replace h := zWx h
  obtain ⟨g3, h⟩ := zIx h
  replace h := zWx h
  obtain ⟨g4, h⟩ := zIx h
  replace h := zWx h
  obtain ⟨g5, h⟩ := zIx h
  replace h := zWx h
  obtain rfl := zrV h
  exact ⟨zR_ret 26 ((if_pos g1).trans ((if_pos g2).trans ((if_pos g3).trans ((if_pos g4).trans ((if_pos g5).trans rfl))))), rfl⟩
set_option maxRecDepth 20000 in
theorem L_Mo_sums {N d sl : Nat} {sx : Nat → Int} {a0 : Nat} {x1 : Int} {M : ZM} {M' : ZM} (h : Mo_sums N a0 x1 M = some M') (hK : mK M = zK0 sl sx) : zLV (d + 0) tb_X13_sums 0 [some (vR 11 (some a0)), some (vI x1)] [] M M' (zK0 sl sx) := by
  obtain ⟨I0, L0, ⟨ra0, rb0, rc0, rd0⟩, K0, c0⟩ := M
  obtain rfl : K0 = zK0 sl sx := hK
  obtain ⟨g1, h⟩ := zIx h
  rcases zit h with ⟨g2, h⟩ | ⟨g2, h⟩
  · obtain ⟨g3, h⟩ := zIx h
    obtain ⟨g4, h⟩ := zIx h
    obtain ⟨g5, h⟩ := zIx h
    replace h := zWx h
    obtain ⟨g6, h⟩ := zIx h
    replace h := zWx h
    obtain rfl := zrV h
    exact ⟨zR_ret 26 ((if_pos g1).trans ((if_pos g2).trans ((if_pos g3).trans ((if_pos g4).trans ((if_pos g5).trans ((if_pos g6).trans rfl)))))), rfl⟩
  · obtain ⟨g7, h⟩ := zIx h
    obtain ⟨g8, h⟩ := zIx h
    obtain ⟨g9, h⟩ := zIx h
    replace h := zWx h
    obtain ⟨g10, h⟩ := zIx h
    replace h := zWx h
    obtain rfl := zrV h
    exact ⟨zR_ret 25 ((if_pos g1).trans ((if_neg g2).trans ((if_pos g7).trans ((if_pos g8).trans ((if_pos g9).trans ((if_pos g10).trans rfl)))))), rfl⟩
set_option maxRecDepth 20000 in
theorem L_Mo_tests_136 {N d sl : Nat} {sx : Nat → Int} {a0 : Nat} {x1 : Int} {x2 : Int} {M : ZM} {M' : ZM} (h : Mo_tests_136 N a0 x1 x2 M = some M') (hK : mK M = zK0 sl sx) : zLV (d + 1) tb_X13_tests 136 [some (vR 11 (some a0)), some (vI x1), some (vI x2)] [] M M' (zK0 sl sx) := by
  obtain ⟨I0, L0, ⟨ra0, rb0, rc0, rd0⟩, K0, c0⟩ := M
  obtain rfl : K0 = zK0 sl sx := hK
  obtain ⟨g1, h⟩ := zIx h
  replace h := zWx h
  obtain ⟨g2, h⟩ := zIx h
  replace h := zWx h
  obtain ⟨g3, h⟩ := zIx h
  replace h := zWx h
  obtain ⟨g4, h⟩ := zIx h
  replace h := zWx h
  obtain rfl := zrV h
  exact ⟨zR_ret 21 ((if_pos g1).trans ((if_pos g2).trans ((if_pos g3).trans ((if_pos g4).trans rfl)))), rfl⟩
set_option maxRecDepth 20000 in
theorem L_Mo_tests_106 {N d sl : Nat} {sx : Nat → Int} {a0 : Nat} {x1 : Int} {x2 : Int} {M : ZM} {M' : ZM} (h : Mo_tests_106 N a0 x1 x2 M = some M') (hK : mK M = zK0 sl sx) : zLV (d + 1) tb_X13_tests 106 [some (vR 11 (some a0)), some (vI x1), some (vI x2)] [] M M' (zK0 sl sx) := by
  obtain ⟨I0, L0, ⟨ra0, rb0, rc0, rd0⟩, K0, c0⟩ := M
  obtain rfl : K0 = zK0 sl sx := hK
  obtain ⟨g1, h⟩ := zIx h
  rcases zit h with ⟨g2, h⟩ | ⟨g2, h⟩
  · obtain ⟨g3, h⟩ := zIx h
    rcases zit h with ⟨g4, h⟩ | ⟨g4, h⟩
    · rcases zit h with ⟨g5, h⟩ | ⟨g5, h⟩
      · have q := L_Mo_tests_136 (d := d) h rfl
        exact ⟨zR_go 15 q.1 (fun n => (if_pos g1).trans ((if_pos g2).trans ((if_pos g3).trans ((if_pos g4).trans ((if_pos g5).trans rfl))))), q.2⟩
      · have q := L_Mo_tests_136 (d := d) h rfl
        exact ⟨zR_go 16 q.1 (fun n => (if_pos g1).trans ((if_pos g2).trans ((if_pos g3).trans ((if_pos g4).trans ((if_neg g5).trans rfl))))), q.2⟩
    · have q := L_Mo_tests_136 (d := d) h rfl
      exact ⟨zR_go 14 q.1 (fun n => (if_pos g1).trans ((if_pos g2).trans ((if_pos g3).trans ((if_neg g4).trans rfl)))), q.2⟩
  · have q := L_Mo_tests_136 (d := d) h rfl
    exact ⟨zR_go 6 q.1 (fun n => (if_pos g1).trans ((if_neg g2).trans rfl)), q.2⟩
set_option maxRecDepth 20000 in
theorem L_Mo_tests_76 {N d sl : Nat} {sx : Nat → Int} {a0 : Nat} {x1 : Int} {x2 : Int} {M : ZM} {M' : ZM} (h : Mo_tests_76 N a0 x1 x2 M = some M') (hK : mK M = zK0 sl sx) : zLV (d + 1) tb_X13_tests 76 [some (vR 11 (some a0)), some (vI x1), some (vI x2)] [] M M' (zK0 sl sx) := by
  obtain ⟨I0, L0, ⟨ra0, rb0, rc0, rd0⟩, K0, c0⟩ := M
  obtain rfl : K0 = zK0 sl sx := hK
  obtain ⟨g1, h⟩ := zIx h
  rcases zit h with ⟨g2, h⟩ | ⟨g2, h⟩
  · obtain ⟨g3, h⟩ := zIx h
    rcases zit h with ⟨g4, h⟩ | ⟨g4, h⟩
    · have q := L_Mo_tests_106 (d := d) h rfl
      exact ⟨zR_go 13 q.1 (fun n => (if_pos g1).trans ((if_pos g2).trans ((if_pos g3).trans ((if_pos g4).trans rfl)))), q.2⟩
    · rcases zit h with ⟨g5, h⟩ | ⟨g5, h⟩
      · have q := L_Mo_tests_106 (d := d) h rfl
        exact ⟨zR_go 15 q.1 (fun n => (if_pos g1).trans ((if_pos g2).trans ((if_pos g3).trans ((if_neg g4).trans ((if_pos g5).trans rfl))))), q.2⟩
      · have q := L_Mo_tests_106 (d := d) h rfl
        exact ⟨zR_go 16 q.1 (fun n => (if_pos g1).trans ((if_pos g2).trans ((if_pos g3).trans ((if_neg g4).trans ((if_neg g5).trans rfl))))), q.2⟩
  · have q := L_Mo_tests_106 (d := d) h rfl
    exact ⟨zR_go 6 q.1 (fun n => (if_pos g1).trans ((if_neg g2).trans rfl)), q.2⟩
set_option maxRecDepth 20000 in
theorem L_Mo_tests_44 {N d sl : Nat} {sx : Nat → Int} {a0 : Nat} {x1 : Int} {x2 : Int} {M : ZM} {M' : ZM} (h : Mo_tests_44 N a0 x1 x2 M = some M') (hK : mK M = zK0 sl sx) : zLV (d + 1) tb_X13_tests 44 [some (vR 11 (some a0)), some (vI x1), some (vI x2)] [] M M' (zK0 sl sx) := by
  obtain ⟨I0, L0, ⟨ra0, rb0, rc0, rd0⟩, K0, c0⟩ := M
  obtain rfl : K0 = zK0 sl sx := hK
  obtain ⟨g1, h⟩ := zIx h
  rcases zit h with ⟨g2, h⟩ | ⟨g2, h⟩
  · obtain ⟨g3, h⟩ := zIx h
    obtain ⟨g4, h⟩ := zIx h
    rcases zit h with ⟨g5, h⟩ | ⟨g5, h⟩
    · have q := L_Mo_tests_76 (d := d) h rfl
      exact ⟨zR_go 18 q.1 (fun n => (if_pos g1).trans ((if_pos g2).trans ((if_pos g3).trans ((if_pos g4).trans ((if_pos g5).trans rfl))))), q.2⟩
    · have q := L_Mo_tests_76 (d := d) h rfl
      exact ⟨zR_go 17 q.1 (fun n => (if_pos g1).trans ((if_pos g2).trans ((if_pos g3).trans ((if_pos g4).trans ((if_neg g5).trans rfl))))), q.2⟩
  · have q := L_Mo_tests_76 (d := d) h rfl
    exact ⟨zR_go 6 q.1 (fun n => (if_pos g1).trans ((if_neg g2).trans rfl)), q.2⟩
set_option maxRecDepth 20000 in
theorem L_Mo_tests {N d sl : Nat} {sx : Nat → Int} {a0 : Nat} {x1 : Int} {M : ZM} {M' : ZM} (h : Mo_tests N a0 x1 M = some M') (hK : mK M = zK0 sl sx) : zLV (d + 1) tb_X13_tests 0 [some (vR 11 (some a0)), some (vI x1), none] [] M M' (zK0 sl sx) := by
  obtain ⟨I0, L0, ⟨ra0, rb0, rc0, rd0⟩, K0, c0⟩ := M
  obtain rfl : K0 = zK0 sl sx := hK
  obtain ⟨M101, f101, h⟩ := zBvx h
  have q101 := L_Mo_sums (d := d) f101 rfl
  obtain ⟨I101, L101, ⟨ra101, rb101, rc101, rd101⟩, K101, c101⟩ := M101
  obtain rfl : K101 = zK0 sl sx := q101.2
  suffices w101 : zLV (d + 1) tb_X13_tests 5 [some (vR 11 (some a0)), some (vI x1), none] [] (I101, L101, (ra101, rb101, rc101, rd101), zK0 sl sx, c101) M' (zK0 sl sx) from ⟨zR_call (rest := []) 3 q101.1 (fun n => rfl) w101.1, w101.2⟩
  obtain ⟨g1, h⟩ := zIx h
  replace h := zWx h
  obtain ⟨g2, h⟩ := zIx h
  rcases zit h with ⟨g3, h⟩ | ⟨g3, h⟩
  · obtain ⟨g4, h⟩ := zIx h
    obtain ⟨g5, h⟩ := zIx h
    rcases zit h with ⟨g6, h⟩ | ⟨g6, h⟩
    · have q := L_Mo_tests_44 (d := d) h rfl
      exact ⟨zR_go 23 q.1 (fun n => (if_pos g1).trans ((if_pos g2).trans ((if_pos g3).trans ((if_pos g4).trans ((if_pos g5).trans ((if_pos g6).trans rfl)))))), q.2⟩
    · have q := L_Mo_tests_44 (d := d) h rfl
      exact ⟨zR_go 22 q.1 (fun n => (if_pos g1).trans ((if_pos g2).trans ((if_pos g3).trans ((if_pos g4).trans ((if_pos g5).trans ((if_neg g6).trans rfl)))))), q.2⟩
  · have q := L_Mo_tests_44 (d := d) h rfl
    exact ⟨zR_go 11 q.1 (fun n => (if_pos g1).trans ((if_pos g2).trans ((if_neg g3).trans rfl))), q.2⟩
set_option maxRecDepth 20000 in
theorem L_Mo_worked_66 {N d sl : Nat} {sx : Nat → Int} {rec14 : Nat → Int → Int → Int → ZM → Option (Int × ZM)} (hrec14 : ∀ {a0 : Nat} {x1 : Int} {x2 : Int} {x3 : Int} {M : ZM} {x : Int} {M' : ZM}, rec14 a0 x1 x2 x3 M = some (x, M') → mK M = zK0 sl sx → zLI (d + 2) tb_X13_worked 14 [some (vR 11 (some a0)), some (vI x1), some (vI x2), some (vI x3), none, none] [] M x M' (zK0 sl sx)) {a0 : Nat} {x1 : Int} {x2 : Int} {x3 : Int} {b0 : Nat} {y1 : Int} {y2 : Int} {M : ZM} {x : Int} {M' : ZM} (h : Mo_worked_66 N rec14 a0 x1 x2 x3 b0 y1 y2 M = some (x, M')) (hK : mK M = zK0 sl sx) : zLI (d + 2) tb_X13_worked 66 [some (vR 11 (some a0)), some (vI x1), some (vI x2), some (vI x3), none, none] [vI y2, vI y1, vR 72 (some b0)] M x M' (zK0 sl sx) := by
  obtain ⟨I0, L0, ⟨ra0, rb0, rc0, rd0⟩, K0, c0⟩ := M
  obtain rfl : K0 = zK0 sl sx := hK
  obtain ⟨g1, h⟩ := zIx h
  replace h := zWx h
  obtain ⟨M102, f102, h⟩ := zBvx h
  have q102 := L_Mo_opens (d := (d + 1)) f102 rfl
  obtain ⟨I102, L102, ⟨ra102, rb102, rc102, rd102⟩, K102, c102⟩ := M102
  obtain rfl : K102 = zK0 sl sx := q102.2
  suffices w102 : zLI (d + 2) tb_X13_worked 72 [some (vR 11 (some a0)), some (vI x1), some (vI x2), some (vI x3), none, none] [] (I102, L102, (ra102, rb102, rc102, rd102), zK0 sl sx, c102) x M' (zK0 sl sx) from ⟨zR_call (rest := []) 4 q102.1 (fun n => (if_pos g1).trans rfl) w102.1, w102.2⟩
  replace h := zWx h
  have q := hrec14 h rfl
  exact ⟨zR_go 3 q.1 (fun n => rfl), q.2⟩
set_option maxRecDepth 20000 in
theorem L_Mo_worked_46 {N d sl : Nat} {sx : Nat → Int} {rec14 : Nat → Int → Int → Int → ZM → Option (Int × ZM)} (hrec14 : ∀ {a0 : Nat} {x1 : Int} {x2 : Int} {x3 : Int} {M : ZM} {x : Int} {M' : ZM}, rec14 a0 x1 x2 x3 M = some (x, M') → mK M = zK0 sl sx → zLI (d + 2) tb_X13_worked 14 [some (vR 11 (some a0)), some (vI x1), some (vI x2), some (vI x3), none, none] [] M x M' (zK0 sl sx)) {a0 : Nat} {x1 : Int} {x2 : Int} {x3 : Int} {x4 : Int} {M : ZM} {x : Int} {M' : ZM} (h : Mo_worked_46 N rec14 a0 x1 x2 x3 x4 M = some (x, M')) (hK : mK M = zK0 sl sx) : zLI (d + 2) tb_X13_worked 46 [some (vR 11 (some a0)), some (vI x1), some (vI x2), some (vI x3), some (vI x4), none] [] M x M' (zK0 sl sx) := by
  obtain ⟨I0, L0, ⟨ra0, rb0, rc0, rd0⟩, K0, c0⟩ := M
  obtain rfl : K0 = zK0 sl sx := hK
  replace h := zWx h
  rcases zit h with ⟨g1, h⟩ | ⟨g1, h⟩
  · have q := L_Mo_worked_66 (d := d) hrec14 h rfl
    exact ⟨zR_go 9 (zR_up (ls' := [some (vR 11 (some a0)), some (vI x1), some (vI (z32 (x2 + 1))), some (vI x3), some (vI x4), none]) q.1 ⟨.inr rfl, .inr rfl, .inr rfl, .inr rfl, .inl rfl, .inr rfl, trivial⟩) (fun n => (if_pos g1).trans rfl), q.2⟩
  · have q := L_Mo_worked_66 (d := d) hrec14 h rfl
    exact ⟨zR_go 8 (zR_up (ls' := [some (vR 11 (some a0)), some (vI x1), some (vI (z32 (x2 + 1))), some (vI x3), some (vI x4), none]) q.1 ⟨.inr rfl, .inr rfl, .inr rfl, .inr rfl, .inl rfl, .inr rfl, trivial⟩) (fun n => (if_neg g1).trans rfl), q.2⟩
set_option maxRecDepth 20000 in
theorem L_Mo_worked_89 {N d sl : Nat} {sx : Nat → Int} {rec14 : Nat → Int → Int → Int → ZM → Option (Int × ZM)} (hrec14 : ∀ {a0 : Nat} {x1 : Int} {x2 : Int} {x3 : Int} {M : ZM} {x : Int} {M' : ZM}, rec14 a0 x1 x2 x3 M = some (x, M') → mK M = zK0 sl sx → zLI (d + 2) tb_X13_worked 14 [some (vR 11 (some a0)), some (vI x1), some (vI x2), some (vI x3), none, none] [] M x M' (zK0 sl sx)) {a0 : Nat} {x1 : Int} {x2 : Int} {x3 : Int} {x4 : Int} {M : ZM} {x : Int} {M' : ZM} (h : Mo_worked_89 N rec14 a0 x1 x2 x3 x4 M = some (x, M')) (hK : mK M = zK0 sl sx) : zLI (d + 2) tb_X13_worked 89 [some (vR 11 (some a0)), some (vI x1), some (vI x2), some (vI x3), some (vI x4), none] [] M x M' (zK0 sl sx) := by
  obtain ⟨I0, L0, ⟨ra0, rb0, rc0, rd0⟩, K0, c0⟩ := M
  obtain rfl : K0 = zK0 sl sx := hK
  obtain ⟨M101, f101, h⟩ := zBvx h
  have q101 := L_Mo_sums (d := (d + 1)) f101 rfl
  obtain ⟨I101, L101, ⟨ra101, rb101, rc101, rd101⟩, K101, c101⟩ := M101
  obtain rfl : K101 = zK0 sl sx := q101.2
  suffices w101 : zLI (d + 2) tb_X13_worked 94 [some (vR 11 (some a0)), some (vI x1), some (vI x2), some (vI x3), some (vI x4), none] [] (I101, L101, (ra101, rb101, rc101, rd101), zK0 sl sx, c101) x M' (zK0 sl sx) from ⟨zR_call (rest := []) 3 q101.1 (fun n => rfl) w101.1, w101.2⟩
  obtain ⟨g1, h⟩ := zIx h
  replace h := zWx h
  replace h := zWx h
  have q := hrec14 h rfl
  exact ⟨zR_go 8 (zR_up (ls' := [some (vR 11 (some a0)), some (vI x1), some (vI x2), some (vI (z32 (x3 + 1))), some (vI x4), none]) q.1 ⟨.inr rfl, .inr rfl, .inr rfl, .inr rfl, .inl rfl, .inr rfl, trivial⟩) (fun n => (if_pos g1).trans rfl), q.2⟩
set_option maxRecDepth 20000 in
theorem L_Mo_worked_137 {N d sl : Nat} {sx : Nat → Int} {rec14 : Nat → Int → Int → Int → ZM → Option (Int × ZM)} (hrec14 : ∀ {a0 : Nat} {x1 : Int} {x2 : Int} {x3 : Int} {M : ZM} {x : Int} {M' : ZM}, rec14 a0 x1 x2 x3 M = some (x, M') → mK M = zK0 sl sx → zLI (d + 2) tb_X13_worked 14 [some (vR 11 (some a0)), some (vI x1), some (vI x2), some (vI x3), none, none] [] M x M' (zK0 sl sx)) {a0 : Nat} {x1 : Int} {x2 : Int} {x3 : Int} {x4 : Int} {M : ZM} {x : Int} {M' : ZM} (h : Mo_worked_137 N rec14 a0 x1 x2 x3 x4 M = some (x, M')) (hK : mK M = zK0 sl sx) : zLI (d + 2) tb_X13_worked 137 [some (vR 11 (some a0)), some (vI x1), some (vI x2), some (vI x3), some (vI x4), none] [] M x M' (zK0 sl sx) := by
  obtain ⟨I0, L0, ⟨ra0, rb0, rc0, rd0⟩, K0, c0⟩ := M
  obtain rfl : K0 = zK0 sl sx := hK
  obtain ⟨M101, f101, h⟩ := zBvx h
  have q101 := L_Mo_sums (d := (d + 1)) f101 rfl
  obtain ⟨I101, L101, ⟨ra101, rb101, rc101, rd101⟩, K101, c101⟩ := M101
  obtain rfl : K101 = zK0 sl sx := q101.2
  suffices w101 : zLI (d + 2) tb_X13_worked 142 [some (vR 11 (some a0)), some (vI x1), some (vI x2), some (vI x3), some (vI x4), none] [] (I101, L101, (ra101, rb101, rc101, rd101), zK0 sl sx, c101) x M' (zK0 sl sx) from ⟨zR_call (rest := []) 3 q101.1 (fun n => rfl) w101.1, w101.2⟩
  obtain ⟨g1, h⟩ := zIx h
  obtain ⟨g2, h⟩ := zIx h
  replace h := zWx h
  obtain ⟨g3, h⟩ := zIx h
  replace h := zWx h
  obtain ⟨g4, h⟩ := zIx h
  replace h := zWx h
  obtain ⟨g5, h⟩ := zIx h
  replace h := zWx h
  replace h := zWx h
  have q := hrec14 h rfl
  exact ⟨zR_go 26 (zR_up (ls' := [some (vR 11 (some a0)), some (vI x1), some (vI x2), some (vI (z32 (x3 + 1))), some (vI x4), none]) q.1 ⟨.inr rfl, .inr rfl, .inr rfl, .inr rfl, .inl rfl, .inr rfl, trivial⟩) (fun n => (if_pos g1).trans ((if_pos g2).trans ((if_pos g3).trans ((if_pos g4).trans ((if_pos g5).trans rfl))))), q.2⟩
set_option maxRecDepth 20000 in
theorem L_Mo_worked_194 {N d sl : Nat} {sx : Nat → Int} {rec14 : Nat → Int → Int → Int → ZM → Option (Int × ZM)} (hrec14 : ∀ {a0 : Nat} {x1 : Int} {x2 : Int} {x3 : Int} {M : ZM} {x : Int} {M' : ZM}, rec14 a0 x1 x2 x3 M = some (x, M') → mK M = zK0 sl sx → zLI (d + 2) tb_X13_worked 14 [some (vR 11 (some a0)), some (vI x1), some (vI x2), some (vI x3), none, none] [] M x M' (zK0 sl sx)) {a0 : Nat} {x1 : Int} {x2 : Int} {x3 : Int} {x4 : Int} {M : ZM} {x : Int} {M' : ZM} (h : Mo_worked_194 N rec14 a0 x1 x2 x3 x4 M = some (x, M')) (hK : mK M = zK0 sl sx) : zLI (d + 2) tb_X13_worked 194 [some (vR 11 (some a0)), some (vI x1), some (vI x2), some (vI x3), some (vI x4), none] [] M x M' (zK0 sl sx) := by
  obtain ⟨I0, L0, ⟨ra0, rb0, rc0, rd0⟩, K0, c0⟩ := M
  obtain rfl : K0 = zK0 sl sx := hK
  obtain ⟨M101, f101, h⟩ := zBvx h
  have q101 := L_Mo_tests (d := d) f101 rfl
  obtain ⟨I101, L101, ⟨ra101, rb101, rc101, rd101⟩, K101, c101⟩ := M101
  obtain rfl : K101 = zK0 sl sx := q101.2
  suffices w101 : zLI (d + 2) tb_X13_worked 199 [some (vR 11 (some a0)), some (vI x1), some (vI x2), some (vI x3), some (vI x4), none] [] (I101, L101, (ra101, rb101, rc101, rd101), zK0 sl sx, c101) x M' (zK0 sl sx) from ⟨zR_call (rest := []) 3 q101.1 (fun n => rfl) w101.1, w101.2⟩
  obtain ⟨g1, h⟩ := zIx h
  replace h := zWx h
  replace h := zWx h
  have q := hrec14 h rfl
  exact ⟨zR_go 8 (zR_up (ls' := [some (vR 11 (some a0)), some (vI x1), some (vI x2), some (vI (z32 (x3 + 1))), some (vI x4), none]) q.1 ⟨.inr rfl, .inr rfl, .inr rfl, .inr rfl, .inl rfl, .inr rfl, trivial⟩) (fun n => (if_pos g1).trans rfl), q.2⟩
set_option maxRecDepth 20000 in
theorem L_Mo_worked_300 {N d sl : Nat} {sx : Nat → Int} {rec14 : Nat → Int → Int → Int → ZM → Option (Int × ZM)} (hrec14 : ∀ {a0 : Nat} {x1 : Int} {x2 : Int} {x3 : Int} {M : ZM} {x : Int} {M' : ZM}, rec14 a0 x1 x2 x3 M = some (x, M') → mK M = zK0 sl sx → zLI (d + 2) tb_X13_worked 14 [some (vR 11 (some a0)), some (vI x1), some (vI x2), some (vI x3), none, none] [] M x M' (zK0 sl sx)) {a0 : Nat} {x1 : Int} {x2 : Int} {x3 : Int} {x5 : Int} {M : ZM} {x : Int} {M' : ZM} (h : Mo_worked_300 N rec14 a0 x1 x2 x3 x5 M = some (x, M')) (hK : mK M = zK0 sl sx) : zLI (d + 2) tb_X13_worked 300 [some (vR 11 (some a0)), some (vI x1), some (vI x2), some (vI x3), none, some (vI x5)] [] M x M' (zK0 sl sx) := by
  obtain ⟨I0, L0, ⟨ra0, rb0, rc0, rd0⟩, K0, c0⟩ := M
  obtain rfl : K0 = zK0 sl sx := hK
  obtain ⟨g1, h⟩ := zIx h
  rcases zit h with ⟨g2, h⟩ | ⟨g2, h⟩
  · obtain ⟨g3, h⟩ := zIx h
    replace h := zWx h
    replace h := zWx h
    have q := hrec14 h rfl
    exact ⟨zR_go 13 (zR_up (ls' := [some (vR 11 (some a0)), some (vI x1), some (vI x2), some (vI (z32 (x3 + 1))), none, some (vI x5)]) q.1 ⟨.inr rfl, .inr rfl, .inr rfl, .inr rfl, .inr rfl, .inl rfl, trivial⟩) (fun n => (if_pos g1).trans ((if_pos g2).trans ((if_pos g3).trans rfl))), q.2⟩
  · obtain ⟨g4, h⟩ := zIx h
    obtain ⟨g5, h⟩ := zIx h
    replace h := zWx h
    replace h := zWx h
    have q := hrec14 h rfl
    exact ⟨zR_go 17 (zR_up (ls' := [some (vR 11 (some a0)), some (vI x1), some (vI x2), some (vI (z32 (x3 + 1))), none, some (vI x5)]) q.1 ⟨.inr rfl, .inr rfl, .inr rfl, .inr rfl, .inr rfl, .inl rfl, trivial⟩) (fun n => (if_pos g1).trans ((if_neg g2).trans ((if_pos g4).trans ((if_pos g5).trans rfl)))), q.2⟩
set_option maxRecDepth 20000 in
theorem L_Mo_worked_268 {N d sl : Nat} {sx : Nat → Int} {rec14 : Nat → Int → Int → Int → ZM → Option (Int × ZM)} (hrec14 : ∀ {a0 : Nat} {x1 : Int} {x2 : Int} {x3 : Int} {M : ZM} {x : Int} {M' : ZM}, rec14 a0 x1 x2 x3 M = some (x, M') → mK M = zK0 sl sx → zLI (d + 2) tb_X13_worked 14 [some (vR 11 (some a0)), some (vI x1), some (vI x2), some (vI x3), none, none] [] M x M' (zK0 sl sx)) : ∀ {n : Nat} {a0 : Nat} {x1 : Int} {x2 : Int} {x3 : Int} {x5 : Int} {M : ZM} {x : Int} {M' : ZM}, Mo_worked_268 N rec14 n a0 x1 x2 x3 x5 M = some (x, M') → mK M = zK0 sl sx → zLI (d + 2) tb_X13_worked 268 [some (vR 11 (some a0)), some (vI x1), some (vI x2), some (vI x3), none, some (vI x5)] [] M x M' (zK0 sl sx) := by
  intro n
  induction n with
  | zero => intros; rename_i h _; cases h
  | succ n ih =>
    intro a0 x1 x2 x3 x5 M x M' h hK
    obtain ⟨I0, L0, ⟨ra0, rb0, rc0, rd0⟩, K0, c0⟩ := M
    obtain rfl : K0 = zK0 sl sx := hK
    rcases zit h with ⟨g1, h⟩ | ⟨g1, h⟩
    · obtain ⟨g2, h⟩ := zIx h
      rcases zit h with ⟨g3, h⟩ | ⟨g3, h⟩
      · rcases zit h with ⟨g4, h⟩ | ⟨g4, h⟩
        · replace h := zWx h
          have q := ih h rfl
          exact ⟨zR_go 15 q.1 (fun n => (if_pos g1).trans ((if_pos g2).trans ((if_pos g3).trans ((if_pos g4).trans rfl)))), q.2⟩
        · replace h := zWx h
          have q := ih h rfl
          exact ⟨zR_go 14 q.1 (fun n => (if_pos g1).trans ((if_pos g2).trans ((if_pos g3).trans ((if_neg g4).trans rfl)))), q.2⟩
      · have q := L_Mo_worked_300 (d := d) hrec14 h rfl
        exact ⟨zR_go 8 q.1 (fun n => (if_pos g1).trans ((if_pos g2).trans ((if_neg g3).trans rfl))), q.2⟩
    · have q := L_Mo_worked_300 (d := d) hrec14 h rfl
      exact ⟨zR_go 2 q.1 (fun n => (if_neg g1).trans rfl), q.2⟩
set_option maxRecDepth 20000 in
theorem L_Mo_worked_243 {N d sl : Nat} {sx : Nat → Int} {rec14 : Nat → Int → Int → Int → ZM → Option (Int × ZM)} (hrec14 : ∀ {a0 : Nat} {x1 : Int} {x2 : Int} {x3 : Int} {M : ZM} {x : Int} {M' : ZM}, rec14 a0 x1 x2 x3 M = some (x, M') → mK M = zK0 sl sx → zLI (d + 2) tb_X13_worked 14 [some (vR 11 (some a0)), some (vI x1), some (vI x2), some (vI x3), none, none] [] M x M' (zK0 sl sx)) {a0 : Nat} {x1 : Int} {x2 : Int} {x3 : Int} {x4 : Int} {y0 : Int} {M : ZM} {x : Int} {M' : ZM} (h : Mo_worked_243 N rec14 a0 x1 x2 x3 x4 y0 M = some (x, M')) (hK : mK M = zK0 sl sx) : zLI (d + 2) tb_X13_worked 243 [some (vR 11 (some a0)), some (vI x1), some (vI x2), some (vI x3), some (vI x4), none] [vI y0] M x M' (zK0 sl sx) := by
  obtain ⟨I0, L0, ⟨ra0, rb0, rc0, rd0⟩, K0, c0⟩ := M
  obtain rfl : K0 = zK0 sl sx := hK
  rcases zit h with ⟨g1, h⟩ | ⟨g1, h⟩
  · obtain ⟨M101, f101, h⟩ := zBvx h
    have q101 := L_Mo_tests (d := d) f101 rfl
    obtain ⟨I101, L101, ⟨ra101, rb101, rc101, rd101⟩, K101, c101⟩ := M101
    obtain rfl : K101 = zK0 sl sx := q101.2
    suffices w101 : zLI (d + 2) tb_X13_worked 257 [some (vR 11 (some a0)), some (vI x1), some (vI x2), some (vI x3), some (vI x4), some (vI y0)] [] (I101, L101, (ra101, rb101, rc101, rd101), zK0 sl sx, c101) x M' (zK0 sl sx) from ⟨zR_call (rest := []) 7 q101.1 (fun n => (if_pos g1).trans rfl) w101.1, w101.2⟩
    obtain ⟨g2, h⟩ := zIx h
    replace h := zWx h
    replace h := zWx h
    have q := L_Mo_worked_268 (d := d) hrec14 h rfl
    exact ⟨zR_go 6 (zR_up (ls' := [some (vR 11 (some a0)), some (vI x1), some (vI (z32 (x2 + (-1)))), some (vI x3), some (vI x4), some (vI (mI (I101, L101, (ra101, rb101, rc101, rd101), zK0 sl sx, c101) 64 a0 x2.toNat))]) q.1 ⟨.inr rfl, .inr rfl, .inr rfl, .inr rfl, .inl rfl, .inr rfl, trivial⟩) (fun n => (if_pos g2).trans rfl), q.2⟩
  · have q := L_Mo_worked_268 (d := d) hrec14 h rfl
    exact ⟨zR_go 4 (zR_up (ls' := [some (vR 11 (some a0)), some (vI x1), some (vI x2), some (vI x3), some (vI x4), some (vI y0)]) q.1 ⟨.inr rfl, .inr rfl, .inr rfl, .inr rfl, .inl rfl, .inr rfl, trivial⟩) (fun n => (if_neg g1).trans rfl), q.2⟩
set_option maxRecDepth 20000 in
theorem L_Mo_worked_14 {N d sl : Nat} {sx : Nat → Int} : ∀ {n : Nat} {a0 : Nat} {x1 : Int} {x2 : Int} {x3 : Int} {M : ZM} {x : Int} {M' : ZM}, Mo_worked_14 N n a0 x1 x2 x3 M = some (x, M') → mK M = zK0 sl sx → zLI (d + 2) tb_X13_worked 14 [some (vR 11 (some a0)), some (vI x1), some (vI x2), some (vI x3), none, none] [] M x M' (zK0 sl sx) := by
  intro n
  induction n with
  | zero => intros; rename_i h _; cases h
  | succ n ih =>
    intro a0 x1 x2 x3 M x M' h hK
    obtain ⟨I0, L0, ⟨ra0, rb0, rc0, rd0⟩, K0, c0⟩ := M
    obtain rfl : K0 = zK0 sl sx := hK
    obtain ⟨g1, h⟩ := zIx h
    rcases zit h with ⟨g2, h⟩ | ⟨g2, h⟩
    · obtain ⟨g3, h⟩ := zIx h
      replace h := zWx h
      rcases zit h with ⟨g4, h⟩ | ⟨g4, h⟩
      · have q := L_Mo_worked_46 (d := d) ih h rfl
        exact ⟨zR_go 14 q.1 (fun n => (if_pos g1).trans ((if_pos g2).trans ((if_pos g3).trans ((if_pos g4).trans rfl)))), q.2⟩
      · rcases zit h with ⟨g5, h⟩ | ⟨g5, h⟩
        · have q := L_Mo_worked_46 (d := d) ih h rfl
          exact ⟨zR_go 17 q.1 (fun n => (if_pos g1).trans ((if_pos g2).trans ((if_pos g3).trans ((if_neg g4).trans ((if_pos g5).trans rfl))))), q.2⟩
        · rcases zit h with ⟨g6, h⟩ | ⟨g6, h⟩
          · have q := L_Mo_worked_89 (d := d) ih h rfl
            exact ⟨zR_go 20 q.1 (fun n => (if_pos g1).trans ((if_pos g2).trans ((if_pos g3).trans ((if_neg g4).trans ((if_neg g5).trans ((if_pos g6).trans rfl)))))), q.2⟩
          · rcases zit h with ⟨g7, h⟩ | ⟨g7, h⟩
            · have q := L_Mo_worked_89 (d := d) ih h rfl
              exact ⟨zR_go 23 q.1 (fun n => (if_pos g1).trans ((if_pos g2).trans ((if_pos g3).trans ((if_neg g4).trans ((if_neg g5).trans ((if_neg g6).trans ((if_pos g7).trans rfl))))))), q.2⟩
            · rcases zit h with ⟨g8, h⟩ | ⟨g8, h⟩
              · obtain ⟨g9, h⟩ := zIx h
                replace h := zWx h
                replace h := zWx h
                have q := ih h rfl
                exact ⟨zR_go 34 (zR_up (ls' := [some (vR 11 (some a0)), some (vI x1), some (vI x2), some (vI (z32 (x3 + 1))), some (vI (mI (I0, L0, (ra0, rb0, rc0, rd0), zK0 sl sx, c0) 61 a0 x3.toNat)), none]) q.1 ⟨.inr rfl, .inr rfl, .inr rfl, .inr rfl, .inl rfl, .inr rfl, trivial⟩) (fun n => (if_pos g1).trans ((if_pos g2).trans ((if_pos g3).trans ((if_neg g4).trans ((if_neg g5).trans ((if_neg g6).trans ((if_neg g7).trans ((if_pos g8).trans ((if_pos g9).trans rfl))))))))), q.2⟩
              · rcases zit h with ⟨g10, h⟩ | ⟨g10, h⟩
                · have q := L_Mo_worked_137 (d := d) ih h rfl
                  exact ⟨zR_go 29 q.1 (fun n => (if_pos g1).trans ((if_pos g2).trans ((if_pos g3).trans ((if_neg g4).trans ((if_neg g5).trans ((if_neg g6).trans ((if_neg g7).trans ((if_neg g8).trans ((if_pos g10).trans rfl))))))))), q.2⟩
                · rcases zit h with ⟨g11, h⟩ | ⟨g11, h⟩
                  · have q := L_Mo_worked_137 (d := d) ih h rfl
                    exact ⟨zR_go 32 q.1 (fun n => (if_pos g1).trans ((if_pos g2).trans ((if_pos g3).trans ((if_neg g4).trans ((if_neg g5).trans ((if_neg g6).trans ((if_neg g7).trans ((if_neg g8).trans ((if_neg g10).trans ((if_pos g11).trans rfl)))))))))), q.2⟩
                  · rcases zit h with ⟨g12, h⟩ | ⟨g12, h⟩
                    · have q := L_Mo_worked_194 (d := d) ih h rfl
                      exact ⟨zR_go 35 q.1 (fun n => (if_pos g1).trans ((if_pos g2).trans ((if_pos g3).trans ((if_neg g4).trans ((if_neg g5).trans ((if_neg g6).trans ((if_neg g7).trans ((if_neg g8).trans ((if_neg g10).trans ((if_neg g11).trans ((if_pos g12).trans rfl))))))))))), q.2⟩
                    · rcases zit h with ⟨g13, h⟩ | ⟨g13, h⟩
                      · have q := L_Mo_worked_194 (d := d) ih h rfl
                        exact ⟨zR_go 38 q.1 (fun n => (if_pos g1).trans ((if_pos g2).trans ((if_pos g3).trans ((if_neg g4).trans ((if_neg g5).trans ((if_neg g6).trans ((if_neg g7).trans ((if_neg g8).trans ((if_neg g10).trans ((if_neg g11).trans ((if_neg g12).trans ((if_pos g13).trans rfl)))))))))))), q.2⟩
                      · rcases zit h with ⟨g14, h⟩ | ⟨g14, h⟩
                        · rcases zit h with ⟨g15, h⟩ | ⟨g15, h⟩
                          · obtain ⟨g16, h⟩ := zIx h
                            have q := L_Mo_worked_243 (d := d) ih h rfl
                            exact ⟨zR_go 49 q.1 (fun n => (if_pos g1).trans ((if_pos g2).trans ((if_pos g3).trans ((if_neg g4).trans ((if_neg g5).trans ((if_neg g6).trans ((if_neg g7).trans ((if_neg g8).trans ((if_neg g10).trans ((if_neg g11).trans ((if_neg g12).trans ((if_neg g13).trans ((if_pos g14).trans ((if_pos g15).trans ((if_pos g16).trans rfl))))))))))))))), q.2⟩
                          · have q := L_Mo_worked_243 (d := d) ih h rfl
                            exact ⟨zR_go 45 q.1 (fun n => (if_pos g1).trans ((if_pos g2).trans ((if_pos g3).trans ((if_neg g4).trans ((if_neg g5).trans ((if_neg g6).trans ((if_neg g7).trans ((if_neg g8).trans ((if_neg g10).trans ((if_neg g11).trans ((if_neg g12).trans ((if_neg g13).trans ((if_pos g14).trans ((if_neg g15).trans rfl)))))))))))))), q.2⟩
                        · have q := L_Mo_worked_243 (d := d) ih h rfl
                          exact ⟨zR_go 45 q.1 (fun n => (if_pos g1).trans ((if_pos g2).trans ((if_pos g3).trans ((if_neg g4).trans ((if_neg g5).trans ((if_neg g6).trans ((if_neg g7).trans ((if_neg g8).trans ((if_neg g10).trans ((if_neg g11).trans ((if_neg g12).trans ((if_neg g13).trans ((if_neg g14).trans rfl))))))))))))), q.2⟩
    · obtain ⟨M104, f104, h⟩ := zBvx h
      have q104 := L_Mo_tests (d := d) f104 rfl
      obtain ⟨I104, L104, ⟨ra104, rb104, rc104, rd104⟩, K104, c104⟩ := M104
      obtain rfl : K104 = zK0 sl sx := q104.2
      suffices w104 : zLI (d + 2) tb_X13_worked 340 [some (vR 11 (some a0)), some (vI x1), some (vI x2), some (vI x3), none, none] [] (I104, L104, (ra104, rb104, rc104, rd104), zK0 sl sx, c104) x M' (zK0 sl sx) from ⟨zR_call (rest := []) 9 q104.1 (fun n => (if_pos g1).trans ((if_neg g2).trans rfl)) w104.1, w104.2⟩
      obtain ⟨rfl, rfl⟩ := zrI h
      exact ⟨zR_ret 5 (rfl), rfl⟩
set_option maxRecDepth 20000 in
theorem L_Mo_worked {N d sl : Nat} {sx : Nat → Int} {a0 : Nat} {x1 : Int} {M : ZM} {x : Int} {M' : ZM} (h : Mo_worked N a0 x1 M = some (x, M')) (hK : mK M = zK0 sl sx) : zLI (d + 2) tb_X13_worked 0 [some (vR 11 (some a0)), some (vI x1), none, none, none, none] [] M x M' (zK0 sl sx) := by
  obtain ⟨I0, L0, ⟨ra0, rb0, rc0, rd0⟩, K0, c0⟩ := M
  obtain rfl : K0 = zK0 sl sx := hK
  obtain ⟨M101, f101, h⟩ := zBvx h
  have q101 := L_Mo_opens (d := (d + 1)) f101 rfl
  obtain ⟨I101, L101, ⟨ra101, rb101, rc101, rd101⟩, K101, c101⟩ := M101
  obtain rfl : K101 = zK0 sl sx := q101.2
  suffices w101 : zLI (d + 2) tb_X13_worked 7 [some (vR 11 (some a0)), some (vI x1), some (vI 0), none, none, none] [] (I101, L101, (ra101, rb101, rc101, rd101), zK0 sl sx, c101) x M' (zK0 sl sx) from ⟨zR_call (rest := []) 5 q101.1 (fun n => rfl) w101.1, w101.2⟩
  obtain ⟨g1, h⟩ := zIx h
  replace h := zWx h
  have q := L_Mo_worked_14 (d := d) h rfl
  exact ⟨zR_go 5 q.1 (fun n => (if_pos g1).trans rfl), q.2⟩
set_option maxRecDepth 20000 in
theorem L_Mo_isKept {N d sl : Nat} {sx : Nat → Int} {a0 : Nat} {M : ZM} {x : Int} {M' : ZM} (h : Mo_isKept N a0 M = some (x, M')) (hK : mK M = zK0 sl sx) : zLI (d + 0) tb_X13_isKept 0 [some (vR 11 (some a0))] [] M x M' (zK0 sl sx) := by
  obtain ⟨I0, L0, ⟨ra0, rb0, rc0, rd0⟩, K0, c0⟩ := M
  obtain rfl : K0 = zK0 sl sx := hK
  rcases zit h with ⟨g1, h⟩ | ⟨g1, h⟩
  · rcases zit h with ⟨g2, h⟩ | ⟨g2, h⟩
    · obtain ⟨rfl, rfl⟩ := zrI h
      exact ⟨zR_ret 12 ((if_pos g1).trans ((if_pos g2).trans rfl)), rfl⟩
    · rcases zit h with ⟨g3, h⟩ | ⟨g3, h⟩
      · obtain ⟨rfl, rfl⟩ := zrI h
        exact ⟨zR_ret 17 ((if_pos g1).trans ((if_neg g2).trans ((if_pos g3).trans rfl))), rfl⟩
      · rcases zit h with ⟨g4, h⟩ | ⟨g4, h⟩
        · obtain ⟨rfl, rfl⟩ := zrI h
          exact ⟨zR_ret 22 ((if_pos g1).trans ((if_neg g2).trans ((if_neg g3).trans ((if_pos g4).trans rfl)))), rfl⟩
        · rcases zit h with ⟨g5, h⟩ | ⟨g5, h⟩
          · obtain ⟨rfl, rfl⟩ := zrI h
            exact ⟨zR_ret 27 ((if_pos g1).trans ((if_neg g2).trans ((if_neg g3).trans ((if_neg g4).trans ((if_pos g5).trans rfl))))), rfl⟩
          · rcases zit h with ⟨g6, h⟩ | ⟨g6, h⟩
            · obtain ⟨rfl, rfl⟩ := zrI h
              exact ⟨zR_ret 32 ((if_pos g1).trans ((if_neg g2).trans ((if_neg g3).trans ((if_neg g4).trans ((if_neg g5).trans ((if_pos g6).trans rfl)))))), rfl⟩
            · rcases zit h with ⟨g7, h⟩ | ⟨g7, h⟩
              · obtain ⟨rfl, rfl⟩ := zrI h
                exact ⟨zR_ret 37 ((if_pos g1).trans ((if_neg g2).trans ((if_neg g3).trans ((if_neg g4).trans ((if_neg g5).trans ((if_neg g6).trans ((if_pos g7).trans rfl))))))), rfl⟩
              · rcases zit h with ⟨g8, h⟩ | ⟨g8, h⟩
                · obtain ⟨rfl, rfl⟩ := zrI h
                  exact ⟨zR_ret 42 ((if_pos g1).trans ((if_neg g2).trans ((if_neg g3).trans ((if_neg g4).trans ((if_neg g5).trans ((if_neg g6).trans ((if_neg g7).trans ((if_pos g8).trans rfl)))))))), rfl⟩
                · rcases zit h with ⟨g9, h⟩ | ⟨g9, h⟩
                  · obtain ⟨rfl, rfl⟩ := zrI h
                    exact ⟨zR_ret 47 ((if_pos g1).trans ((if_neg g2).trans ((if_neg g3).trans ((if_neg g4).trans ((if_neg g5).trans ((if_neg g6).trans ((if_neg g7).trans ((if_neg g8).trans ((if_pos g9).trans rfl))))))))), rfl⟩
                  · rcases zit h with ⟨g10, h⟩ | ⟨g10, h⟩
                    · obtain ⟨rfl, rfl⟩ := zrI h
                      exact ⟨zR_ret 52 ((if_pos g1).trans ((if_neg g2).trans ((if_neg g3).trans ((if_neg g4).trans ((if_neg g5).trans ((if_neg g6).trans ((if_neg g7).trans ((if_neg g8).trans ((if_neg g9).trans ((if_pos g10).trans rfl)))))))))), rfl⟩
                    · rcases zit h with ⟨g11, h⟩ | ⟨g11, h⟩
                      · obtain ⟨rfl, rfl⟩ := zrI h
                        exact ⟨zR_ret 57 ((if_pos g1).trans ((if_neg g2).trans ((if_neg g3).trans ((if_neg g4).trans ((if_neg g5).trans ((if_neg g6).trans ((if_neg g7).trans ((if_neg g8).trans ((if_neg g9).trans ((if_neg g10).trans ((if_pos g11).trans rfl))))))))))), rfl⟩
                      · rcases zit h with ⟨g12, h⟩ | ⟨g12, h⟩
                        · obtain ⟨rfl, rfl⟩ := zrI h
                          exact ⟨zR_ret 62 ((if_pos g1).trans ((if_neg g2).trans ((if_neg g3).trans ((if_neg g4).trans ((if_neg g5).trans ((if_neg g6).trans ((if_neg g7).trans ((if_neg g8).trans ((if_neg g9).trans ((if_neg g10).trans ((if_neg g11).trans ((if_pos g12).trans rfl)))))))))))), rfl⟩
                        · rcases zit h with ⟨g13, h⟩ | ⟨g13, h⟩
                          · obtain ⟨rfl, rfl⟩ := zrI h
                            exact ⟨zR_ret 67 ((if_pos g1).trans ((if_neg g2).trans ((if_neg g3).trans ((if_neg g4).trans ((if_neg g5).trans ((if_neg g6).trans ((if_neg g7).trans ((if_neg g8).trans ((if_neg g9).trans ((if_neg g10).trans ((if_neg g11).trans ((if_neg g12).trans ((if_pos g13).trans rfl))))))))))))), rfl⟩
                          · rcases zit h with ⟨g14, h⟩ | ⟨g14, h⟩
                            · obtain ⟨rfl, rfl⟩ := zrI h
                              exact ⟨zR_ret 72 ((if_pos g1).trans ((if_neg g2).trans ((if_neg g3).trans ((if_neg g4).trans ((if_neg g5).trans ((if_neg g6).trans ((if_neg g7).trans ((if_neg g8).trans ((if_neg g9).trans ((if_neg g10).trans ((if_neg g11).trans ((if_neg g12).trans ((if_neg g13).trans ((if_pos g14).trans rfl)))))))))))))), rfl⟩
                            · rcases zit h with ⟨g15, h⟩ | ⟨g15, h⟩
                              · obtain ⟨rfl, rfl⟩ := zrI h
                                exact ⟨zR_ret 77 ((if_pos g1).trans ((if_neg g2).trans ((if_neg g3).trans ((if_neg g4).trans ((if_neg g5).trans ((if_neg g6).trans ((if_neg g7).trans ((if_neg g8).trans ((if_neg g9).trans ((if_neg g10).trans ((if_neg g11).trans ((if_neg g12).trans ((if_neg g13).trans ((if_neg g14).trans ((if_pos g15).trans rfl))))))))))))))), rfl⟩
                              · rcases zit h with ⟨g16, h⟩ | ⟨g16, h⟩
                                · obtain ⟨rfl, rfl⟩ := zrI h
                                  exact ⟨zR_ret 82 ((if_pos g1).trans ((if_neg g2).trans ((if_neg g3).trans ((if_neg g4).trans ((if_neg g5).trans ((if_neg g6).trans ((if_neg g7).trans ((if_neg g8).trans ((if_neg g9).trans ((if_neg g10).trans ((if_neg g11).trans ((if_neg g12).trans ((if_neg g13).trans ((if_neg g14).trans ((if_neg g15).trans ((if_pos g16).trans rfl)))))))))))))))), rfl⟩
                                · rcases zit h with ⟨g17, h⟩ | ⟨g17, h⟩
                                  · obtain ⟨rfl, rfl⟩ := zrI h
                                    exact ⟨zR_ret 87 ((if_pos g1).trans ((if_neg g2).trans ((if_neg g3).trans ((if_neg g4).trans ((if_neg g5).trans ((if_neg g6).trans ((if_neg g7).trans ((if_neg g8).trans ((if_neg g9).trans ((if_neg g10).trans ((if_neg g11).trans ((if_neg g12).trans ((if_neg g13).trans ((if_neg g14).trans ((if_neg g15).trans ((if_neg g16).trans ((if_pos g17).trans rfl))))))))))))))))), rfl⟩
                                  · rcases zit h with ⟨g18, h⟩ | ⟨g18, h⟩
                                    · obtain ⟨rfl, rfl⟩ := zrI h
                                      exact ⟨zR_ret 92 ((if_pos g1).trans ((if_neg g2).trans ((if_neg g3).trans ((if_neg g4).trans ((if_neg g5).trans ((if_neg g6).trans ((if_neg g7).trans ((if_neg g8).trans ((if_neg g9).trans ((if_neg g10).trans ((if_neg g11).trans ((if_neg g12).trans ((if_neg g13).trans ((if_neg g14).trans ((if_neg g15).trans ((if_neg g16).trans ((if_neg g17).trans ((if_pos g18).trans rfl)))))))))))))))))), rfl⟩
                                    · rcases zit h with ⟨g19, h⟩ | ⟨g19, h⟩
                                      · obtain ⟨rfl, rfl⟩ := zrI h
                                        exact ⟨zR_ret 97 ((if_pos g1).trans ((if_neg g2).trans ((if_neg g3).trans ((if_neg g4).trans ((if_neg g5).trans ((if_neg g6).trans ((if_neg g7).trans ((if_neg g8).trans ((if_neg g9).trans ((if_neg g10).trans ((if_neg g11).trans ((if_neg g12).trans ((if_neg g13).trans ((if_neg g14).trans ((if_neg g15).trans ((if_neg g16).trans ((if_neg g17).trans ((if_neg g18).trans ((if_pos g19).trans rfl))))))))))))))))))), rfl⟩
                                      · rcases zit h with ⟨g20, h⟩ | ⟨g20, h⟩
                                        · obtain ⟨rfl, rfl⟩ := zrI h
                                          exact ⟨zR_ret 102 ((if_pos g1).trans ((if_neg g2).trans ((if_neg g3).trans ((if_neg g4).trans ((if_neg g5).trans ((if_neg g6).trans ((if_neg g7).trans ((if_neg g8).trans ((if_neg g9).trans ((if_neg g10).trans ((if_neg g11).trans ((if_neg g12).trans ((if_neg g13).trans ((if_neg g14).trans ((if_neg g15).trans ((if_neg g16).trans ((if_neg g17).trans ((if_neg g18).trans ((if_neg g19).trans ((if_pos g20).trans rfl)))))))))))))))))))), rfl⟩
                                        · rcases zit h with ⟨g21, h⟩ | ⟨g21, h⟩
                                          · obtain ⟨rfl, rfl⟩ := zrI h
                                            exact ⟨zR_ret 107 ((if_pos g1).trans ((if_neg g2).trans ((if_neg g3).trans ((if_neg g4).trans ((if_neg g5).trans ((if_neg g6).trans ((if_neg g7).trans ((if_neg g8).trans ((if_neg g9).trans ((if_neg g10).trans ((if_neg g11).trans ((if_neg g12).trans ((if_neg g13).trans ((if_neg g14).trans ((if_neg g15).trans ((if_neg g16).trans ((if_neg g17).trans ((if_neg g18).trans ((if_neg g19).trans ((if_neg g20).trans ((if_pos g21).trans rfl))))))))))))))))))))), rfl⟩
                                          · rcases zit h with ⟨g22, h⟩ | ⟨g22, h⟩
                                            · obtain ⟨rfl, rfl⟩ := zrI h
                                              exact ⟨zR_ret 112 ((if_pos g1).trans ((if_neg g2).trans ((if_neg g3).trans ((if_neg g4).trans ((if_neg g5).trans ((if_neg g6).trans ((if_neg g7).trans ((if_neg g8).trans ((if_neg g9).trans ((if_neg g10).trans ((if_neg g11).trans ((if_neg g12).trans ((if_neg g13).trans ((if_neg g14).trans ((if_neg g15).trans ((if_neg g16).trans ((if_neg g17).trans ((if_neg g18).trans ((if_neg g19).trans ((if_neg g20).trans ((if_neg g21).trans ((if_pos g22).trans rfl)))))))))))))))))))))), rfl⟩
                                            · rcases zit h with ⟨g23, h⟩ | ⟨g23, h⟩
                                              · obtain ⟨rfl, rfl⟩ := zrI h
                                                exact ⟨zR_ret 117 ((if_pos g1).trans ((if_neg g2).trans ((if_neg g3).trans ((if_neg g4).trans ((if_neg g5).trans ((if_neg g6).trans ((if_neg g7).trans ((if_neg g8).trans ((if_neg g9).trans ((if_neg g10).trans ((if_neg g11).trans ((if_neg g12).trans ((if_neg g13).trans ((if_neg g14).trans ((if_neg g15).trans ((if_neg g16).trans ((if_neg g17).trans ((if_neg g18).trans ((if_neg g19).trans ((if_neg g20).trans ((if_neg g21).trans ((if_neg g22).trans ((if_pos g23).trans rfl))))))))))))))))))))))), rfl⟩
                                              · rcases zit h with ⟨g24, h⟩ | ⟨g24, h⟩
                                                · obtain ⟨rfl, rfl⟩ := zrI h
                                                  exact ⟨zR_ret 122 ((if_pos g1).trans ((if_neg g2).trans ((if_neg g3).trans ((if_neg g4).trans ((if_neg g5).trans ((if_neg g6).trans ((if_neg g7).trans ((if_neg g8).trans ((if_neg g9).trans ((if_neg g10).trans ((if_neg g11).trans ((if_neg g12).trans ((if_neg g13).trans ((if_neg g14).trans ((if_neg g15).trans ((if_neg g16).trans ((if_neg g17).trans ((if_neg g18).trans ((if_neg g19).trans ((if_neg g20).trans ((if_neg g21).trans ((if_neg g22).trans ((if_neg g23).trans ((if_pos g24).trans rfl)))))))))))))))))))))))), rfl⟩
                                                · rcases zit h with ⟨g25, h⟩ | ⟨g25, h⟩
                                                  · obtain ⟨rfl, rfl⟩ := zrI h
                                                    exact ⟨zR_ret 127 ((if_pos g1).trans ((if_neg g2).trans ((if_neg g3).trans ((if_neg g4).trans ((if_neg g5).trans ((if_neg g6).trans ((if_neg g7).trans ((if_neg g8).trans ((if_neg g9).trans ((if_neg g10).trans ((if_neg g11).trans ((if_neg g12).trans ((if_neg g13).trans ((if_neg g14).trans ((if_neg g15).trans ((if_neg g16).trans ((if_neg g17).trans ((if_neg g18).trans ((if_neg g19).trans ((if_neg g20).trans ((if_neg g21).trans ((if_neg g22).trans ((if_neg g23).trans ((if_neg g24).trans ((if_pos g25).trans rfl))))))))))))))))))))))))), rfl⟩
                                                  · rcases zit h with ⟨g26, h⟩ | ⟨g26, h⟩
                                                    · obtain ⟨rfl, rfl⟩ := zrI h
                                                      exact ⟨zR_ret 132 ((if_pos g1).trans ((if_neg g2).trans ((if_neg g3).trans ((if_neg g4).trans ((if_neg g5).trans ((if_neg g6).trans ((if_neg g7).trans ((if_neg g8).trans ((if_neg g9).trans ((if_neg g10).trans ((if_neg g11).trans ((if_neg g12).trans ((if_neg g13).trans ((if_neg g14).trans ((if_neg g15).trans ((if_neg g16).trans ((if_neg g17).trans ((if_neg g18).trans ((if_neg g19).trans ((if_neg g20).trans ((if_neg g21).trans ((if_neg g22).trans ((if_neg g23).trans ((if_neg g24).trans ((if_neg g25).trans ((if_pos g26).trans rfl)))))))))))))))))))))))))), rfl⟩
                                                    · rcases zit h with ⟨g27, h⟩ | ⟨g27, h⟩
                                                      · obtain ⟨rfl, rfl⟩ := zrI h
                                                        exact ⟨zR_ret 137 ((if_pos g1).trans ((if_neg g2).trans ((if_neg g3).trans ((if_neg g4).trans ((if_neg g5).trans ((if_neg g6).trans ((if_neg g7).trans ((if_neg g8).trans ((if_neg g9).trans ((if_neg g10).trans ((if_neg g11).trans ((if_neg g12).trans ((if_neg g13).trans ((if_neg g14).trans ((if_neg g15).trans ((if_neg g16).trans ((if_neg g17).trans ((if_neg g18).trans ((if_neg g19).trans ((if_neg g20).trans ((if_neg g21).trans ((if_neg g22).trans ((if_neg g23).trans ((if_neg g24).trans ((if_neg g25).trans ((if_neg g26).trans ((if_pos g27).trans rfl))))))))))))))))))))))))))), rfl⟩
                                                      · obtain ⟨rfl, rfl⟩ := zrI h
                                                        exact ⟨zR_ret 136 ((if_pos g1).trans ((if_neg g2).trans ((if_neg g3).trans ((if_neg g4).trans ((if_neg g5).trans ((if_neg g6).trans ((if_neg g7).trans ((if_neg g8).trans ((if_neg g9).trans ((if_neg g10).trans ((if_neg g11).trans ((if_neg g12).trans ((if_neg g13).trans ((if_neg g14).trans ((if_neg g15).trans ((if_neg g16).trans ((if_neg g17).trans ((if_neg g18).trans ((if_neg g19).trans ((if_neg g20).trans ((if_neg g21).trans ((if_neg g22).trans ((if_neg g23).trans ((if_neg g24).trans ((if_neg g25).trans ((if_neg g26).trans ((if_neg g27).trans rfl))))))))))))))))))))))))))), rfl⟩
  · obtain ⟨rfl, rfl⟩ := zrI h
    exact ⟨zR_ret 6 ((if_neg g1).trans rfl), rfl⟩
set_option maxRecDepth 20000 in
theorem L_Mo_turbineNamed_5 {N d sl : Nat} {sx : Nat → Int} : ∀ {n : Nat} {a0 : Nat} {x1 : Int} {x2 : Int} {M : ZM} {x : Int} {M' : ZM}, Mo_turbineNamed_5 N n a0 x1 x2 M = some (x, M') → mK M = zK0 sl sx → zLI (d + 0) tb_X13_turbineNamed 5 [some (vR 11 (some a0)), some (vI x1), some (vI x2)] [] M x M' (zK0 sl sx) := by
  intro n
  induction n with
  | zero => intros; rename_i h _; cases h
  | succ n ih =>
    intro a0 x1 x2 M x M' h hK
    obtain ⟨I0, L0, ⟨ra0, rb0, rc0, rd0⟩, K0, c0⟩ := M
    obtain rfl : K0 = zK0 sl sx := hK
    obtain ⟨g1, h⟩ := zIx h
    rcases zit h with ⟨g2, h⟩ | ⟨g2, h⟩
    · obtain ⟨g3, h⟩ := zIx h
      rcases zit h with ⟨g4, h⟩ | ⟨g4, h⟩
      · obtain ⟨rfl, rfl⟩ := zrI h
        exact ⟨zR_ret 28 ((if_pos g1).trans ((if_pos g2).trans ((if_pos g3).trans ((if_pos g4).trans rfl)))), rfl⟩
      · replace h := zWx h
        have q := ih h rfl
        exact ⟨zR_go 24 q.1 (fun n => (if_pos g1).trans ((if_pos g2).trans ((if_pos g3).trans ((if_neg g4).trans rfl)))), q.2⟩
    · obtain ⟨rfl, rfl⟩ := zrI h
      exact ⟨zR_ret 16 ((if_pos g1).trans ((if_neg g2).trans rfl)), rfl⟩
set_option maxRecDepth 20000 in
theorem L_Mo_turbineNamed {N d sl : Nat} {sx : Nat → Int} {a0 : Nat} {x1 : Int} {M : ZM} {x : Int} {M' : ZM} (h : Mo_turbineNamed N a0 x1 M = some (x, M')) (hK : mK M = zK0 sl sx) : zLI (d + 0) tb_X13_turbineNamed 0 [some (vR 11 (some a0)), some (vI x1), none] [] M x M' (zK0 sl sx) := by
  obtain ⟨I0, L0, ⟨ra0, rb0, rc0, rd0⟩, K0, c0⟩ := M
  obtain rfl : K0 = zK0 sl sx := hK
  replace h := zWx h
  have q := L_Mo_turbineNamed_5 (d := d) h rfl
  exact ⟨zR_go 4 q.1 (fun n => rfl), q.2⟩
set_option maxRecDepth 20000 in
theorem L_Mo_needsNumber {N d sl : Nat} {sx : Nat → Int} {a0 : Nat} {x1 : Int} {x2 : Int} {M : ZM} {x : Int} {M' : ZM} (h : Mo_needsNumber N a0 x1 x2 M = some (x, M')) (hK : mK M = zK0 sl sx) : zLI (d + 2) tb_X13_needsNumber 0 [some (vR 11 (some a0)), some (vI x1), some (vI x2)] [] M x M' (zK0 sl sx) := by
  obtain ⟨I0, L0, ⟨ra0, rb0, rc0, rd0⟩, K0, c0⟩ := M
  obtain rfl : K0 = zK0 sl sx := hK
  rcases zit h with ⟨g1, h⟩ | ⟨g1, h⟩
  · obtain ⟨v101, M101, f101, h⟩ := zBx h
    have q101 := L_Mo_within (d := (d + 1)) f101 rfl
    obtain ⟨I101, L101, ⟨ra101, rb101, rc101, rd101⟩, K101, c101⟩ := M101
    obtain rfl : K101 = zK0 sl sx := q101.2
    suffices w101 : zLI (d + 2) tb_X13_needsNumber 23 [some (vR 11 (some a0)), some (vI x1), some (vI x2)] [vI v101] (I101, L101, (ra101, rb101, rc101, rd101), zK0 sl sx, c101) x M' (zK0 sl sx) from ⟨zR_call (rest := []) 9 q101.1 (fun n => (if_pos g1).trans rfl) w101.1, w101.2⟩
    rcases zit h with ⟨g2, h⟩ | ⟨g2, h⟩
    · obtain ⟨v102, M102, f102, h⟩ := zBx h
      have q102 := L_Mo_fails (d := (d + 1)) f102 rfl
      obtain ⟨I102, L102, ⟨ra102, rb102, rc102, rd102⟩, K102, c102⟩ := M102
      obtain rfl : K102 = zK0 sl sx := q102.2
      suffices w102 : zLI (d + 2) tb_X13_needsNumber 31 [some (vR 11 (some a0)), some (vI x1), some (vI x2)] [vI v102] (I102, L102, (ra102, rb102, rc102, rd102), zK0 sl sx, c102) x M' (zK0 sl sx) from ⟨zR_call (rest := []) 4 q102.1 (fun n => (if_pos g2).trans rfl) w102.1, w102.2⟩
      obtain ⟨rfl, rfl⟩ := zrI h
      exact ⟨zR_ret 1 (rfl), rfl⟩
    · replace h := zWx h
      obtain ⟨M104, f104, h⟩ := zBvx h
      have q104 := L_Mo_nextToken (d := d) f104 rfl
      obtain ⟨I104, L104, ⟨ra104, rb104, rc104, rd104⟩, K104, c104⟩ := M104
      obtain rfl : K104 = zK0 sl sx := q104.2
      suffices w104 : zLI (d + 2) tb_X13_needsNumber 44 [some (vR 11 (some a0)), some (vI x1), some (vI x2)] [] (I104, L104, (ra104, rb104, rc104, rd104), zK0 sl sx, c104) x M' (zK0 sl sx) from ⟨zR_call (rest := []) 7 q104.1 (fun n => (if_neg g2).trans rfl) w104.1, w104.2⟩
      obtain ⟨rfl, rfl⟩ := zrI h
      exact ⟨zR_ret 2 (rfl), rfl⟩
  · obtain ⟨v105, M105, f105, h⟩ := zBx h
    have q105 := L_Mo_fails (d := (d + 1)) f105 rfl
    obtain ⟨I105, L105, ⟨ra105, rb105, rc105, rd105⟩, K105, c105⟩ := M105
    obtain rfl : K105 = zK0 sl sx := q105.2
    suffices w105 : zLI (d + 2) tb_X13_needsNumber 13 [some (vR 11 (some a0)), some (vI x1), some (vI x2)] [vI v105] (I105, L105, (ra105, rb105, rc105, rd105), zK0 sl sx, c105) x M' (zK0 sl sx) from ⟨zR_call (rest := []) 7 q105.1 (fun n => (if_neg g1).trans rfl) w105.1, w105.2⟩
    obtain ⟨rfl, rfl⟩ := zrI h
    exact ⟨zR_ret 1 (rfl), rfl⟩
set_option maxRecDepth 20000 in
theorem L_Mo_needsBoth {N d sl : Nat} {sx : Nat → Int} {a0 : Nat} {x1 : Int} {x2 : Int} {x3 : Int} {M : ZM} {x : Int} {M' : ZM} (h : Mo_needsBoth N a0 x1 x2 x3 M = some (x, M')) (hK : mK M = zK0 sl sx) : zLI (d + 3) tb_X13_needsBoth 0 [some (vR 11 (some a0)), some (vL x1), none, some (vI x2), some (vI x3)] [] M x M' (zK0 sl sx) := by
  obtain ⟨I0, L0, ⟨ra0, rb0, rc0, rd0⟩, K0, c0⟩ := M
  obtain rfl : K0 = zK0 sl sx := hK
  obtain ⟨v101, M101, f101, h⟩ := zBx h
  have q101 := L_Mo_isWord (d := (d + 2)) f101 rfl
  obtain ⟨I101, L101, ⟨ra101, rb101, rc101, rd101⟩, K101, c101⟩ := M101
  obtain rfl : K101 = zK0 sl sx := q101.2
  suffices w101 : zLI (d + 3) tb_X13_needsBoth 5 [some (vR 11 (some a0)), some (vL x1), none, some (vI x2), some (vI x3)] [vI v101] (I101, L101, (ra101, rb101, rc101, rd101), zK0 sl sx, c101) x M' (zK0 sl sx) from ⟨zR_call (rest := []) 3 q101.1 (fun n => rfl) w101.1, w101.2⟩
  rcases zit h with ⟨g1, h⟩ | ⟨g1, h⟩
  · obtain ⟨v102, M102, f102, h⟩ := zBx h
    have q102 := L_Mo_fails (d := (d + 2)) f102 rfl
    obtain ⟨I102, L102, ⟨ra102, rb102, rc102, rd102⟩, K102, c102⟩ := M102
    obtain rfl : K102 = zK0 sl sx := q102.2
    suffices w102 : zLI (d + 3) tb_X13_needsBoth 13 [some (vR 11 (some a0)), some (vL x1), none, some (vI x2), some (vI x3)] [vI v102] (I102, L102, (ra102, rb102, rc102, rd102), zK0 sl sx, c102) x M' (zK0 sl sx) from ⟨zR_call (rest := []) 4 q102.1 (fun n => (if_pos g1).trans rfl) w102.1, w102.2⟩
    obtain ⟨rfl, rfl⟩ := zrI h
    exact ⟨zR_ret 1 (rfl), rfl⟩
  · obtain ⟨M103, f103, h⟩ := zBvx h
    have q103 := L_Mo_nextToken (d := (d + 1)) f103 rfl
    obtain ⟨I103, L103, ⟨ra103, rb103, rc103, rd103⟩, K103, c103⟩ := M103
    obtain rfl : K103 = zK0 sl sx := q103.2
    suffices w103 : zLI (d + 3) tb_X13_needsBoth 18 [some (vR 11 (some a0)), some (vL x1), none, some (vI x2), some (vI x3)] [] (I103, L103, (ra103, rb103, rc103, rd103), zK0 sl sx, c103) x M' (zK0 sl sx) from ⟨zR_call (rest := []) 3 q103.1 (fun n => (if_neg g1).trans rfl) w103.1, w103.2⟩
    obtain ⟨v104, M104, f104, h⟩ := zBx h
    have q104 := L_Mo_needsNumber (d := d) f104 rfl
    obtain ⟨I104, L104, ⟨ra104, rb104, rc104, rd104⟩, K104, c104⟩ := M104
    obtain rfl : K104 = zK0 sl sx := q104.2
    suffices w104 : zLI (d + 3) tb_X13_needsBoth 25 [some (vR 11 (some a0)), some (vL x1), none, some (vI x2), some (vI x3)] [vI v104] (I104, L104, (ra104, rb104, rc104, rd104), zK0 sl sx, c104) x M' (zK0 sl sx) from ⟨zR_call (rest := []) 4 q104.1 (fun n => rfl) w104.1, w104.2⟩
    obtain ⟨rfl, rfl⟩ := zrI h
    exact ⟨zR_ret 1 (rfl), rfl⟩
set_option maxRecDepth 20000 in
theorem L_Mo_closes {N d sl : Nat} {sx : Nat → Int} {a0 : Nat} {M : ZM} {x : Int} {M' : ZM} (h : Mo_closes N a0 M = some (x, M')) (hK : mK M = zK0 sl sx) : zLI (d + 2) tb_X13_closes 0 [some (vR 11 (some a0))] [] M x M' (zK0 sl sx) := by
  obtain ⟨I0, L0, ⟨ra0, rb0, rc0, rd0⟩, K0, c0⟩ := M
  obtain rfl : K0 = zK0 sl sx := hK
  obtain ⟨v101, M101, f101, h⟩ := zBx h
  have q101 := L_Mo_isSign (d := (d + 1)) f101 rfl
  obtain ⟨I101, L101, ⟨ra101, rb101, rc101, rd101⟩, K101, c101⟩ := M101
  obtain rfl : K101 = zK0 sl sx := q101.2
  suffices w101 : zLI (d + 2) tb_X13_closes 6 [some (vR 11 (some a0))] [vI v101] (I101, L101, (ra101, rb101, rc101, rd101), zK0 sl sx, c101) x M' (zK0 sl sx) from ⟨zR_call (rest := []) 3 q101.1 (fun n => rfl) w101.1, w101.2⟩
  rcases zit h with ⟨g1, h⟩ | ⟨g1, h⟩
  · obtain ⟨v102, M102, f102, h⟩ := zBx h
    have q102 := L_Mo_fails (d := (d + 1)) f102 rfl
    obtain ⟨I102, L102, ⟨ra102, rb102, rc102, rd102⟩, K102, c102⟩ := M102
    obtain rfl : K102 = zK0 sl sx := q102.2
    suffices w102 : zLI (d + 2) tb_X13_closes 14 [some (vR 11 (some a0))] [vI v102] (I102, L102, (ra102, rb102, rc102, rd102), zK0 sl sx, c102) x M' (zK0 sl sx) from ⟨zR_call (rest := []) 4 q102.1 (fun n => (if_pos g1).trans rfl) w102.1, w102.2⟩
    obtain ⟨rfl, rfl⟩ := zrI h
    exact ⟨zR_ret 1 (rfl), rfl⟩
  · obtain ⟨M103, f103, h⟩ := zBvx h
    have q103 := L_Mo_nextToken (d := d) f103 rfl
    obtain ⟨I103, L103, ⟨ra103, rb103, rc103, rd103⟩, K103, c103⟩ := M103
    obtain rfl : K103 = zK0 sl sx := q103.2
    suffices w103 : zLI (d + 2) tb_X13_closes 19 [some (vR 11 (some a0))] [] (I103, L103, (ra103, rb103, rc103, rd103), zK0 sl sx, c103) x M' (zK0 sl sx) from ⟨zR_call (rest := []) 3 q103.1 (fun n => (if_neg g1).trans rfl) w103.1, w103.2⟩
    obtain ⟨rfl, rfl⟩ := zrI h
    exact ⟨zR_ret 2 (rfl), rfl⟩
set_option maxRecDepth 20000 in
theorem L_Mo_needsTurbine {N d sl : Nat} {sx : Nat → Int} {a0 : Nat} {x1 : Int} {M : ZM} {x : Int} {M' : ZM} (h : Mo_needsTurbine N a0 x1 M = some (x, M')) (hK : mK M = zK0 sl sx) : zLI (d + 1) tb_X13_needsTurbine 0 [some (vR 11 (some a0)), some (vI x1)] [] M x M' (zK0 sl sx) := by
  obtain ⟨I0, L0, ⟨ra0, rb0, rc0, rd0⟩, K0, c0⟩ := M
  obtain rfl : K0 = zK0 sl sx := hK
  obtain ⟨v101, M101, f101, h⟩ := zBx h
  have q101 := L_Mo_isKept (d := d) f101 rfl
  obtain ⟨I101, L101, ⟨ra101, rb101, rc101, rd101⟩, K101, c101⟩ := M101
  obtain rfl : K101 = zK0 sl sx := q101.2
  suffices w101 : zLI (d + 1) tb_X13_needsTurbine 4 [some (vR 11 (some a0)), some (vI x1)] [vI v101] (I101, L101, (ra101, rb101, rc101, rd101), zK0 sl sx, c101) x M' (zK0 sl sx) from ⟨zR_call (rest := []) 2 q101.1 (fun n => rfl) w101.1, w101.2⟩
  rcases zit h with ⟨g1, h⟩ | ⟨g1, h⟩
  · obtain ⟨v102, M102, f102, h⟩ := zBx h
    have q102 := L_Mo_turbineNamed (d := d) f102 rfl
    obtain ⟨I102, L102, ⟨ra102, rb102, rc102, rd102⟩, K102, c102⟩ := M102
    obtain rfl : K102 = zK0 sl sx := q102.2
    suffices w102 : zLI (d + 1) tb_X13_needsTurbine 19 [some (vR 11 (some a0)), some (vI x1)] [vI v102, vR 11 (some a0)] (I102, L102, (ra102, rb102, rc102, rd102), zK0 sl sx, c102) x M' (zK0 sl sx) from ⟨zR_call (rest := [vR 11 (some a0)]) 5 q102.1 (fun n => (if_pos g1).trans rfl) w102.1, w102.2⟩
    replace h := zWx h
    rcases zit h with ⟨g2, h⟩ | ⟨g2, h⟩
    · obtain ⟨v104, M104, f104, h⟩ := zBx h
      have q104 := L_Mo_fails (d := d) f104 rfl
      obtain ⟨I104, L104, ⟨ra104, rb104, rc104, rd104⟩, K104, c104⟩ := M104
      obtain rfl : K104 = zK0 sl sx := q104.2
      suffices w104 : zLI (d + 1) tb_X13_needsTurbine 34 [some (vR 11 (some a0)), some (vI x1)] [vI v104] (I104, L104, (ra104, rb104, rc104, rd104), zK0 sl sx, c104) x M' (zK0 sl sx) from ⟨zR_call (rest := []) 7 q104.1 (fun n => (if_pos g2).trans rfl) w104.1, w104.2⟩
      rcases zit h with ⟨g3, h⟩ | ⟨g3, h⟩
      · obtain ⟨rfl, rfl⟩ := zrI h
        exact ⟨zR_ret 3 ((if_pos g3).trans rfl), rfl⟩
      · obtain ⟨rfl, rfl⟩ := zrI h
        exact ⟨zR_ret 4 ((if_neg g3).trans rfl), rfl⟩
    · obtain ⟨rfl, rfl⟩ := zrI h
      exact ⟨zR_ret 7 ((if_neg g2).trans rfl), rfl⟩
  · obtain ⟨v105, M105, f105, h⟩ := zBx h
    have q105 := L_Mo_fails (d := d) f105 rfl
    obtain ⟨I105, L105, ⟨ra105, rb105, rc105, rd105⟩, K105, c105⟩ := M105
    obtain rfl : K105 = zK0 sl sx := q105.2
    suffices w105 : zLI (d + 1) tb_X13_needsTurbine 12 [some (vR 11 (some a0)), some (vI x1)] [vI v105] (I105, L105, (ra105, rb105, rc105, rd105), zK0 sl sx, c105) x M' (zK0 sl sx) from ⟨zR_call (rest := []) 4 q105.1 (fun n => (if_neg g1).trans rfl) w105.1, w105.2⟩
    obtain ⟨rfl, rfl⟩ := zrI h
    exact ⟨zR_ret 1 (rfl), rfl⟩
set_option maxRecDepth 20000 in
theorem L_Mo_stands_3 {N d sl : Nat} {sx : Nat → Int} : ∀ {n : Nat} {a0 : Nat} {x1 : Int} {x2 : Int} {M : ZM} {x : Int} {M' : ZM}, Mo_stands_3 N n a0 x1 x2 M = some (x, M') → mK M = zK0 sl sx → zLI (d + 0) tb_X13_stands 3 [some (vR 11 (some a0)), some (vI x1), some (vI x2)] [] M x M' (zK0 sl sx) := by
  intro n
  induction n with
  | zero => intros; rename_i h _; cases h
  | succ n ih =>
    intro a0 x1 x2 M x M' h hK
    obtain ⟨I0, L0, ⟨ra0, rb0, rc0, rd0⟩, K0, c0⟩ := M
    obtain rfl : K0 = zK0 sl sx := hK
    rcases zit h with ⟨g1, h⟩ | ⟨g1, h⟩
    · obtain ⟨g2, h⟩ := zIx h
      rcases zit h with ⟨g3, h⟩ | ⟨g3, h⟩
      · obtain ⟨rfl, rfl⟩ := zrI h
        exact ⟨zR_ret 16 ((if_pos g1).trans ((if_pos g2).trans ((if_pos g3).trans rfl))), rfl⟩
      · replace h := zWx h
        have q := ih h rfl
        exact ⟨zR_go 16 q.1 (fun n => (if_pos g1).trans ((if_pos g2).trans ((if_neg g3).trans rfl))), q.2⟩
    · obtain ⟨rfl, rfl⟩ := zrI h
      exact ⟨zR_ret 10 ((if_neg g1).trans rfl), rfl⟩
set_option maxRecDepth 20000 in
theorem L_Mo_stands {N d sl : Nat} {sx : Nat → Int} {a0 : Nat} {x1 : Int} {M : ZM} {x : Int} {M' : ZM} (h : Mo_stands N a0 x1 M = some (x, M')) (hK : mK M = zK0 sl sx) : zLI (d + 0) tb_X13_stands 0 [some (vR 11 (some a0)), some (vI x1), none] [] M x M' (zK0 sl sx) := by
  obtain ⟨I0, L0, ⟨ra0, rb0, rc0, rd0⟩, K0, c0⟩ := M
  obtain rfl : K0 = zK0 sl sx := hK
  have q := L_Mo_stands_3 (d := d) h rfl
  exact ⟨zR_go 2 q.1 (fun n => rfl), q.2⟩
set_option maxRecDepth 20000 in
theorem L_Mo_readsTurbine_125 {N d sl : Nat} {sx : Nat → Int} {a0 : Nat} {x1 : Int} {x2 : Int} {b0 : Nat} {y1 : Int} {y2 : Int} {M : ZM} {x : Int} {M' : ZM} (h : Mo_readsTurbine_125 N a0 x1 x2 b0 y1 y2 M = some (x, M')) (hK : mK M = zK0 sl sx) : zLI (d + 4) tb_X13_readsTurbine 125 [some (vR 11 (some a0)), some (vI x1), some (vL x2), none] [vI y2, vI y1, vR 53 (some b0)] M x M' (zK0 sl sx) := by
  obtain ⟨I0, L0, ⟨ra0, rb0, rc0, rd0⟩, K0, c0⟩ := M
  obtain rfl : K0 = zK0 sl sx := hK
  obtain ⟨g1, h⟩ := zIx h
  replace h := zWx h
  obtain ⟨g2, h⟩ := zIx h
  rcases zit h with ⟨g3, h⟩ | ⟨g3, h⟩
  · obtain ⟨v102, M102, f102, h⟩ := zBx h
    have q102 := L_Mo_fails (d := (d + 3)) f102 rfl
    obtain ⟨I102, L102, ⟨ra102, rb102, rc102, rd102⟩, K102, c102⟩ := M102
    obtain rfl : K102 = zK0 sl sx := q102.2
    suffices w102 : zLI (d + 4) tb_X13_readsTurbine 140 [some (vR 11 (some a0)), some (vI x1), some (vL x2), none] [vI v102] (I102, L102, (ra102, rb102, rc102, rd102), zK0 sl sx, c102) x M' (zK0 sl sx) from ⟨zR_call (rest := []) 9 q102.1 (fun n => (if_pos g1).trans ((if_pos g2).trans ((if_pos g3).trans rfl))) w102.1, w102.2⟩
    obtain ⟨rfl, rfl⟩ := zrI h
    exact ⟨zR_ret 1 (rfl), rfl⟩
  · obtain ⟨M103, f103, h⟩ := zBvx h
    have q103 := L_Mo_nextToken (d := (d + 2)) f103 rfl
    obtain ⟨I103, L103, ⟨ra103, rb103, rc103, rd103⟩, K103, c103⟩ := M103
    obtain rfl : K103 = zK0 sl sx := q103.2
    suffices w103 : zLI (d + 4) tb_X13_readsTurbine 145 [some (vR 11 (some a0)), some (vI x1), some (vL x2), none] [] (I103, L103, (ra103, rb103, rc103, rd103), zK0 sl sx, c103) x M' (zK0 sl sx) from ⟨zR_call (rest := []) 8 q103.1 (fun n => (if_pos g1).trans ((if_pos g2).trans ((if_neg g3).trans rfl))) w103.1, w103.2⟩
    obtain ⟨v104, M104, f104, h⟩ := zBx h
    have q104 := L_Mo_needsBoth (d := d) f104 rfl
    obtain ⟨I104, L104, ⟨ra104, rb104, rc104, rd104⟩, K104, c104⟩ := M104
    obtain rfl : K104 = zK0 sl sx := q104.2
    suffices w104 : zLI (d + 4) tb_X13_readsTurbine 154 [some (vR 11 (some a0)), some (vI x1), some (vL x2), none] [vI v104] (I104, L104, (ra104, rb104, rc104, rd104), zK0 sl sx, c104) x M' (zK0 sl sx) from ⟨zR_call (rest := []) 5 q104.1 (fun n => rfl) w104.1, w104.2⟩
    rcases zit h with ⟨g4, h⟩ | ⟨g4, h⟩
    · obtain ⟨rfl, rfl⟩ := zrI h
      exact ⟨zR_ret 3 ((if_pos g4).trans rfl), rfl⟩
    · obtain ⟨g5, h⟩ := zIx h
      replace h := zWx h
      obtain ⟨v106, M106, f106, h⟩ := zBx h
      have q106 := L_Mo_isWord (d := (d + 3)) f106 rfl
      obtain ⟨I106, L106, ⟨ra106, rb106, rc106, rd106⟩, K106, c106⟩ := M106
      obtain rfl : K106 = zK0 sl sx := q106.2
      suffices w106 : zLI (d + 4) tb_X13_readsTurbine 176 [some (vR 11 (some a0)), some (vI x1), some (vL x2), none] [vI v106] (I106, L106, (ra106, rb106, rc106, rd106), zK0 sl sx, c106) x M' (zK0 sl sx) from ⟨zR_call (rest := []) 10 q106.1 (fun n => (if_neg g4).trans ((if_pos g5).trans rfl)) w106.1, w106.2⟩
      rcases zit h with ⟨g6, h⟩ | ⟨g6, h⟩
      · obtain ⟨v107, M107, f107, h⟩ := zBx h
        have q107 := L_Mo_fails (d := (d + 3)) f107 rfl
        obtain ⟨I107, L107, ⟨ra107, rb107, rc107, rd107⟩, K107, c107⟩ := M107
        obtain rfl : K107 = zK0 sl sx := q107.2
        suffices w107 : zLI (d + 4) tb_X13_readsTurbine 184 [some (vR 11 (some a0)), some (vI x1), some (vL x2), none] [vI v107] (I107, L107, (ra107, rb107, rc107, rd107), zK0 sl sx, c107) x M' (zK0 sl sx) from ⟨zR_call (rest := []) 4 q107.1 (fun n => (if_pos g6).trans rfl) w107.1, w107.2⟩
        obtain ⟨rfl, rfl⟩ := zrI h
        exact ⟨zR_ret 1 (rfl), rfl⟩
      · obtain ⟨M108, f108, h⟩ := zBvx h
        have q108 := L_Mo_nextToken (d := (d + 2)) f108 rfl
        obtain ⟨I108, L108, ⟨ra108, rb108, rc108, rd108⟩, K108, c108⟩ := M108
        obtain rfl : K108 = zK0 sl sx := q108.2
        suffices w108 : zLI (d + 4) tb_X13_readsTurbine 189 [some (vR 11 (some a0)), some (vI x1), some (vL x2), none] [] (I108, L108, (ra108, rb108, rc108, rd108), zK0 sl sx, c108) x M' (zK0 sl sx) from ⟨zR_call (rest := []) 3 q108.1 (fun n => (if_neg g6).trans rfl) w108.1, w108.2⟩
        rcases zit h with ⟨g7, h⟩ | ⟨g7, h⟩
        · rcases zit h with ⟨g8, h⟩ | ⟨g8, h⟩
          · obtain ⟨v109, M109, f109, h⟩ := zBx h
            have q109 := L_Mo_fails (d := (d + 3)) f109 rfl
            obtain ⟨I109, L109, ⟨ra109, rb109, rc109, rd109⟩, K109, c109⟩ := M109
            obtain rfl : K109 = zK0 sl sx := q109.2
            suffices w109 : zLI (d + 4) tb_X13_readsTurbine 217 [some (vR 11 (some a0)), some (vI x1), some (vL x2), none] [vI v109] (I109, L109, (ra109, rb109, rc109, rd109), zK0 sl sx, c109) x M' (zK0 sl sx) from ⟨zR_call (rest := []) 11 q109.1 (fun n => (if_pos g7).trans ((if_pos g8).trans rfl)) w109.1, w109.2⟩
            obtain ⟨rfl, rfl⟩ := zrI h
            exact ⟨zR_ret 1 (rfl), rfl⟩
          · obtain ⟨v110, M110, f110, h⟩ := zBx h
            have q110 := L_Mo_stands (d := (d + 3)) f110 rfl
            obtain ⟨I110, L110, ⟨ra110, rb110, rc110, rd110⟩, K110, c110⟩ := M110
            obtain rfl : K110 = zK0 sl sx := q110.2
            suffices w110 : zLI (d + 4) tb_X13_readsTurbine 226 [some (vR 11 (some a0)), some (vI x1), some (vL x2), none] [vI v110] (I110, L110, (ra110, rb110, rc110, rd110), zK0 sl sx, c110) x M' (zK0 sl sx) from ⟨zR_call (rest := []) 12 q110.1 (fun n => (if_pos g7).trans ((if_neg g8).trans rfl)) w110.1, w110.2⟩
            rcases zit h with ⟨g9, h⟩ | ⟨g9, h⟩
            · obtain ⟨g10, h⟩ := zIx h
              replace h := zWx h
              obtain ⟨M112, f112, h⟩ := zBvx h
              have q112 := L_Mo_nextToken (d := (d + 2)) f112 rfl
              obtain ⟨I112, L112, ⟨ra112, rb112, rc112, rd112⟩, K112, c112⟩ := M112
              obtain rfl : K112 = zK0 sl sx := q112.2
              suffices w112 : zLI (d + 4) tb_X13_readsTurbine 249 [some (vR 11 (some a0)), some (vI x1), some (vL x2), none] [] (I112, L112, (ra112, rb112, rc112, rd112), zK0 sl sx, c112) x M' (zK0 sl sx) from ⟨zR_call (rest := []) 9 q112.1 (fun n => (if_pos g9).trans ((if_pos g10).trans rfl)) w112.1, w112.2⟩
              obtain ⟨g11, h⟩ := zIx h
              replace h := zWx h
              obtain ⟨g12, h⟩ := zIx h
              replace h := zWx h
              obtain ⟨g13, h⟩ := zIx h
              replace h := zWx h
              replace h := zWx h
              obtain ⟨v117, M117, f117, h⟩ := zBx h
              have q117 := L_Mo_closes (d := (d + 1)) f117 rfl
              obtain ⟨I117, L117, ⟨ra117, rb117, rc117, rd117⟩, K117, c117⟩ := M117
              obtain rfl : K117 = zK0 sl sx := q117.2
              suffices w117 : zLI (d + 4) tb_X13_readsTurbine 285 [some (vR 11 (some a0)), some (vI x1), some (vL x2), none] [vI v117] (I117, L117, (ra117, rb117, rc117, rd117), zK0 sl sx, c117) x M' (zK0 sl sx) from ⟨zR_call (rest := []) 25 q117.1 (fun n => (if_pos g11).trans ((if_pos g12).trans ((if_pos g13).trans rfl))) w117.1, w117.2⟩
              obtain ⟨rfl, rfl⟩ := zrI h
              exact ⟨zR_ret 1 (rfl), rfl⟩
            · obtain ⟨v118, M118, f118, h⟩ := zBx h
              have q118 := L_Mo_fails (d := (d + 3)) f118 rfl
              obtain ⟨I118, L118, ⟨ra118, rb118, rc118, rd118⟩, K118, c118⟩ := M118
              obtain rfl : K118 = zK0 sl sx := q118.2
              suffices w118 : zLI (d + 4) tb_X13_readsTurbine 234 [some (vR 11 (some a0)), some (vI x1), some (vL x2), none] [vI v118] (I118, L118, (ra118, rb118, rc118, rd118), zK0 sl sx, c118) x M' (zK0 sl sx) from ⟨zR_call (rest := []) 4 q118.1 (fun n => (if_neg g9).trans rfl) w118.1, w118.2⟩
              obtain ⟨rfl, rfl⟩ := zrI h
              exact ⟨zR_ret 1 (rfl), rfl⟩
        · obtain ⟨v119, M119, f119, h⟩ := zBx h
          have q119 := L_Mo_fails (d := (d + 3)) f119 rfl
          obtain ⟨I119, L119, ⟨ra119, rb119, rc119, rd119⟩, K119, c119⟩ := M119
          obtain rfl : K119 = zK0 sl sx := q119.2
          suffices w119 : zLI (d + 4) tb_X13_readsTurbine 202 [some (vR 11 (some a0)), some (vI x1), some (vL x2), none] [vI v119] (I119, L119, (ra119, rb119, rc119, rd119), zK0 sl sx, c119) x M' (zK0 sl sx) from ⟨zR_call (rest := []) 7 q119.1 (fun n => (if_neg g7).trans rfl) w119.1, w119.2⟩
          obtain ⟨rfl, rfl⟩ := zrI h
          exact ⟨zR_ret 1 (rfl), rfl⟩
set_option maxRecDepth 20000 in
theorem L_Mo_readsTurbine {N d sl : Nat} {sx : Nat → Int} {a0 : Nat} {M : ZM} {x : Int} {M' : ZM} (h : Mo_readsTurbine N a0 M = some (x, M')) (hK : mK M = zK0 sl sx) : zLI (d + 4) tb_X13_readsTurbine 0 [some (vR 11 (some a0)), none, none, none] [] M x M' (zK0 sl sx) := by
  obtain ⟨I0, L0, ⟨ra0, rb0, rc0, rd0⟩, K0, c0⟩ := M
  obtain rfl : K0 = zK0 sl sx := hK
  replace h := zWx h
  rcases zit h with ⟨g1, h⟩ | ⟨g1, h⟩
  · obtain ⟨v102, M102, f102, h⟩ := zBx h
    have q102 := L_Mo_fails (d := (d + 3)) f102 rfl
    obtain ⟨I102, L102, ⟨ra102, rb102, rc102, rd102⟩, K102, c102⟩ := M102
    obtain rfl : K102 = zK0 sl sx := q102.2
    suffices w102 : zLI (d + 4) tb_X13_readsTurbine 22 [some (vR 11 (some a0)), some (vI (z32 (6 + (mI (I0, L0, (ra0, rb0, rc0, rd0), zK0 sl sx, c0) 51 a0 9)))), none, none] [vI v102] (I102, L102, (ra102, rb102, rc102, rd102), zK0 sl sx, c102) x M' (zK0 sl sx) from ⟨zR_call (rest := []) 13 q102.1 (fun n => (if_pos g1).trans rfl) w102.1, w102.2⟩
    obtain ⟨rfl, rfl⟩ := zrI h
    exact ⟨zR_ret 1 (rfl), rfl⟩
  · obtain ⟨M103, f103, h⟩ := zBvx h
    have q103 := L_Mo_nextToken (d := (d + 2)) f103 rfl
    obtain ⟨I103, L103, ⟨ra103, rb103, rc103, rd103⟩, K103, c103⟩ := M103
    obtain rfl : K103 = zK0 sl sx := q103.2
    suffices w103 : zLI (d + 4) tb_X13_readsTurbine 27 [some (vR 11 (some a0)), some (vI (z32 (6 + (mI (I0, L0, (ra0, rb0, rc0, rd0), zK0 sl sx, c0) 51 a0 9)))), none, none] [] (I103, L103, (ra103, rb103, rc103, rd103), zK0 sl sx, c103) x M' (zK0 sl sx) from ⟨zR_call (rest := []) 12 q103.1 (fun n => (if_neg g1).trans rfl) w103.1, w103.2⟩
    obtain ⟨v104, M104, f104, h⟩ := zBx h
    have q104 := L_Mo_isKept (d := (d + 3)) f104 rfl
    obtain ⟨I104, L104, ⟨ra104, rb104, rc104, rd104⟩, K104, c104⟩ := M104
    obtain rfl : K104 = zK0 sl sx := q104.2
    suffices w104 : zLI (d + 4) tb_X13_readsTurbine 31 [some (vR 11 (some a0)), some (vI (z32 (6 + (mI (I0, L0, (ra0, rb0, rc0, rd0), zK0 sl sx, c0) 51 a0 9)))), none, none] [vI v104] (I104, L104, (ra104, rb104, rc104, rd104), zK0 sl sx, c104) x M' (zK0 sl sx) from ⟨zR_call (rest := []) 2 q104.1 (fun n => rfl) w104.1, w104.2⟩
    rcases zit h with ⟨g2, h⟩ | ⟨g2, h⟩
    · obtain ⟨v105, M105, f105, h⟩ := zBx h
      have q105 := L_Mo_turbineNamed (d := (d + 3)) f105 rfl
      obtain ⟨I105, L105, ⟨ra105, rb105, rc105, rd105⟩, K105, c105⟩ := M105
      obtain rfl : K105 = zK0 sl sx := q105.2
      suffices w105 : zLI (d + 4) tb_X13_readsTurbine 45 [some (vR 11 (some a0)), some (vI (z32 (6 + (mI (I0, L0, (ra0, rb0, rc0, rd0), zK0 sl sx, c0) 51 a0 9)))), none, none] [vI v105] (I105, L105, (ra105, rb105, rc105, rd105), zK0 sl sx, c105) x M' (zK0 sl sx) from ⟨zR_call (rest := []) 4 q105.1 (fun n => (if_pos g2).trans rfl) w105.1, w105.2⟩
      rcases zit h with ⟨g3, h⟩ | ⟨g3, h⟩
      · replace h := zWx h
        obtain ⟨M107, f107, h⟩ := zBvx h
        have q107 := L_Mo_nextToken (d := (d + 2)) f107 rfl
        obtain ⟨I107, L107, ⟨ra107, rb107, rc107, rd107⟩, K107, c107⟩ := M107
        obtain rfl : K107 = zK0 sl sx := q107.2
        suffices w107 : zLI (d + 4) tb_X13_readsTurbine 63 [some (vR 11 (some a0)), some (vI (z32 (6 + (mI (I0, L0, (ra0, rb0, rc0, rd0), zK0 sl sx, c0) 51 a0 9)))), some (vL (mL (I105, L105, (ra105, rb105, rc105, rd105), zK0 sl sx, c105) 11 a0 7)), none] [] (I107, L107, (ra107, rb107, rc107, rd107), zK0 sl sx, c107) x M' (zK0 sl sx) from ⟨zR_call (rest := []) 6 q107.1 (fun n => (if_pos g3).trans rfl) w107.1, w107.2⟩
        obtain ⟨v108, M108, f108, h⟩ := zBx h
        have q108 := L_Mo_isWord (d := (d + 3)) f108 rfl
        obtain ⟨I108, L108, ⟨ra108, rb108, rc108, rd108⟩, K108, c108⟩ := M108
        obtain rfl : K108 = zK0 sl sx := q108.2
        suffices w108 : zLI (d + 4) tb_X13_readsTurbine 75 [some (vR 11 (some a0)), some (vI (z32 (6 + (mI (I0, L0, (ra0, rb0, rc0, rd0), zK0 sl sx, c0) 51 a0 9)))), some (vL (mL (I105, L105, (ra105, rb105, rc105, rd105), zK0 sl sx, c105) 11 a0 7)), none] [vI v108, vI (z32 (6 + (mI (I0, L0, (ra0, rb0, rc0, rd0), zK0 sl sx, c0) 51 a0 9))), vR 53 (some a0)] (I108, L108, (ra108, rb108, rc108, rd108), zK0 sl sx, c108) x M' (zK0 sl sx) from ⟨zR_call (rest := [vI (z32 (6 + (mI (I0, L0, (ra0, rb0, rc0, rd0), zK0 sl sx, c0) 51 a0 9))), vR 53 (some a0)]) 6 q108.1 (fun n => rfl) w108.1, w108.2⟩
        rcases zit h with ⟨g4, h⟩ | ⟨g4, h⟩
        · obtain ⟨v109, M109, f109, h⟩ := zBx h
          have q109 := L_Mo_isWord (d := (d + 3)) f109 rfl
          obtain ⟨I109, L109, ⟨ra109, rb109, rc109, rd109⟩, K109, c109⟩ := M109
          obtain rfl : K109 = zK0 sl sx := q109.2
          suffices w109 : zLI (d + 4) tb_X13_readsTurbine 89 [some (vR 11 (some a0)), some (vI (z32 (6 + (mI (I0, L0, (ra0, rb0, rc0, rd0), zK0 sl sx, c0) 51 a0 9)))), some (vL (mL (I105, L105, (ra105, rb105, rc105, rd105), zK0 sl sx, c105) 11 a0 7)), none] [vI v109, vI (z32 (6 + (mI (I0, L0, (ra0, rb0, rc0, rd0), zK0 sl sx, c0) 51 a0 9))), vR 53 (some a0)] (I109, L109, (ra109, rb109, rc109, rd109), zK0 sl sx, c109) x M' (zK0 sl sx) from ⟨zR_call (rest := [vI (z32 (6 + (mI (I0, L0, (ra0, rb0, rc0, rd0), zK0 sl sx, c0) 51 a0 9))), vR 53 (some a0)]) 4 q109.1 (fun n => (if_pos g4).trans rfl) w109.1, w109.2⟩
          rcases zit h with ⟨g5, h⟩ | ⟨g5, h⟩
          · obtain ⟨v110, M110, f110, h⟩ := zBx h
            have q110 := L_Mo_isWord (d := (d + 3)) f110 rfl
            obtain ⟨I110, L110, ⟨ra110, rb110, rc110, rd110⟩, K110, c110⟩ := M110
            obtain rfl : K110 = zK0 sl sx := q110.2
            suffices w110 : zLI (d + 4) tb_X13_readsTurbine 103 [some (vR 11 (some a0)), some (vI (z32 (6 + (mI (I0, L0, (ra0, rb0, rc0, rd0), zK0 sl sx, c0) 51 a0 9)))), some (vL (mL (I105, L105, (ra105, rb105, rc105, rd105), zK0 sl sx, c105) 11 a0 7)), none] [vI v110, vI (z32 (6 + (mI (I0, L0, (ra0, rb0, rc0, rd0), zK0 sl sx, c0) 51 a0 9))), vR 53 (some a0)] (I110, L110, (ra110, rb110, rc110, rd110), zK0 sl sx, c110) x M' (zK0 sl sx) from ⟨zR_call (rest := [vI (z32 (6 + (mI (I0, L0, (ra0, rb0, rc0, rd0), zK0 sl sx, c0) 51 a0 9))), vR 53 (some a0)]) 4 q110.1 (fun n => (if_pos g5).trans rfl) w110.1, w110.2⟩
            rcases zit h with ⟨g6, h⟩ | ⟨g6, h⟩
            · obtain ⟨v111, M111, f111, h⟩ := zBx h
              have q111 := L_Mo_isWord (d := (d + 3)) f111 rfl
              obtain ⟨I111, L111, ⟨ra111, rb111, rc111, rd111⟩, K111, c111⟩ := M111
              obtain rfl : K111 = zK0 sl sx := q111.2
              suffices w111 : zLI (d + 4) tb_X13_readsTurbine 117 [some (vR 11 (some a0)), some (vI (z32 (6 + (mI (I0, L0, (ra0, rb0, rc0, rd0), zK0 sl sx, c0) 51 a0 9)))), some (vL (mL (I105, L105, (ra105, rb105, rc105, rd105), zK0 sl sx, c105) 11 a0 7)), none] [vI v111, vI (z32 (6 + (mI (I0, L0, (ra0, rb0, rc0, rd0), zK0 sl sx, c0) 51 a0 9))), vR 53 (some a0)] (I111, L111, (ra111, rb111, rc111, rd111), zK0 sl sx, c111) x M' (zK0 sl sx) from ⟨zR_call (rest := [vI (z32 (6 + (mI (I0, L0, (ra0, rb0, rc0, rd0), zK0 sl sx, c0) 51 a0 9))), vR 53 (some a0)]) 4 q111.1 (fun n => (if_pos g6).trans rfl) w111.1, w111.2⟩
              rcases zit h with ⟨g7, h⟩ | ⟨g7, h⟩
              · have q := L_Mo_readsTurbine_125 (d := d) h rfl
                exact ⟨zR_go 2 q.1 (fun n => (if_pos g7).trans rfl), q.2⟩
              · have q := L_Mo_readsTurbine_125 (d := d) h rfl
                exact ⟨zR_go 3 q.1 (fun n => (if_neg g7).trans rfl), q.2⟩
            · have q := L_Mo_readsTurbine_125 (d := d) h rfl
              exact ⟨zR_go 3 q.1 (fun n => (if_neg g6).trans rfl), q.2⟩
          · have q := L_Mo_readsTurbine_125 (d := d) h rfl
            exact ⟨zR_go 3 q.1 (fun n => (if_neg g5).trans rfl), q.2⟩
        · have q := L_Mo_readsTurbine_125 (d := d) h rfl
          exact ⟨zR_go 3 q.1 (fun n => (if_neg g4).trans rfl), q.2⟩
      · obtain ⟨v112, M112, f112, h⟩ := zBx h
        have q112 := L_Mo_fails (d := (d + 3)) f112 rfl
        obtain ⟨I112, L112, ⟨ra112, rb112, rc112, rd112⟩, K112, c112⟩ := M112
        obtain rfl : K112 = zK0 sl sx := q112.2
        suffices w112 : zLI (d + 4) tb_X13_readsTurbine 53 [some (vR 11 (some a0)), some (vI (z32 (6 + (mI (I0, L0, (ra0, rb0, rc0, rd0), zK0 sl sx, c0) 51 a0 9)))), none, none] [vI v112] (I112, L112, (ra112, rb112, rc112, rd112), zK0 sl sx, c112) x M' (zK0 sl sx) from ⟨zR_call (rest := []) 4 q112.1 (fun n => (if_neg g3).trans rfl) w112.1, w112.2⟩
        obtain ⟨rfl, rfl⟩ := zrI h
        exact ⟨zR_ret 1 (rfl), rfl⟩
    · obtain ⟨v113, M113, f113, h⟩ := zBx h
      have q113 := L_Mo_fails (d := (d + 3)) f113 rfl
      obtain ⟨I113, L113, ⟨ra113, rb113, rc113, rd113⟩, K113, c113⟩ := M113
      obtain rfl : K113 = zK0 sl sx := q113.2
      suffices w113 : zLI (d + 4) tb_X13_readsTurbine 39 [some (vR 11 (some a0)), some (vI (z32 (6 + (mI (I0, L0, (ra0, rb0, rc0, rd0), zK0 sl sx, c0) 51 a0 9)))), none, none] [vI v113] (I113, L113, (ra113, rb113, rc113, rd113), zK0 sl sx, c113) x M' (zK0 sl sx) from ⟨zR_call (rest := []) 4 q113.1 (fun n => (if_neg g2).trans rfl) w113.1, w113.2⟩
      obtain ⟨rfl, rfl⟩ := zrI h
      exact ⟨zR_ret 1 (rfl), rfl⟩
set_option maxRecDepth 20000 in
theorem L_Mo_readsCable_113 {N d sl : Nat} {sx : Nat → Int} {a0 : Nat} {x1 : Int} {x2 : Int} {M : ZM} {x : Int} {M' : ZM} (h : Mo_readsCable_113 N a0 x1 x2 M = some (x, M')) (hK : mK M = zK0 sl sx) : zLI (d + 4) tb_X13_readsCable 113 [some (vR 11 (some a0)), some (vI x1), some (vI x2)] [] M x M' (zK0 sl sx) := by
  obtain ⟨I0, L0, ⟨ra0, rb0, rc0, rd0⟩, K0, c0⟩ := M
  obtain rfl : K0 = zK0 sl sx := hK
  obtain ⟨M101, f101, h⟩ := zBvx h
  have q101 := L_Mo_nextToken (d := (d + 2)) f101 rfl
  obtain ⟨I101, L101, ⟨ra101, rb101, rc101, rd101⟩, K101, c101⟩ := M101
  obtain rfl : K101 = zK0 sl sx := q101.2
  suffices w101 : zLI (d + 4) tb_X13_readsCable 117 [some (vR 11 (some a0)), some (vI x1), some (vI x2)] [] (I101, L101, (ra101, rb101, rc101, rd101), zK0 sl sx, c101) x M' (zK0 sl sx) from ⟨zR_call (rest := []) 2 q101.1 (fun n => rfl) w101.1, w101.2⟩
  obtain ⟨v102, M102, f102, h⟩ := zBx h
  have q102 := L_Mo_needsBoth (d := d) f102 rfl
  obtain ⟨I102, L102, ⟨ra102, rb102, rc102, rd102⟩, K102, c102⟩ := M102
  obtain rfl : K102 = zK0 sl sx := q102.2
  suffices w102 : zLI (d + 4) tb_X13_readsCable 128 [some (vR 11 (some a0)), some (vI x1), some (vI x2)] [vI v102] (I102, L102, (ra102, rb102, rc102, rd102), zK0 sl sx, c102) x M' (zK0 sl sx) from ⟨zR_call (rest := []) 5 q102.1 (fun n => rfl) w102.1, w102.2⟩
  rcases zit h with ⟨g1, h⟩ | ⟨g1, h⟩
  · obtain ⟨rfl, rfl⟩ := zrI h
    exact ⟨zR_ret 3 ((if_pos g1).trans rfl), rfl⟩
  · obtain ⟨g2, h⟩ := zIx h
    replace h := zWx h
    obtain ⟨g3, h⟩ := zIx h
    replace h := zWx h
    obtain ⟨v105, M105, f105, h⟩ := zBx h
    have q105 := L_Mo_closes (d := (d + 1)) f105 rfl
    obtain ⟨I105, L105, ⟨ra105, rb105, rc105, rd105⟩, K105, c105⟩ := M105
    obtain rfl : K105 = zK0 sl sx := q105.2
    suffices w105 : zLI (d + 4) tb_X13_readsCable 154 [some (vR 11 (some a0)), some (vI x1), some (vI x2)] [vI v105] (I105, L105, (ra105, rb105, rc105, rd105), zK0 sl sx, c105) x M' (zK0 sl sx) from ⟨zR_call (rest := []) 14 q105.1 (fun n => (if_neg g1).trans ((if_pos g2).trans ((if_pos g3).trans rfl))) w105.1, w105.2⟩
    obtain ⟨rfl, rfl⟩ := zrI h
    exact ⟨zR_ret 1 (rfl), rfl⟩
set_option maxRecDepth 20000 in
theorem L_Mo_readsCable {N d sl : Nat} {sx : Nat → Int} {a0 : Nat} {M : ZM} {x : Int} {M' : ZM} (h : Mo_readsCable N a0 M = some (x, M')) (hK : mK M = zK0 sl sx) : zLI (d + 4) tb_X13_readsCable 0 [some (vR 11 (some a0)), none, none] [] M x M' (zK0 sl sx) := by
  obtain ⟨I0, L0, ⟨ra0, rb0, rc0, rd0⟩, K0, c0⟩ := M
  obtain rfl : K0 = zK0 sl sx := hK
  obtain ⟨M101, f101, h⟩ := zBvx h
  have q101 := L_Mo_nextToken (d := (d + 2)) f101 rfl
  obtain ⟨I101, L101, ⟨ra101, rb101, rc101, rd101⟩, K101, c101⟩ := M101
  obtain rfl : K101 = zK0 sl sx := q101.2
  suffices w101 : zLI (d + 4) tb_X13_readsCable 4 [some (vR 11 (some a0)), none, none] [] (I101, L101, (ra101, rb101, rc101, rd101), zK0 sl sx, c101) x M' (zK0 sl sx) from ⟨zR_call (rest := []) 2 q101.1 (fun n => rfl) w101.1, w101.2⟩
  obtain ⟨v102, M102, f102, h⟩ := zBx h
  have q102 := L_Mo_needsTurbine (d := (d + 2)) f102 rfl
  obtain ⟨I102, L102, ⟨ra102, rb102, rc102, rd102⟩, K102, c102⟩ := M102
  obtain rfl : K102 = zK0 sl sx := q102.2
  suffices w102 : zLI (d + 4) tb_X13_readsCable 9 [some (vR 11 (some a0)), none, none] [vI v102] (I102, L102, (ra102, rb102, rc102, rd102), zK0 sl sx, c102) x M' (zK0 sl sx) from ⟨zR_call (rest := []) 3 q102.1 (fun n => rfl) w102.1, w102.2⟩
  rcases zit h with ⟨g1, h⟩ | ⟨g1, h⟩
  · obtain ⟨rfl, rfl⟩ := zrI h
    exact ⟨zR_ret 3 ((if_pos g1).trans rfl), rfl⟩
  · replace h := zWx h
    obtain ⟨g2, h⟩ := zIx h
    rcases zit h with ⟨g3, h⟩ | ⟨g3, h⟩
    · obtain ⟨M104, f104, h⟩ := zBvx h
      have q104 := L_Mo_nextToken (d := (d + 2)) f104 rfl
      obtain ⟨I104, L104, ⟨ra104, rb104, rc104, rd104⟩, K104, c104⟩ := M104
      obtain rfl : K104 = zK0 sl sx := q104.2
      suffices w104 : zLI (d + 4) tb_X13_readsCable 41 [some (vR 11 (some a0)), some (vI (z32 (6 + (mI (I102, L102, (ra102, rb102, rc102, rd102), zK0 sl sx, c102) 11 a0 35)))), none] [] (I104, L104, (ra104, rb104, rc104, rd104), zK0 sl sx, c104) x M' (zK0 sl sx) from ⟨zR_call (rest := []) 13 q104.1 (fun n => (if_neg g1).trans ((if_pos g2).trans ((if_pos g3).trans rfl))) w104.1, w104.2⟩
      obtain ⟨v105, M105, f105, h⟩ := zBx h
      have q105 := L_Mo_isWord (d := (d + 3)) f105 rfl
      obtain ⟨I105, L105, ⟨ra105, rb105, rc105, rd105⟩, K105, c105⟩ := M105
      obtain rfl : K105 = zK0 sl sx := q105.2
      suffices w105 : zLI (d + 4) tb_X13_readsCable 51 [some (vR 11 (some a0)), some (vI (z32 (6 + (mI (I102, L102, (ra102, rb102, rc102, rd102), zK0 sl sx, c102) 11 a0 35)))), some (vI 6)] [vI v105] (I105, L105, (ra105, rb105, rc105, rd105), zK0 sl sx, c105) x M' (zK0 sl sx) from ⟨zR_call (rest := []) 5 q105.1 (fun n => rfl) w105.1, w105.2⟩
      rcases zit h with ⟨g4, h⟩ | ⟨g4, h⟩
      · obtain ⟨v106, M106, f106, h⟩ := zBx h
        have q106 := L_Mo_isWord (d := (d + 3)) f106 rfl
        obtain ⟨I106, L106, ⟨ra106, rb106, rc106, rd106⟩, K106, c106⟩ := M106
        obtain rfl : K106 = zK0 sl sx := q106.2
        suffices w106 : zLI (d + 4) tb_X13_readsCable 104 [some (vR 11 (some a0)), some (vI (z32 (6 + (mI (I102, L102, (ra102, rb102, rc102, rd102), zK0 sl sx, c102) 11 a0 35)))), some (vI 6)] [vI v106] (I106, L106, (ra106, rb106, rc106, rd106), zK0 sl sx, c106) x M' (zK0 sl sx) from ⟨zR_call (rest := []) 4 q106.1 (fun n => (if_pos g4).trans rfl) w106.1, w106.2⟩
        rcases zit h with ⟨g5, h⟩ | ⟨g5, h⟩
        · obtain ⟨v107, M107, f107, h⟩ := zBx h
          have q107 := L_Mo_fails (d := (d + 3)) f107 rfl
          obtain ⟨I107, L107, ⟨ra107, rb107, rc107, rd107⟩, K107, c107⟩ := M107
          obtain rfl : K107 = zK0 sl sx := q107.2
          suffices w107 : zLI (d + 4) tb_X13_readsCable 112 [some (vR 11 (some a0)), some (vI (z32 (6 + (mI (I102, L102, (ra102, rb102, rc102, rd102), zK0 sl sx, c102) 11 a0 35)))), some (vI 6)] [vI v107] (I107, L107, (ra107, rb107, rc107, rd107), zK0 sl sx, c107) x M' (zK0 sl sx) from ⟨zR_call (rest := []) 4 q107.1 (fun n => (if_pos g5).trans rfl) w107.1, w107.2⟩
          obtain ⟨rfl, rfl⟩ := zrI h
          exact ⟨zR_ret 1 (rfl), rfl⟩
        · have q := L_Mo_readsCable_113 (d := d) h rfl
          exact ⟨zR_go 1 q.1 (fun n => (if_neg g5).trans rfl), q.2⟩
      · obtain ⟨M108, f108, h⟩ := zBvx h
        have q108 := L_Mo_nextToken (d := (d + 2)) f108 rfl
        obtain ⟨I108, L108, ⟨ra108, rb108, rc108, rd108⟩, K108, c108⟩ := M108
        obtain rfl : K108 = zK0 sl sx := q108.2
        suffices w108 : zLI (d + 4) tb_X13_readsCable 58 [some (vR 11 (some a0)), some (vI (z32 (6 + (mI (I102, L102, (ra102, rb102, rc102, rd102), zK0 sl sx, c102) 11 a0 35)))), some (vI 6)] [] (I108, L108, (ra108, rb108, rc108, rd108), zK0 sl sx, c108) x M' (zK0 sl sx) from ⟨zR_call (rest := []) 3 q108.1 (fun n => (if_neg g4).trans rfl) w108.1, w108.2⟩
        obtain ⟨v109, M109, f109, h⟩ := zBx h
        have q109 := L_Mo_needsTurbine (d := (d + 2)) f109 rfl
        obtain ⟨I109, L109, ⟨ra109, rb109, rc109, rd109⟩, K109, c109⟩ := M109
        obtain rfl : K109 = zK0 sl sx := q109.2
        suffices w109 : zLI (d + 4) tb_X13_readsCable 63 [some (vR 11 (some a0)), some (vI (z32 (6 + (mI (I102, L102, (ra102, rb102, rc102, rd102), zK0 sl sx, c102) 11 a0 35)))), some (vI 6)] [vI v109] (I109, L109, (ra109, rb109, rc109, rd109), zK0 sl sx, c109) x M' (zK0 sl sx) from ⟨zR_call (rest := []) 3 q109.1 (fun n => rfl) w109.1, w109.2⟩
        rcases zit h with ⟨g6, h⟩ | ⟨g6, h⟩
        · obtain ⟨rfl, rfl⟩ := zrI h
          exact ⟨zR_ret 3 ((if_pos g6).trans rfl), rfl⟩
        · obtain ⟨g7, h⟩ := zIx h
          rcases zit h with ⟨g8, h⟩ | ⟨g8, h⟩
          · obtain ⟨v110, M110, f110, h⟩ := zBx h
            have q110 := L_Mo_fails (d := (d + 3)) f110 rfl
            obtain ⟨I110, L110, ⟨ra110, rb110, rc110, rd110⟩, K110, c110⟩ := M110
            obtain rfl : K110 = zK0 sl sx := q110.2
            suffices w110 : zLI (d + 4) tb_X13_readsCable 88 [some (vR 11 (some a0)), some (vI (z32 (6 + (mI (I102, L102, (ra102, rb102, rc102, rd102), zK0 sl sx, c102) 11 a0 35)))), some (vI 6)] [vI v110] (I110, L110, (ra110, rb110, rc110, rd110), zK0 sl sx, c110) x M' (zK0 sl sx) from ⟨zR_call (rest := []) 12 q110.1 (fun n => (if_neg g6).trans ((if_pos g7).trans ((if_pos g8).trans rfl))) w110.1, w110.2⟩
            obtain ⟨rfl, rfl⟩ := zrI h
            exact ⟨zR_ret 1 (rfl), rfl⟩
          · replace h := zWx h
            have q := L_Mo_readsCable_113 (d := d) h rfl
            exact ⟨zR_go 13 q.1 (fun n => (if_neg g6).trans ((if_pos g7).trans ((if_neg g8).trans rfl))), q.2⟩
    · obtain ⟨v112, M112, f112, h⟩ := zBx h
      have q112 := L_Mo_fails (d := (d + 3)) f112 rfl
      obtain ⟨I112, L112, ⟨ra112, rb112, rc112, rd112⟩, K112, c112⟩ := M112
      obtain rfl : K112 = zK0 sl sx := q112.2
      suffices w112 : zLI (d + 4) tb_X13_readsCable 36 [some (vR 11 (some a0)), some (vI (z32 (6 + (mI (I102, L102, (ra102, rb102, rc102, rd102), zK0 sl sx, c102) 11 a0 35)))), none] [vI v112] (I112, L112, (ra112, rb112, rc112, rd112), zK0 sl sx, c112) x M' (zK0 sl sx) from ⟨zR_call (rest := []) 14 q112.1 (fun n => (if_neg g1).trans ((if_pos g2).trans ((if_neg g3).trans rfl))) w112.1, w112.2⟩
      obtain ⟨rfl, rfl⟩ := zrI h
      exact ⟨zR_ret 1 (rfl), rfl⟩
set_option maxRecDepth 20000 in
theorem L_Mo_isTold_17 {N d sl : Nat} {sx : Nat → Int} {a0 : Nat} {x1 : Int} {y0 : Int} {M : ZM} {x : Int} {M' : ZM} (h : Mo_isTold_17 N a0 x1 y0 M = some (x, M')) (hK : mK M = zK0 sl sx) : zLI (d + 0) tb_X13_isTold 17 [some (vR 11 (some a0)), some (vI x1), none] [vI y0] M x M' (zK0 sl sx) := by
  obtain ⟨I0, L0, ⟨ra0, rb0, rc0, rd0⟩, K0, c0⟩ := M
  obtain rfl : K0 = zK0 sl sx := hK
  replace h := zWx h
  obtain ⟨rfl, rfl⟩ := zrI h
  exact ⟨zR_ret 11 (rfl), rfl⟩
set_option maxRecDepth 20000 in
theorem L_Mo_isTold {N d sl : Nat} {sx : Nat → Int} {a0 : Nat} {x1 : Int} {M : ZM} {x : Int} {M' : ZM} (h : Mo_isTold N a0 x1 M = some (x, M')) (hK : mK M = zK0 sl sx) : zLI (d + 0) tb_X13_isTold 0 [some (vR 11 (some a0)), some (vI x1), none] [] M x M' (zK0 sl sx) := by
  obtain ⟨I0, L0, ⟨ra0, rb0, rc0, rd0⟩, K0, c0⟩ := M
  obtain rfl : K0 = zK0 sl sx := hK
  rcases zit h with ⟨g1, h⟩ | ⟨g1, h⟩
  · have q := L_Mo_isTold_17 (d := d) h rfl
    exact ⟨zR_go 10 q.1 (fun n => (if_pos g1).trans rfl), q.2⟩
  · have q := L_Mo_isTold_17 (d := d) h rfl
    exact ⟨zR_go 9 q.1 (fun n => (if_neg g1).trans rfl), q.2⟩
set_option maxRecDepth 20000 in
theorem L_Mo_readsRow_32 {N d sl : Nat} {sx : Nat → Int} {rec20 : Nat → Int → Int → Int → ZM → Option (Int × ZM)} (hrec20 : ∀ {a0 : Nat} {x1 : Int} {x2 : Int} {x3 : Int} {M : ZM} {x : Int} {M' : ZM}, rec20 a0 x1 x2 x3 M = some (x, M') → mK M = zK0 sl sx → zLI (d + 3) tb_X13_readsRow 20 [some (vR 11 (some a0)), some (vI x1), some (vI x2), some (vI x3)] [] M x M' (zK0 sl sx)) {a0 : Nat} {x1 : Int} {x2 : Int} {x3 : Int} {M : ZM} {x : Int} {M' : ZM} (h : Mo_readsRow_32 N rec20 a0 x1 x2 x3 M = some (x, M')) (hK : mK M = zK0 sl sx) : zLI (d + 3) tb_X13_readsRow 32 [some (vR 11 (some a0)), some (vI x1), some (vI x2), some (vI x3)] [] M x M' (zK0 sl sx) := by
  obtain ⟨I0, L0, ⟨ra0, rb0, rc0, rd0⟩, K0, c0⟩ := M
  obtain rfl : K0 = zK0 sl sx := hK
  rcases zit h with ⟨g1, h⟩ | ⟨g1, h⟩
  · rcases zit h with ⟨g2, h⟩ | ⟨g2, h⟩
    · obtain ⟨v101, M101, f101, h⟩ := zBx h
      have q101 := L_Mo_fails (d := (d + 2)) f101 rfl
      obtain ⟨I101, L101, ⟨ra101, rb101, rc101, rd101⟩, K101, c101⟩ := M101
      obtain rfl : K101 = zK0 sl sx := q101.2
      suffices w101 : zLI (d + 3) tb_X13_readsRow 59 [some (vR 11 (some a0)), some (vI x1), some (vI x2), some (vI x3)] [vI v101] (I101, L101, (ra101, rb101, rc101, rd101), zK0 sl sx, c101) x M' (zK0 sl sx) from ⟨zR_call (rest := []) 11 q101.1 (fun n => (if_pos g1).trans ((if_pos g2).trans rfl)) w101.1, w101.2⟩
      obtain ⟨rfl, rfl⟩ := zrI h
      exact ⟨zR_ret 1 (rfl), rfl⟩
    · rcases zit h with ⟨g3, h⟩ | ⟨g3, h⟩
      · obtain ⟨v102, M102, f102, h⟩ := zBx h
        have q102 := L_Mo_fails (d := (d + 2)) f102 rfl
        obtain ⟨I102, L102, ⟨ra102, rb102, rc102, rd102⟩, K102, c102⟩ := M102
        obtain rfl : K102 = zK0 sl sx := q102.2
        suffices w102 : zLI (d + 3) tb_X13_readsRow 71 [some (vR 11 (some a0)), some (vI x1), some (vI x2), some (vI x3)] [vI v102] (I102, L102, (ra102, rb102, rc102, rd102), zK0 sl sx, c102) x M' (zK0 sl sx) from ⟨zR_call (rest := []) 14 q102.1 (fun n => (if_pos g1).trans ((if_neg g2).trans ((if_pos g3).trans rfl))) w102.1, w102.2⟩
        obtain ⟨rfl, rfl⟩ := zrI h
        exact ⟨zR_ret 1 (rfl), rfl⟩
      · obtain ⟨g4, h⟩ := zIx h
        replace h := zWx h
        replace h := zWx h
        obtain ⟨M105, f105, h⟩ := zBvx h
        have q105 := L_Mo_nextToken (d := (d + 1)) f105 rfl
        obtain ⟨I105, L105, ⟨ra105, rb105, rc105, rd105⟩, K105, c105⟩ := M105
        obtain rfl : K105 = zK0 sl sx := q105.2
        suffices w105 : zLI (d + 3) tb_X13_readsRow 99 [some (vR 11 (some a0)), some (vI x1), some (vI x2), some (vI (z32 (x3 + 1)))] [] (I105, L105, (ra105, rb105, rc105, rd105), zK0 sl sx, c105) x M' (zK0 sl sx) from ⟨zR_call (rest := []) 28 q105.1 (fun n => (if_pos g1).trans ((if_neg g2).trans ((if_neg g3).trans ((if_pos g4).trans rfl)))) w105.1, w105.2⟩
        have q := hrec20 h rfl
        exact ⟨zR_go 1 q.1 (fun n => rfl), q.2⟩
  · obtain ⟨v106, M106, f106, h⟩ := zBx h
    have q106 := L_Mo_fails (d := (d + 2)) f106 rfl
    obtain ⟨I106, L106, ⟨ra106, rb106, rc106, rd106⟩, K106, c106⟩ := M106
    obtain rfl : K106 = zK0 sl sx := q106.2
    suffices w106 : zLI (d + 3) tb_X13_readsRow 45 [some (vR 11 (some a0)), some (vI x1), some (vI x2), some (vI x3)] [vI v106] (I106, L106, (ra106, rb106, rc106, rd106), zK0 sl sx, c106) x M' (zK0 sl sx) from ⟨zR_call (rest := []) 7 q106.1 (fun n => (if_neg g1).trans rfl) w106.1, w106.2⟩
    obtain ⟨rfl, rfl⟩ := zrI h
    exact ⟨zR_ret 1 (rfl), rfl⟩
set_option maxRecDepth 20000 in
theorem L_Mo_readsRow_20 {N d sl : Nat} {sx : Nat → Int} : ∀ {n : Nat} {a0 : Nat} {x1 : Int} {x2 : Int} {x3 : Int} {M : ZM} {x : Int} {M' : ZM}, Mo_readsRow_20 N n a0 x1 x2 x3 M = some (x, M') → mK M = zK0 sl sx → zLI (d + 3) tb_X13_readsRow 20 [some (vR 11 (some a0)), some (vI x1), some (vI x2), some (vI x3)] [] M x M' (zK0 sl sx) := by
  intro n
  induction n with
  | zero => intros; rename_i h _; cases h
  | succ n ih =>
    intro a0 x1 x2 x3 M x M' h hK
    obtain ⟨I0, L0, ⟨ra0, rb0, rc0, rd0⟩, K0, c0⟩ := M
    obtain rfl : K0 = zK0 sl sx := hK
    rcases zit h with ⟨g1, h⟩ | ⟨g1, h⟩
    · have q := L_Mo_readsRow_32 (d := d) ih h rfl
      exact ⟨zR_go 2 q.1 (fun n => (if_pos g1).trans rfl), q.2⟩
    · rcases zit h with ⟨g2, h⟩ | ⟨g2, h⟩
      · have q := L_Mo_readsRow_32 (d := d) ih h rfl
        exact ⟨zR_go 6 q.1 (fun n => (if_neg g1).trans ((if_pos g2).trans rfl)), q.2⟩
      · obtain ⟨g3, h⟩ := zIx h
        replace h := zWx h
        obtain ⟨v102, M102, f102, h⟩ := zBx h
        have q102 := L_Mo_closes (d := d) f102 rfl
        obtain ⟨I102, L102, ⟨ra102, rb102, rc102, rd102⟩, K102, c102⟩ := M102
        obtain rfl : K102 = zK0 sl sx := q102.2
        suffices w102 : zLI (d + 3) tb_X13_readsRow 116 [some (vR 11 (some a0)), some (vI x1), some (vI x2), some (vI x3)] [vI v102] (I102, L102, (ra102, rb102, rc102, rd102), zK0 sl sx, c102) x M' (zK0 sl sx) from ⟨zR_call (rest := []) 15 q102.1 (fun n => (if_neg g1).trans ((if_neg g2).trans ((if_pos g3).trans rfl))) w102.1, w102.2⟩
        obtain ⟨rfl, rfl⟩ := zrI h
        exact ⟨zR_ret 1 (rfl), rfl⟩
set_option maxRecDepth 20000 in
theorem L_Mo_readsRow {N d sl : Nat} {sx : Nat → Int} {a0 : Nat} {x1 : Int} {x2 : Int} {M : ZM} {x : Int} {M' : ZM} (h : Mo_readsRow N a0 x1 x2 M = some (x, M')) (hK : mK M = zK0 sl sx) : zLI (d + 3) tb_X13_readsRow 0 [some (vR 11 (some a0)), some (vI x1), some (vI x2), none] [] M x M' (zK0 sl sx) := by
  obtain ⟨I0, L0, ⟨ra0, rb0, rc0, rd0⟩, K0, c0⟩ := M
  obtain rfl : K0 = zK0 sl sx := hK
  obtain ⟨v101, M101, f101, h⟩ := zBx h
  have q101 := L_Mo_isTold (d := (d + 2)) f101 rfl
  obtain ⟨I101, L101, ⟨ra101, rb101, rc101, rd101⟩, K101, c101⟩ := M101
  obtain rfl : K101 = zK0 sl sx := q101.2
  suffices w101 : zLI (d + 3) tb_X13_readsRow 5 [some (vR 11 (some a0)), some (vI x1), some (vI x2), none] [vI v101] (I101, L101, (ra101, rb101, rc101, rd101), zK0 sl sx, c101) x M' (zK0 sl sx) from ⟨zR_call (rest := []) 3 q101.1 (fun n => rfl) w101.1, w101.2⟩
  rcases zit h with ⟨g1, h⟩ | ⟨g1, h⟩
  · obtain ⟨M102, f102, h⟩ := zBvx h
    have q102 := L_Mo_nextToken (d := (d + 1)) f102 rfl
    obtain ⟨I102, L102, ⟨ra102, rb102, rc102, rd102⟩, K102, c102⟩ := M102
    obtain rfl : K102 = zK0 sl sx := q102.2
    suffices w102 : zLI (d + 3) tb_X13_readsRow 18 [some (vR 11 (some a0)), some (vI x1), some (vI x2), none] [] (I102, L102, (ra102, rb102, rc102, rd102), zK0 sl sx, c102) x M' (zK0 sl sx) from ⟨zR_call (rest := []) 3 q102.1 (fun n => (if_pos g1).trans rfl) w102.1, w102.2⟩
    have q := L_Mo_readsRow_20 (d := d) h rfl
    exact ⟨zR_go 2 q.1 (fun n => rfl), q.2⟩
  · obtain ⟨v103, M103, f103, h⟩ := zBx h
    have q103 := L_Mo_fails (d := (d + 2)) f103 rfl
    obtain ⟨I103, L103, ⟨ra103, rb103, rc103, rd103⟩, K103, c103⟩ := M103
    obtain rfl : K103 = zK0 sl sx := q103.2
    suffices w103 : zLI (d + 3) tb_X13_readsRow 13 [some (vR 11 (some a0)), some (vI x1), some (vI x2), none] [vI v103] (I103, L103, (ra103, rb103, rc103, rd103), zK0 sl sx, c103) x M' (zK0 sl sx) from ⟨zR_call (rest := []) 4 q103.1 (fun n => (if_neg g1).trans rfl) w103.1, w103.2⟩
    obtain ⟨rfl, rfl⟩ := zrI h
    exact ⟨zR_ret 1 (rfl), rfl⟩
set_option maxRecDepth 20000 in
theorem L_Mo_readsOne {N d sl : Nat} {sx : Nat → Int} {a0 : Nat} {x1 : Int} {x2 : Int} {M : ZM} {x : Int} {M' : ZM} (h : Mo_readsOne N a0 x1 x2 M = some (x, M')) (hK : mK M = zK0 sl sx) : zLI (d + 3) tb_X13_readsOne 0 [some (vR 11 (some a0)), some (vI x1), some (vI x2)] [] M x M' (zK0 sl sx) := by
  obtain ⟨I0, L0, ⟨ra0, rb0, rc0, rd0⟩, K0, c0⟩ := M
  obtain rfl : K0 = zK0 sl sx := hK
  obtain ⟨v101, M101, f101, h⟩ := zBx h
  have q101 := L_Mo_isTold (d := (d + 2)) f101 rfl
  obtain ⟨I101, L101, ⟨ra101, rb101, rc101, rd101⟩, K101, c101⟩ := M101
  obtain rfl : K101 = zK0 sl sx := q101.2
  suffices w101 : zLI (d + 3) tb_X13_readsOne 5 [some (vR 11 (some a0)), some (vI x1), some (vI x2)] [vI v101] (I101, L101, (ra101, rb101, rc101, rd101), zK0 sl sx, c101) x M' (zK0 sl sx) from ⟨zR_call (rest := []) 3 q101.1 (fun n => rfl) w101.1, w101.2⟩
  rcases zit h with ⟨g1, h⟩ | ⟨g1, h⟩
  · obtain ⟨M102, f102, h⟩ := zBvx h
    have q102 := L_Mo_nextToken (d := (d + 1)) f102 rfl
    obtain ⟨I102, L102, ⟨ra102, rb102, rc102, rd102⟩, K102, c102⟩ := M102
    obtain rfl : K102 = zK0 sl sx := q102.2
    suffices w102 : zLI (d + 3) tb_X13_readsOne 18 [some (vR 11 (some a0)), some (vI x1), some (vI x2)] [] (I102, L102, (ra102, rb102, rc102, rd102), zK0 sl sx, c102) x M' (zK0 sl sx) from ⟨zR_call (rest := []) 3 q102.1 (fun n => (if_pos g1).trans rfl) w102.1, w102.2⟩
    obtain ⟨v103, M103, f103, h⟩ := zBx h
    have q103 := L_Mo_needsNumber (d := d) f103 rfl
    obtain ⟨I103, L103, ⟨ra103, rb103, rc103, rd103⟩, K103, c103⟩ := M103
    obtain rfl : K103 = zK0 sl sx := q103.2
    suffices w103 : zLI (d + 3) tb_X13_readsOne 24 [some (vR 11 (some a0)), some (vI x1), some (vI x2)] [vI v103] (I103, L103, (ra103, rb103, rc103, rd103), zK0 sl sx, c103) x M' (zK0 sl sx) from ⟨zR_call (rest := []) 4 q103.1 (fun n => rfl) w103.1, w103.2⟩
    rcases zit h with ⟨g2, h⟩ | ⟨g2, h⟩
    · obtain ⟨rfl, rfl⟩ := zrI h
      exact ⟨zR_ret 3 ((if_pos g2).trans rfl), rfl⟩
    · obtain ⟨g3, h⟩ := zIx h
      replace h := zWx h
      obtain ⟨v105, M105, f105, h⟩ := zBx h
      have q105 := L_Mo_closes (d := d) f105 rfl
      obtain ⟨I105, L105, ⟨ra105, rb105, rc105, rd105⟩, K105, c105⟩ := M105
      obtain rfl : K105 = zK0 sl sx := q105.2
      suffices w105 : zLI (d + 3) tb_X13_readsOne 46 [some (vR 11 (some a0)), some (vI x1), some (vI x2)] [vI v105] (I105, L105, (ra105, rb105, rc105, rd105), zK0 sl sx, c105) x M' (zK0 sl sx) from ⟨zR_call (rest := []) 11 q105.1 (fun n => (if_neg g2).trans ((if_pos g3).trans rfl)) w105.1, w105.2⟩
      obtain ⟨rfl, rfl⟩ := zrI h
      exact ⟨zR_ret 1 (rfl), rfl⟩
  · obtain ⟨v106, M106, f106, h⟩ := zBx h
    have q106 := L_Mo_fails (d := (d + 2)) f106 rfl
    obtain ⟨I106, L106, ⟨ra106, rb106, rc106, rd106⟩, K106, c106⟩ := M106
    obtain rfl : K106 = zK0 sl sx := q106.2
    suffices w106 : zLI (d + 3) tb_X13_readsOne 13 [some (vR 11 (some a0)), some (vI x1), some (vI x2)] [vI v106] (I106, L106, (ra106, rb106, rc106, rd106), zK0 sl sx, c106) x M' (zK0 sl sx) from ⟨zR_call (rest := []) 4 q106.1 (fun n => (if_neg g1).trans rfl) w106.1, w106.2⟩
    obtain ⟨rfl, rfl⟩ := zrI h
    exact ⟨zR_ret 1 (rfl), rfl⟩
set_option maxRecDepth 20000 in
theorem L_Mo_readsWakes_21 {N d sl : Nat} {sx : Nat → Int} : ∀ {n : Nat} {a0 : Nat} {x1 : Int} {M : ZM} {x : Int} {M' : ZM}, Mo_readsWakes_21 N n a0 x1 M = some (x, M') → mK M = zK0 sl sx → zLI (d + 3) tb_X13_readsWakes 21 [some (vR 11 (some a0)), some (vI x1)] [] M x M' (zK0 sl sx) := by
  intro n
  induction n with
  | zero => intros; rename_i h _; cases h
  | succ n ih =>
    intro a0 x1 M x M' h hK
    obtain ⟨I0, L0, ⟨ra0, rb0, rc0, rd0⟩, K0, c0⟩ := M
    obtain rfl : K0 = zK0 sl sx := hK
    rcases zit h with ⟨g1, h⟩ | ⟨g1, h⟩
    · obtain ⟨v101, M101, f101, h⟩ := zBx h
      have q101 := L_Mo_needsNumber (d := d) f101 rfl
      obtain ⟨I101, L101, ⟨ra101, rb101, rc101, rd101⟩, K101, c101⟩ := M101
      obtain rfl : K101 = zK0 sl sx := q101.2
      suffices w101 : zLI (d + 3) tb_X13_readsWakes 33 [some (vR 11 (some a0)), some (vI x1)] [vI v101] (I101, L101, (ra101, rb101, rc101, rd101), zK0 sl sx, c101) x M' (zK0 sl sx) from ⟨zR_call (rest := []) 7 q101.1 (fun n => (if_pos g1).trans rfl) w101.1, w101.2⟩
      rcases zit h with ⟨g2, h⟩ | ⟨g2, h⟩
      · obtain ⟨rfl, rfl⟩ := zrI h
        exact ⟨zR_ret 3 ((if_pos g2).trans rfl), rfl⟩
      · obtain ⟨g3, h⟩ := zIx h
        replace h := zWx h
        replace h := zWx h
        have q := ih h rfl
        exact ⟨zR_go 11 q.1 (fun n => (if_neg g2).trans ((if_pos g3).trans rfl)), q.2⟩
    · obtain ⟨v104, M104, f104, h⟩ := zBx h
      have q104 := L_Mo_closes (d := d) f104 rfl
      obtain ⟨I104, L104, ⟨ra104, rb104, rc104, rd104⟩, K104, c104⟩ := M104
      obtain rfl : K104 = zK0 sl sx := q104.2
      suffices w104 : zLI (d + 3) tb_X13_readsWakes 61 [some (vR 11 (some a0)), some (vI x1)] [vI v104] (I104, L104, (ra104, rb104, rc104, rd104), zK0 sl sx, c104) x M' (zK0 sl sx) from ⟨zR_call (rest := []) 5 q104.1 (fun n => (if_neg g1).trans rfl) w104.1, w104.2⟩
      obtain ⟨rfl, rfl⟩ := zrI h
      exact ⟨zR_ret 1 (rfl), rfl⟩
set_option maxRecDepth 20000 in
theorem L_Mo_readsWakes {N d sl : Nat} {sx : Nat → Int} {a0 : Nat} {M : ZM} {x : Int} {M' : ZM} (h : Mo_readsWakes N a0 M = some (x, M')) (hK : mK M = zK0 sl sx) : zLI (d + 3) tb_X13_readsWakes 0 [some (vR 11 (some a0)), none] [] M x M' (zK0 sl sx) := by
  obtain ⟨I0, L0, ⟨ra0, rb0, rc0, rd0⟩, K0, c0⟩ := M
  obtain rfl : K0 = zK0 sl sx := hK
  obtain ⟨v101, M101, f101, h⟩ := zBx h
  have q101 := L_Mo_isTold (d := (d + 2)) f101 rfl
  obtain ⟨I101, L101, ⟨ra101, rb101, rc101, rd101⟩, K101, c101⟩ := M101
  obtain rfl : K101 = zK0 sl sx := q101.2
  suffices w101 : zLI (d + 3) tb_X13_readsWakes 6 [some (vR 11 (some a0)), none] [vI v101] (I101, L101, (ra101, rb101, rc101, rd101), zK0 sl sx, c101) x M' (zK0 sl sx) from ⟨zR_call (rest := []) 3 q101.1 (fun n => rfl) w101.1, w101.2⟩
  rcases zit h with ⟨g1, h⟩ | ⟨g1, h⟩
  · obtain ⟨M102, f102, h⟩ := zBvx h
    have q102 := L_Mo_nextToken (d := (d + 1)) f102 rfl
    obtain ⟨I102, L102, ⟨ra102, rb102, rc102, rd102⟩, K102, c102⟩ := M102
    obtain rfl : K102 = zK0 sl sx := q102.2
    suffices w102 : zLI (d + 3) tb_X13_readsWakes 19 [some (vR 11 (some a0)), none] [] (I102, L102, (ra102, rb102, rc102, rd102), zK0 sl sx, c102) x M' (zK0 sl sx) from ⟨zR_call (rest := []) 3 q102.1 (fun n => (if_pos g1).trans rfl) w102.1, w102.2⟩
    have q := L_Mo_readsWakes_21 (d := d) h rfl
    exact ⟨zR_go 2 q.1 (fun n => rfl), q.2⟩
  · obtain ⟨v103, M103, f103, h⟩ := zBx h
    have q103 := L_Mo_fails (d := (d + 2)) f103 rfl
    obtain ⟨I103, L103, ⟨ra103, rb103, rc103, rd103⟩, K103, c103⟩ := M103
    obtain rfl : K103 = zK0 sl sx := q103.2
    suffices w103 : zLI (d + 3) tb_X13_readsWakes 14 [some (vR 11 (some a0)), none] [vI v103] (I103, L103, (ra103, rb103, rc103, rd103), zK0 sl sx, c103) x M' (zK0 sl sx) from ⟨zR_call (rest := []) 4 q103.1 (fun n => (if_neg g1).trans rfl) w103.1, w103.2⟩
    obtain ⟨rfl, rfl⟩ := zrI h
    exact ⟨zR_ret 1 (rfl), rfl⟩
set_option maxRecDepth 20000 in
theorem L_Mo_readsGives {N d sl : Nat} {sx : Nat → Int} {a0 : Nat} {M : ZM} {x : Int} {M' : ZM} (h : Mo_readsGives N a0 M = some (x, M')) (hK : mK M = zK0 sl sx) : zLI (d + 3) tb_X13_readsGives 0 [some (vR 11 (some a0))] [] M x M' (zK0 sl sx) := by
  obtain ⟨I0, L0, ⟨ra0, rb0, rc0, rd0⟩, K0, c0⟩ := M
  obtain rfl : K0 = zK0 sl sx := hK
  rcases zit h with ⟨g1, h⟩ | ⟨g1, h⟩
  · obtain ⟨v101, M101, f101, h⟩ := zBx h
    have q101 := L_Mo_fails (d := (d + 2)) f101 rfl
    obtain ⟨I101, L101, ⟨ra101, rb101, rc101, rd101⟩, K101, c101⟩ := M101
    obtain rfl : K101 = zK0 sl sx := q101.2
    suffices w101 : zLI (d + 3) tb_X13_readsGives 20 [some (vR 11 (some a0))] [vI v101] (I101, L101, (ra101, rb101, rc101, rd101), zK0 sl sx, c101) x M' (zK0 sl sx) from ⟨zR_call (rest := []) 12 q101.1 (fun n => (if_pos g1).trans rfl) w101.1, w101.2⟩
    obtain ⟨rfl, rfl⟩ := zrI h
    exact ⟨zR_ret 1 (rfl), rfl⟩
  · obtain ⟨M102, f102, h⟩ := zBvx h
    have q102 := L_Mo_nextToken (d := (d + 1)) f102 rfl
    obtain ⟨I102, L102, ⟨ra102, rb102, rc102, rd102⟩, K102, c102⟩ := M102
    obtain rfl : K102 = zK0 sl sx := q102.2
    suffices w102 : zLI (d + 3) tb_X13_readsGives 25 [some (vR 11 (some a0))] [] (I102, L102, (ra102, rb102, rc102, rd102), zK0 sl sx, c102) x M' (zK0 sl sx) from ⟨zR_call (rest := []) 11 q102.1 (fun n => (if_neg g1).trans rfl) w102.1, w102.2⟩
    replace h := zWx h
    obtain ⟨v104, M104, f104, h⟩ := zBx h
    have q104 := L_Mo_reads (d := d) f104 rfl
    obtain ⟨I104, L104, ⟨ra104, rb104, rc104, rd104⟩, K104, c104⟩ := M104
    obtain rfl : K104 = zK0 sl sx := q104.2
    suffices w104 : zLI (d + 3) tb_X13_readsGives 39 [some (vR 11 (some a0))] [vI v104] (I104, L104, (ra104, rb104, rc104, rd104), zK0 sl sx, c104) x M' (zK0 sl sx) from ⟨zR_call (rest := []) 8 q104.1 (fun n => rfl) w104.1, w104.2⟩
    rcases zit h with ⟨g2, h⟩ | ⟨g2, h⟩
    · obtain ⟨rfl, rfl⟩ := zrI h
      exact ⟨zR_ret 3 ((if_pos g2).trans rfl), rfl⟩
    · replace h := zWx h
      obtain ⟨rfl, rfl⟩ := zrI h
      exact ⟨zR_ret 9 ((if_neg g2).trans rfl), rfl⟩
set_option maxRecDepth 20000 in
theorem L_Mo_begins {N d sl : Nat} {sx : Nat → Int} {a0 : Nat} {M : ZM} {M' : ZM} (h : Mo_begins N a0 M = some M') (hK : mK M = zK0 sl sx) : zLV (d + 2) tb_X13_begins 0 [some (vR 11 (some a0))] [] M M' (zK0 sl sx) := by
  obtain ⟨I0, L0, ⟨ra0, rb0, rc0, rd0⟩, K0, c0⟩ := M
  obtain rfl : K0 = zK0 sl sx := hK
  replace h := zWx h
  replace h := zWx h
  replace h := zWx h
  obtain ⟨M104, f104, h⟩ := zBvx h
  have q104 := L_Mo_nextToken (d := d) f104 rfl
  obtain ⟨I104, L104, ⟨ra104, rb104, rc104, rd104⟩, K104, c104⟩ := M104
  obtain rfl : K104 = zK0 sl sx := q104.2
  suffices w104 : zLV (d + 2) tb_X13_begins 22 [some (vR 11 (some a0))] [] (I104, L104, (ra104, rb104, rc104, rd104), zK0 sl sx, c104) M' (zK0 sl sx) from ⟨zR_call (rest := []) 12 q104.1 (fun n => rfl) w104.1, w104.2⟩
  obtain rfl := zrV h
  exact ⟨zR_ret 1 (rfl), rfl⟩
set_option maxRecDepth 20000 in
theorem L_Mo_readsPark {N d sl : Nat} {sx : Nat → Int} {a0 : Nat} {M : ZM} {x : Int} {M' : ZM} (h : Mo_readsPark N a0 M = some (x, M')) (hK : mK M = zK0 sl sx) : zLI (d + 5) tb_X13_readsPark 0 [some (vR 11 (some a0))] [] M x M' (zK0 sl sx) := by
  obtain ⟨I0, L0, ⟨ra0, rb0, rc0, rd0⟩, K0, c0⟩ := M
  obtain rfl : K0 = zK0 sl sx := hK
  obtain ⟨v101, M101, f101, h⟩ := zBx h
  have q101 := L_Mo_isWord (d := (d + 4)) f101 rfl
  obtain ⟨I101, L101, ⟨ra101, rb101, rc101, rd101⟩, K101, c101⟩ := M101
  obtain rfl : K101 = zK0 sl sx := q101.2
  suffices w101 : zLI (d + 5) tb_X13_readsPark 7 [some (vR 11 (some a0))] [vI v101] (I101, L101, (ra101, rb101, rc101, rd101), zK0 sl sx, c101) x M' (zK0 sl sx) from ⟨zR_call (rest := []) 3 q101.1 (fun n => rfl) w101.1, w101.2⟩
  rcases zit h with ⟨g1, h⟩ | ⟨g1, h⟩
  · obtain ⟨v102, M102, f102, h⟩ := zBx h
    have q102 := L_Mo_isWord (d := (d + 4)) f102 rfl
    obtain ⟨I102, L102, ⟨ra102, rb102, rc102, rd102⟩, K102, c102⟩ := M102
    obtain rfl : K102 = zK0 sl sx := q102.2
    suffices w102 : zLI (d + 5) tb_X13_readsPark 22 [some (vR 11 (some a0))] [vI v102] (I102, L102, (ra102, rb102, rc102, rd102), zK0 sl sx, c102) x M' (zK0 sl sx) from ⟨zR_call (rest := []) 4 q102.1 (fun n => (if_pos g1).trans rfl) w102.1, w102.2⟩
    rcases zit h with ⟨g2, h⟩ | ⟨g2, h⟩
    · obtain ⟨v103, M103, f103, h⟩ := zBx h
      have q103 := L_Mo_isWord (d := (d + 4)) f103 rfl
      obtain ⟨I103, L103, ⟨ra103, rb103, rc103, rd103⟩, K103, c103⟩ := M103
      obtain rfl : K103 = zK0 sl sx := q103.2
      suffices w103 : zLI (d + 5) tb_X13_readsPark 37 [some (vR 11 (some a0))] [vI v103] (I103, L103, (ra103, rb103, rc103, rd103), zK0 sl sx, c103) x M' (zK0 sl sx) from ⟨zR_call (rest := []) 4 q103.1 (fun n => (if_pos g2).trans rfl) w103.1, w103.2⟩
      rcases zit h with ⟨g3, h⟩ | ⟨g3, h⟩
      · obtain ⟨v104, M104, f104, h⟩ := zBx h
        have q104 := L_Mo_isWord (d := (d + 4)) f104 rfl
        obtain ⟨I104, L104, ⟨ra104, rb104, rc104, rd104⟩, K104, c104⟩ := M104
        obtain rfl : K104 = zK0 sl sx := q104.2
        suffices w104 : zLI (d + 5) tb_X13_readsPark 55 [some (vR 11 (some a0))] [vI v104] (I104, L104, (ra104, rb104, rc104, rd104), zK0 sl sx, c104) x M' (zK0 sl sx) from ⟨zR_call (rest := []) 4 q104.1 (fun n => (if_pos g3).trans rfl) w104.1, w104.2⟩
        rcases zit h with ⟨g4, h⟩ | ⟨g4, h⟩
        · obtain ⟨v105, M105, f105, h⟩ := zBx h
          have q105 := L_Mo_isWord (d := (d + 4)) f105 rfl
          obtain ⟨I105, L105, ⟨ra105, rb105, rc105, rd105⟩, K105, c105⟩ := M105
          obtain rfl : K105 = zK0 sl sx := q105.2
          suffices w105 : zLI (d + 5) tb_X13_readsPark 72 [some (vR 11 (some a0))] [vI v105] (I105, L105, (ra105, rb105, rc105, rd105), zK0 sl sx, c105) x M' (zK0 sl sx) from ⟨zR_call (rest := []) 4 q105.1 (fun n => (if_pos g4).trans rfl) w105.1, w105.2⟩
          rcases zit h with ⟨g5, h⟩ | ⟨g5, h⟩
          · obtain ⟨v106, M106, f106, h⟩ := zBx h
            have q106 := L_Mo_isWord (d := (d + 4)) f106 rfl
            obtain ⟨I106, L106, ⟨ra106, rb106, rc106, rd106⟩, K106, c106⟩ := M106
            obtain rfl : K106 = zK0 sl sx := q106.2
            suffices w106 : zLI (d + 5) tb_X13_readsPark 90 [some (vR 11 (some a0))] [vI v106] (I106, L106, (ra106, rb106, rc106, rd106), zK0 sl sx, c106) x M' (zK0 sl sx) from ⟨zR_call (rest := []) 4 q106.1 (fun n => (if_pos g5).trans rfl) w106.1, w106.2⟩
            rcases zit h with ⟨g6, h⟩ | ⟨g6, h⟩
            · obtain ⟨v107, M107, f107, h⟩ := zBx h
              have q107 := L_Mo_isWord (d := (d + 4)) f107 rfl
              obtain ⟨I107, L107, ⟨ra107, rb107, rc107, rd107⟩, K107, c107⟩ := M107
              obtain rfl : K107 = zK0 sl sx := q107.2
              suffices w107 : zLI (d + 5) tb_X13_readsPark 105 [some (vR 11 (some a0))] [vI v107] (I107, L107, (ra107, rb107, rc107, rd107), zK0 sl sx, c107) x M' (zK0 sl sx) from ⟨zR_call (rest := []) 4 q107.1 (fun n => (if_pos g6).trans rfl) w107.1, w107.2⟩
              rcases zit h with ⟨g7, h⟩ | ⟨g7, h⟩
              · obtain ⟨v108, M108, f108, h⟩ := zBx h
                have q108 := L_Mo_isWord (d := (d + 4)) f108 rfl
                obtain ⟨I108, L108, ⟨ra108, rb108, rc108, rd108⟩, K108, c108⟩ := M108
                obtain rfl : K108 = zK0 sl sx := q108.2
                suffices w108 : zLI (d + 5) tb_X13_readsPark 123 [some (vR 11 (some a0))] [vI v108] (I108, L108, (ra108, rb108, rc108, rd108), zK0 sl sx, c108) x M' (zK0 sl sx) from ⟨zR_call (rest := []) 4 q108.1 (fun n => (if_pos g7).trans rfl) w108.1, w108.2⟩
                rcases zit h with ⟨g8, h⟩ | ⟨g8, h⟩
                · obtain ⟨v109, M109, f109, h⟩ := zBx h
                  have q109 := L_Mo_isWord (d := (d + 4)) f109 rfl
                  obtain ⟨I109, L109, ⟨ra109, rb109, rc109, rd109⟩, K109, c109⟩ := M109
                  obtain rfl : K109 = zK0 sl sx := q109.2
                  suffices w109 : zLI (d + 5) tb_X13_readsPark 141 [some (vR 11 (some a0))] [vI v109] (I109, L109, (ra109, rb109, rc109, rd109), zK0 sl sx, c109) x M' (zK0 sl sx) from ⟨zR_call (rest := []) 4 q109.1 (fun n => (if_pos g8).trans rfl) w109.1, w109.2⟩
                  rcases zit h with ⟨g9, h⟩ | ⟨g9, h⟩
                  · obtain ⟨v110, M110, f110, h⟩ := zBx h
                    have q110 := L_Mo_fails (d := (d + 4)) f110 rfl
                    obtain ⟨I110, L110, ⟨ra110, rb110, rc110, rd110⟩, K110, c110⟩ := M110
                    obtain rfl : K110 = zK0 sl sx := q110.2
                    suffices w110 : zLI (d + 5) tb_X13_readsPark 156 [some (vR 11 (some a0))] [vI v110] (I110, L110, (ra110, rb110, rc110, rd110), zK0 sl sx, c110) x M' (zK0 sl sx) from ⟨zR_call (rest := []) 4 q110.1 (fun n => (if_pos g9).trans rfl) w110.1, w110.2⟩
                    obtain ⟨rfl, rfl⟩ := zrI h
                    exact ⟨zR_ret 1 (rfl), rfl⟩
                  · obtain ⟨v111, M111, f111, h⟩ := zBx h
                    have q111 := L_Mo_readsGives (d := (d + 1)) f111 rfl
                    obtain ⟨I111, L111, ⟨ra111, rb111, rc111, rd111⟩, K111, c111⟩ := M111
                    obtain rfl : K111 = zK0 sl sx := q111.2
                    suffices w111 : zLI (d + 5) tb_X13_readsPark 148 [some (vR 11 (some a0))] [vI v111] (I111, L111, (ra111, rb111, rc111, rd111), zK0 sl sx, c111) x M' (zK0 sl sx) from ⟨zR_call (rest := []) 3 q111.1 (fun n => (if_neg g9).trans rfl) w111.1, w111.2⟩
                    obtain ⟨rfl, rfl⟩ := zrI h
                    exact ⟨zR_ret 2 (rfl), rfl⟩
                · obtain ⟨v112, M112, f112, h⟩ := zBx h
                  have q112 := L_Mo_readsOne (d := (d + 1)) f112 rfl
                  obtain ⟨I112, L112, ⟨ra112, rb112, rc112, rd112⟩, K112, c112⟩ := M112
                  obtain rfl : K112 = zK0 sl sx := q112.2
                  suffices w112 : zLI (d + 5) tb_X13_readsPark 133 [some (vR 11 (some a0))] [vI v112] (I112, L112, (ra112, rb112, rc112, rd112), zK0 sl sx, c112) x M' (zK0 sl sx) from ⟨zR_call (rest := []) 5 q112.1 (fun n => (if_neg g8).trans rfl) w112.1, w112.2⟩
                  obtain ⟨rfl, rfl⟩ := zrI h
                  exact ⟨zR_ret 1 (rfl), rfl⟩
              · obtain ⟨v113, M113, f113, h⟩ := zBx h
                have q113 := L_Mo_readsOne (d := (d + 1)) f113 rfl
                obtain ⟨I113, L113, ⟨ra113, rb113, rc113, rd113⟩, K113, c113⟩ := M113
                obtain rfl : K113 = zK0 sl sx := q113.2
                suffices w113 : zLI (d + 5) tb_X13_readsPark 115 [some (vR 11 (some a0))] [vI v113] (I113, L113, (ra113, rb113, rc113, rd113), zK0 sl sx, c113) x M' (zK0 sl sx) from ⟨zR_call (rest := []) 5 q113.1 (fun n => (if_neg g7).trans rfl) w113.1, w113.2⟩
                obtain ⟨rfl, rfl⟩ := zrI h
                exact ⟨zR_ret 1 (rfl), rfl⟩
            · obtain ⟨v114, M114, f114, h⟩ := zBx h
              have q114 := L_Mo_readsWakes (d := (d + 1)) f114 rfl
              obtain ⟨I114, L114, ⟨ra114, rb114, rc114, rd114⟩, K114, c114⟩ := M114
              obtain rfl : K114 = zK0 sl sx := q114.2
              suffices w114 : zLI (d + 5) tb_X13_readsPark 97 [some (vR 11 (some a0))] [vI v114] (I114, L114, (ra114, rb114, rc114, rd114), zK0 sl sx, c114) x M' (zK0 sl sx) from ⟨zR_call (rest := []) 3 q114.1 (fun n => (if_neg g6).trans rfl) w114.1, w114.2⟩
              obtain ⟨rfl, rfl⟩ := zrI h
              exact ⟨zR_ret 1 (rfl), rfl⟩
          · obtain ⟨v115, M115, f115, h⟩ := zBx h
            have q115 := L_Mo_readsRow (d := (d + 1)) f115 rfl
            obtain ⟨I115, L115, ⟨ra115, rb115, rc115, rd115⟩, K115, c115⟩ := M115
            obtain rfl : K115 = zK0 sl sx := q115.2
            suffices w115 : zLI (d + 5) tb_X13_readsPark 82 [some (vR 11 (some a0))] [vI v115] (I115, L115, (ra115, rb115, rc115, rd115), zK0 sl sx, c115) x M' (zK0 sl sx) from ⟨zR_call (rest := []) 5 q115.1 (fun n => (if_neg g5).trans rfl) w115.1, w115.2⟩
            obtain ⟨rfl, rfl⟩ := zrI h
            exact ⟨zR_ret 1 (rfl), rfl⟩
        · obtain ⟨v116, M116, f116, h⟩ := zBx h
          have q116 := L_Mo_readsRow (d := (d + 1)) f116 rfl
          obtain ⟨I116, L116, ⟨ra116, rb116, rc116, rd116⟩, K116, c116⟩ := M116
          obtain rfl : K116 = zK0 sl sx := q116.2
          suffices w116 : zLI (d + 5) tb_X13_readsPark 64 [some (vR 11 (some a0))] [vI v116] (I116, L116, (ra116, rb116, rc116, rd116), zK0 sl sx, c116) x M' (zK0 sl sx) from ⟨zR_call (rest := []) 5 q116.1 (fun n => (if_neg g4).trans rfl) w116.1, w116.2⟩
          obtain ⟨rfl, rfl⟩ := zrI h
          exact ⟨zR_ret 1 (rfl), rfl⟩
      · obtain ⟨v117, M117, f117, h⟩ := zBx h
        have q117 := L_Mo_readsRow (d := (d + 1)) f117 rfl
        obtain ⟨I117, L117, ⟨ra117, rb117, rc117, rd117⟩, K117, c117⟩ := M117
        obtain rfl : K117 = zK0 sl sx := q117.2
        suffices w117 : zLI (d + 5) tb_X13_readsPark 47 [some (vR 11 (some a0))] [vI v117] (I117, L117, (ra117, rb117, rc117, rd117), zK0 sl sx, c117) x M' (zK0 sl sx) from ⟨zR_call (rest := []) 5 q117.1 (fun n => (if_neg g3).trans rfl) w117.1, w117.2⟩
        obtain ⟨rfl, rfl⟩ := zrI h
        exact ⟨zR_ret 1 (rfl), rfl⟩
    · obtain ⟨v118, M118, f118, h⟩ := zBx h
      have q118 := L_Mo_readsCable (d := d) f118 rfl
      obtain ⟨I118, L118, ⟨ra118, rb118, rc118, rd118⟩, K118, c118⟩ := M118
      obtain rfl : K118 = zK0 sl sx := q118.2
      suffices w118 : zLI (d + 5) tb_X13_readsPark 29 [some (vR 11 (some a0))] [vI v118] (I118, L118, (ra118, rb118, rc118, rd118), zK0 sl sx, c118) x M' (zK0 sl sx) from ⟨zR_call (rest := []) 3 q118.1 (fun n => (if_neg g2).trans rfl) w118.1, w118.2⟩
      obtain ⟨rfl, rfl⟩ := zrI h
      exact ⟨zR_ret 1 (rfl), rfl⟩
  · obtain ⟨v119, M119, f119, h⟩ := zBx h
    have q119 := L_Mo_readsTurbine (d := d) f119 rfl
    obtain ⟨I119, L119, ⟨ra119, rb119, rc119, rd119⟩, K119, c119⟩ := M119
    obtain rfl : K119 = zK0 sl sx := q119.2
    suffices w119 : zLI (d + 5) tb_X13_readsPark 14 [some (vR 11 (some a0))] [vI v119] (I119, L119, (ra119, rb119, rc119, rd119), zK0 sl sx, c119) x M' (zK0 sl sx) from ⟨zR_call (rest := []) 3 q119.1 (fun n => (if_neg g1).trans rfl) w119.1, w119.2⟩
    obtain ⟨rfl, rfl⟩ := zrI h
    exact ⟨zR_ret 1 (rfl), rfl⟩
set_option maxRecDepth 20000 in
theorem L_Mo_readsAll_39 {N d sl : Nat} {sx : Nat → Int} : ∀ {n : Nat} {a0 : Nat} {M : ZM} {x : Int} {M' : ZM}, Mo_readsAll_39 N n a0 M = some (x, M') → mK M = zK0 sl sx → zLI (d + 6) tb_X13_readsAll 39 [some (vR 11 (some a0))] [] M x M' (zK0 sl sx) := by
  intro n
  induction n with
  | zero => intros; rename_i h _; cases h
  | succ n ih =>
    intro a0 M x M' h hK
    obtain ⟨I0, L0, ⟨ra0, rb0, rc0, rd0⟩, K0, c0⟩ := M
    obtain rfl : K0 = zK0 sl sx := hK
    rcases zit h with ⟨g1, h⟩ | ⟨g1, h⟩
    · obtain ⟨rfl, rfl⟩ := zrI h
      exact ⟨zR_ret 5 ((if_pos g1).trans rfl), rfl⟩
    · obtain ⟨v101, M101, f101, h⟩ := zBx h
      have q101 := L_Mo_readsPark (d := d) f101 rfl
      obtain ⟨I101, L101, ⟨ra101, rb101, rc101, rd101⟩, K101, c101⟩ := M101
      obtain rfl : K101 = zK0 sl sx := q101.2
      suffices w101 : zLI (d + 6) tb_X13_readsAll 50 [some (vR 11 (some a0))] [vI v101] (I101, L101, (ra101, rb101, rc101, rd101), zK0 sl sx, c101) x M' (zK0 sl sx) from ⟨zR_call (rest := []) 5 q101.1 (fun n => (if_neg g1).trans rfl) w101.1, w101.2⟩
      rcases zit h with ⟨g2, h⟩ | ⟨g2, h⟩
      · obtain ⟨rfl, rfl⟩ := zrI h
        exact ⟨zR_ret 3 ((if_pos g2).trans rfl), rfl⟩
      · have q := ih h rfl
        exact ⟨zR_go 1 q.1 (fun n => (if_neg g2).trans rfl), q.2⟩
set_option maxRecDepth 20000 in
theorem L_Mo_readsAll {N d sl : Nat} {sx : Nat → Int} {a0 : Nat} {M : ZM} {x : Int} {M' : ZM} (h : Mo_readsAll N a0 M = some (x, M')) (hK : mK M = zK0 sl sx) : zLI (d + 6) tb_X13_readsAll 0 [some (vR 11 (some a0))] [] M x M' (zK0 sl sx) := by
  obtain ⟨I0, L0, ⟨ra0, rb0, rc0, rd0⟩, K0, c0⟩ := M
  obtain rfl : K0 = zK0 sl sx := hK
  obtain ⟨M101, f101, h⟩ := zBvx h
  have q101 := L_Mo_usual (d := (d + 5)) f101 rfl
  obtain ⟨I101, L101, ⟨ra101, rb101, rc101, rd101⟩, K101, c101⟩ := M101
  obtain rfl : K101 = zK0 sl sx := q101.2
  suffices w101 : zLI (d + 6) tb_X13_readsAll 5 [some (vR 11 (some a0))] [] (I101, L101, (ra101, rb101, rc101, rd101), zK0 sl sx, c101) x M' (zK0 sl sx) from ⟨zR_call (rest := []) 3 q101.1 (fun n => rfl) w101.1, w101.2⟩
  replace h := zWx h
  replace h := zWx h
  replace h := zWx h
  replace h := zWx h
  obtain ⟨M106, f106, h⟩ := zBvx h
  have q106 := L_Mo_begins (d := (d + 3)) f106 rfl
  obtain ⟨I106, L106, ⟨ra106, rb106, rc106, rd106⟩, K106, c106⟩ := M106
  obtain rfl : K106 = zK0 sl sx := q106.2
  suffices w106 : zLI (d + 6) tb_X13_readsAll 39 [some (vR 11 (some a0))] [] (I106, L106, (ra106, rb106, rc106, rd106), zK0 sl sx, c106) x M' (zK0 sl sx) from ⟨zR_call (rest := []) 18 q106.1 (fun n => rfl) w106.1, w106.2⟩
  have q := L_Mo_readsAll_39 (d := d) h rfl
  exact ⟨q.1, q.2⟩
set_option maxRecDepth 20000 in
theorem L_Mo_shifts_51_p2 {N d sl : Nat} {sx : Nat → Int} : ∀ {n : Nat} {a0 : Nat} {x1 : Int} {x2 : Int} {M : ZM} {M' : ZM}, Mo_shifts_2 N n 51 a0 x1 x2 M = some M' → mK M = zK0 sl sx → zLV (d + 0) tb_X13_shifts 2 [some (vR 51 (some a0)), some (vI x1), some (vI x2)] [] M M' (zK0 sl sx) := by
  intro n
  induction n with
  | zero => intros; rename_i h _; cases h
  | succ n ih =>
    intro a0 x1 x2 M M' h hK
    obtain ⟨I0, L0, ⟨ra0, rb0, rc0, rd0⟩, K0, c0⟩ := M
    obtain rfl : K0 = zK0 sl sx := hK
    rcases zit h with ⟨g1, h⟩ | ⟨g1, h⟩
    · obtain ⟨g2, h⟩ := zIx h
      obtain ⟨g3, h⟩ := zIx h
      replace h := zWx h
      replace h := zWx h
      have q := ih h rfl
      exact ⟨zR_go 13 q.1 (fun n => (if_pos g1).trans ((if_pos g2).trans ((if_pos g3).trans rfl))), q.2⟩
    · obtain rfl := zrV h
      exact ⟨zR_ret 4 ((if_neg g1).trans rfl), rfl⟩
set_option maxRecDepth 20000 in
theorem L_Mo_shifts_51 {N d sl : Nat} {sx : Nat → Int} {i0 : Nat} {x1 : Int} {M : ZM} {M' : ZM} (h : Mo_shifts N 51 i0 x1 M = some M') (hK : mK M = zK0 sl sx) : zLV (d + 0) tb_X13_shifts 0 [some (vR 51 (some i0)), some (vI x1), none] [] M M' (zK0 sl sx) := by
  obtain ⟨I0, L0, ⟨ra0, rb0, rc0, rd0⟩, K0, c0⟩ := M
  obtain rfl : K0 = zK0 sl sx := hK
  have q := L_Mo_shifts_51_p2 (d := d) h rfl
  exact ⟨zR_go 2 q.1 (fun n => rfl), q.2⟩
set_option maxRecDepth 20000 in
theorem L_Mo_shifts_53_p2 {N d sl : Nat} {sx : Nat → Int} : ∀ {n : Nat} {a0 : Nat} {x1 : Int} {x2 : Int} {M : ZM} {M' : ZM}, Mo_shifts_2 N n 53 a0 x1 x2 M = some M' → mK M = zK0 sl sx → zLV (d + 0) tb_X13_shifts 2 [some (vR 53 (some a0)), some (vI x1), some (vI x2)] [] M M' (zK0 sl sx) := by
  intro n
  induction n with
  | zero => intros; rename_i h _; cases h
  | succ n ih =>
    intro a0 x1 x2 M M' h hK
    obtain ⟨I0, L0, ⟨ra0, rb0, rc0, rd0⟩, K0, c0⟩ := M
    obtain rfl : K0 = zK0 sl sx := hK
    rcases zit h with ⟨g1, h⟩ | ⟨g1, h⟩
    · obtain ⟨g2, h⟩ := zIx h
      obtain ⟨g3, h⟩ := zIx h
      replace h := zWx h
      replace h := zWx h
      have q := ih h rfl
      exact ⟨zR_go 13 q.1 (fun n => (if_pos g1).trans ((if_pos g2).trans ((if_pos g3).trans rfl))), q.2⟩
    · obtain rfl := zrV h
      exact ⟨zR_ret 4 ((if_neg g1).trans rfl), rfl⟩
set_option maxRecDepth 20000 in
theorem L_Mo_shifts_53 {N d sl : Nat} {sx : Nat → Int} {i0 : Nat} {x1 : Int} {M : ZM} {M' : ZM} (h : Mo_shifts N 53 i0 x1 M = some M') (hK : mK M = zK0 sl sx) : zLV (d + 0) tb_X13_shifts 0 [some (vR 53 (some i0)), some (vI x1), none] [] M M' (zK0 sl sx) := by
  obtain ⟨I0, L0, ⟨ra0, rb0, rc0, rd0⟩, K0, c0⟩ := M
  obtain rfl : K0 = zK0 sl sx := hK
  have q := L_Mo_shifts_53_p2 (d := d) h rfl
  exact ⟨zR_go 2 q.1 (fun n => rfl), q.2⟩
set_option maxRecDepth 20000 in
theorem L_Mo_shifts_54_p2 {N d sl : Nat} {sx : Nat → Int} : ∀ {n : Nat} {a0 : Nat} {x1 : Int} {x2 : Int} {M : ZM} {M' : ZM}, Mo_shifts_2 N n 54 a0 x1 x2 M = some M' → mK M = zK0 sl sx → zLV (d + 0) tb_X13_shifts 2 [some (vR 54 (some a0)), some (vI x1), some (vI x2)] [] M M' (zK0 sl sx) := by
  intro n
  induction n with
  | zero => intros; rename_i h _; cases h
  | succ n ih =>
    intro a0 x1 x2 M M' h hK
    obtain ⟨I0, L0, ⟨ra0, rb0, rc0, rd0⟩, K0, c0⟩ := M
    obtain rfl : K0 = zK0 sl sx := hK
    rcases zit h with ⟨g1, h⟩ | ⟨g1, h⟩
    · obtain ⟨g2, h⟩ := zIx h
      obtain ⟨g3, h⟩ := zIx h
      replace h := zWx h
      replace h := zWx h
      have q := ih h rfl
      exact ⟨zR_go 13 q.1 (fun n => (if_pos g1).trans ((if_pos g2).trans ((if_pos g3).trans rfl))), q.2⟩
    · obtain rfl := zrV h
      exact ⟨zR_ret 4 ((if_neg g1).trans rfl), rfl⟩
set_option maxRecDepth 20000 in
theorem L_Mo_shifts_54 {N d sl : Nat} {sx : Nat → Int} {i0 : Nat} {x1 : Int} {M : ZM} {M' : ZM} (h : Mo_shifts N 54 i0 x1 M = some M') (hK : mK M = zK0 sl sx) : zLV (d + 0) tb_X13_shifts 0 [some (vR 54 (some i0)), some (vI x1), none] [] M M' (zK0 sl sx) := by
  obtain ⟨I0, L0, ⟨ra0, rb0, rc0, rd0⟩, K0, c0⟩ := M
  obtain rfl : K0 = zK0 sl sx := hK
  have q := L_Mo_shifts_54_p2 (d := d) h rfl
  exact ⟨zR_go 2 q.1 (fun n => rfl), q.2⟩
set_option maxRecDepth 20000 in
theorem L_Mo_shifts_55_p2 {N d sl : Nat} {sx : Nat → Int} : ∀ {n : Nat} {a0 : Nat} {x1 : Int} {x2 : Int} {M : ZM} {M' : ZM}, Mo_shifts_2 N n 55 a0 x1 x2 M = some M' → mK M = zK0 sl sx → zLV (d + 0) tb_X13_shifts 2 [some (vR 55 (some a0)), some (vI x1), some (vI x2)] [] M M' (zK0 sl sx) := by
  intro n
  induction n with
  | zero => intros; rename_i h _; cases h
  | succ n ih =>
    intro a0 x1 x2 M M' h hK
    obtain ⟨I0, L0, ⟨ra0, rb0, rc0, rd0⟩, K0, c0⟩ := M
    obtain rfl : K0 = zK0 sl sx := hK
    rcases zit h with ⟨g1, h⟩ | ⟨g1, h⟩
    · obtain ⟨g2, h⟩ := zIx h
      obtain ⟨g3, h⟩ := zIx h
      replace h := zWx h
      replace h := zWx h
      have q := ih h rfl
      exact ⟨zR_go 13 q.1 (fun n => (if_pos g1).trans ((if_pos g2).trans ((if_pos g3).trans rfl))), q.2⟩
    · obtain rfl := zrV h
      exact ⟨zR_ret 4 ((if_neg g1).trans rfl), rfl⟩
set_option maxRecDepth 20000 in
theorem L_Mo_shifts_55 {N d sl : Nat} {sx : Nat → Int} {i0 : Nat} {x1 : Int} {M : ZM} {M' : ZM} (h : Mo_shifts N 55 i0 x1 M = some M') (hK : mK M = zK0 sl sx) : zLV (d + 0) tb_X13_shifts 0 [some (vR 55 (some i0)), some (vI x1), none] [] M M' (zK0 sl sx) := by
  obtain ⟨I0, L0, ⟨ra0, rb0, rc0, rd0⟩, K0, c0⟩ := M
  obtain rfl : K0 = zK0 sl sx := hK
  have q := L_Mo_shifts_55_p2 (d := d) h rfl
  exact ⟨zR_go 2 q.1 (fun n => rfl), q.2⟩
set_option maxRecDepth 20000 in
theorem L_Mo_shifts_56_p2 {N d sl : Nat} {sx : Nat → Int} : ∀ {n : Nat} {a0 : Nat} {x1 : Int} {x2 : Int} {M : ZM} {M' : ZM}, Mo_shifts_2 N n 56 a0 x1 x2 M = some M' → mK M = zK0 sl sx → zLV (d + 0) tb_X13_shifts 2 [some (vR 56 (some a0)), some (vI x1), some (vI x2)] [] M M' (zK0 sl sx) := by
  intro n
  induction n with
  | zero => intros; rename_i h _; cases h
  | succ n ih =>
    intro a0 x1 x2 M M' h hK
    obtain ⟨I0, L0, ⟨ra0, rb0, rc0, rd0⟩, K0, c0⟩ := M
    obtain rfl : K0 = zK0 sl sx := hK
    rcases zit h with ⟨g1, h⟩ | ⟨g1, h⟩
    · obtain ⟨g2, h⟩ := zIx h
      obtain ⟨g3, h⟩ := zIx h
      replace h := zWx h
      replace h := zWx h
      have q := ih h rfl
      exact ⟨zR_go 13 q.1 (fun n => (if_pos g1).trans ((if_pos g2).trans ((if_pos g3).trans rfl))), q.2⟩
    · obtain rfl := zrV h
      exact ⟨zR_ret 4 ((if_neg g1).trans rfl), rfl⟩
set_option maxRecDepth 20000 in
theorem L_Mo_shifts_56 {N d sl : Nat} {sx : Nat → Int} {i0 : Nat} {x1 : Int} {M : ZM} {M' : ZM} (h : Mo_shifts N 56 i0 x1 M = some M') (hK : mK M = zK0 sl sx) : zLV (d + 0) tb_X13_shifts 0 [some (vR 56 (some i0)), some (vI x1), none] [] M M' (zK0 sl sx) := by
  obtain ⟨I0, L0, ⟨ra0, rb0, rc0, rd0⟩, K0, c0⟩ := M
  obtain rfl : K0 = zK0 sl sx := hK
  have q := L_Mo_shifts_56_p2 (d := d) h rfl
  exact ⟨zR_go 2 q.1 (fun n => rfl), q.2⟩
set_option maxRecDepth 20000 in
theorem L_Mo_shifts_57_p2 {N d sl : Nat} {sx : Nat → Int} : ∀ {n : Nat} {a0 : Nat} {x1 : Int} {x2 : Int} {M : ZM} {M' : ZM}, Mo_shifts_2 N n 57 a0 x1 x2 M = some M' → mK M = zK0 sl sx → zLV (d + 0) tb_X13_shifts 2 [some (vR 57 (some a0)), some (vI x1), some (vI x2)] [] M M' (zK0 sl sx) := by
  intro n
  induction n with
  | zero => intros; rename_i h _; cases h
  | succ n ih =>
    intro a0 x1 x2 M M' h hK
    obtain ⟨I0, L0, ⟨ra0, rb0, rc0, rd0⟩, K0, c0⟩ := M
    obtain rfl : K0 = zK0 sl sx := hK
    rcases zit h with ⟨g1, h⟩ | ⟨g1, h⟩
    · obtain ⟨g2, h⟩ := zIx h
      obtain ⟨g3, h⟩ := zIx h
      replace h := zWx h
      replace h := zWx h
      have q := ih h rfl
      exact ⟨zR_go 13 q.1 (fun n => (if_pos g1).trans ((if_pos g2).trans ((if_pos g3).trans rfl))), q.2⟩
    · obtain rfl := zrV h
      exact ⟨zR_ret 4 ((if_neg g1).trans rfl), rfl⟩
set_option maxRecDepth 20000 in
theorem L_Mo_shifts_57 {N d sl : Nat} {sx : Nat → Int} {i0 : Nat} {x1 : Int} {M : ZM} {M' : ZM} (h : Mo_shifts N 57 i0 x1 M = some M') (hK : mK M = zK0 sl sx) : zLV (d + 0) tb_X13_shifts 0 [some (vR 57 (some i0)), some (vI x1), none] [] M M' (zK0 sl sx) := by
  obtain ⟨I0, L0, ⟨ra0, rb0, rc0, rd0⟩, K0, c0⟩ := M
  obtain rfl : K0 = zK0 sl sx := hK
  have q := L_Mo_shifts_57_p2 (d := d) h rfl
  exact ⟨zR_go 2 q.1 (fun n => rfl), q.2⟩
set_option maxRecDepth 20000 in
theorem L_Mo_shifts_58_p2 {N d sl : Nat} {sx : Nat → Int} : ∀ {n : Nat} {a0 : Nat} {x1 : Int} {x2 : Int} {M : ZM} {M' : ZM}, Mo_shifts_2 N n 58 a0 x1 x2 M = some M' → mK M = zK0 sl sx → zLV (d + 0) tb_X13_shifts 2 [some (vR 58 (some a0)), some (vI x1), some (vI x2)] [] M M' (zK0 sl sx) := by
  intro n
  induction n with
  | zero => intros; rename_i h _; cases h
  | succ n ih =>
    intro a0 x1 x2 M M' h hK
    obtain ⟨I0, L0, ⟨ra0, rb0, rc0, rd0⟩, K0, c0⟩ := M
    obtain rfl : K0 = zK0 sl sx := hK
    rcases zit h with ⟨g1, h⟩ | ⟨g1, h⟩
    · obtain ⟨g2, h⟩ := zIx h
      obtain ⟨g3, h⟩ := zIx h
      replace h := zWx h
      replace h := zWx h
      have q := ih h rfl
      exact ⟨zR_go 13 q.1 (fun n => (if_pos g1).trans ((if_pos g2).trans ((if_pos g3).trans rfl))), q.2⟩
    · obtain rfl := zrV h
      exact ⟨zR_ret 4 ((if_neg g1).trans rfl), rfl⟩
set_option maxRecDepth 20000 in
theorem L_Mo_shifts_58 {N d sl : Nat} {sx : Nat → Int} {i0 : Nat} {x1 : Int} {M : ZM} {M' : ZM} (h : Mo_shifts N 58 i0 x1 M = some M') (hK : mK M = zK0 sl sx) : zLV (d + 0) tb_X13_shifts 0 [some (vR 58 (some i0)), some (vI x1), none] [] M M' (zK0 sl sx) := by
  obtain ⟨I0, L0, ⟨ra0, rb0, rc0, rd0⟩, K0, c0⟩ := M
  obtain rfl : K0 = zK0 sl sx := hK
  have q := L_Mo_shifts_58_p2 (d := d) h rfl
  exact ⟨zR_go 2 q.1 (fun n => rfl), q.2⟩
set_option maxRecDepth 20000 in
theorem L_Mo_shifts_61_p2 {N d sl : Nat} {sx : Nat → Int} : ∀ {n : Nat} {a0 : Nat} {x1 : Int} {x2 : Int} {M : ZM} {M' : ZM}, Mo_shifts_2 N n 61 a0 x1 x2 M = some M' → mK M = zK0 sl sx → zLV (d + 0) tb_X13_shifts 2 [some (vR 61 (some a0)), some (vI x1), some (vI x2)] [] M M' (zK0 sl sx) := by
  intro n
  induction n with
  | zero => intros; rename_i h _; cases h
  | succ n ih =>
    intro a0 x1 x2 M M' h hK
    obtain ⟨I0, L0, ⟨ra0, rb0, rc0, rd0⟩, K0, c0⟩ := M
    obtain rfl : K0 = zK0 sl sx := hK
    rcases zit h with ⟨g1, h⟩ | ⟨g1, h⟩
    · obtain ⟨g2, h⟩ := zIx h
      obtain ⟨g3, h⟩ := zIx h
      replace h := zWx h
      replace h := zWx h
      have q := ih h rfl
      exact ⟨zR_go 13 q.1 (fun n => (if_pos g1).trans ((if_pos g2).trans ((if_pos g3).trans rfl))), q.2⟩
    · obtain rfl := zrV h
      exact ⟨zR_ret 4 ((if_neg g1).trans rfl), rfl⟩
set_option maxRecDepth 20000 in
theorem L_Mo_shifts_61 {N d sl : Nat} {sx : Nat → Int} {i0 : Nat} {x1 : Int} {M : ZM} {M' : ZM} (h : Mo_shifts N 61 i0 x1 M = some M') (hK : mK M = zK0 sl sx) : zLV (d + 0) tb_X13_shifts 0 [some (vR 61 (some i0)), some (vI x1), none] [] M M' (zK0 sl sx) := by
  obtain ⟨I0, L0, ⟨ra0, rb0, rc0, rd0⟩, K0, c0⟩ := M
  obtain rfl : K0 = zK0 sl sx := hK
  have q := L_Mo_shifts_61_p2 (d := d) h rfl
  exact ⟨zR_go 2 q.1 (fun n => rfl), q.2⟩
set_option maxRecDepth 20000 in
theorem L_Mo_lays_11 {N d sl : Nat} {sx : Nat → Int} : ∀ {n : Nat} {a0 : Nat} {x1 : Int} {M : ZM} {M' : ZM}, Mo_lays_11 N n a0 x1 M = some M' → mK M = zK0 sl sx → zLV (d + 1) tb_X13_lays 11 [some (vR 11 (some a0)), some (vI x1)] [] M M' (zK0 sl sx) := by
  intro n
  induction n with
  | zero => intros; rename_i h _; cases h
  | succ n ih =>
    intro a0 x1 M M' h hK
    obtain ⟨I0, L0, ⟨ra0, rb0, rc0, rd0⟩, K0, c0⟩ := M
    obtain rfl : K0 = zK0 sl sx := hK
    rcases zit h with ⟨g1, h⟩ | ⟨g1, h⟩
    · obtain ⟨g2, h⟩ := zIx h
      obtain ⟨g3, h⟩ := zIx h
      replace h := zWx h
      replace h := zWx h
      have q := ih h rfl
      exact ⟨zR_go 15 q.1 (fun n => (if_pos g1).trans ((if_pos g2).trans ((if_pos g3).trans rfl))), q.2⟩
    · obtain ⟨M103, f103, h⟩ := zBvx h
      have q103 := L_Mo_shifts_53 (d := d) f103 rfl
      obtain ⟨I103, L103, ⟨ra103, rb103, rc103, rd103⟩, K103, c103⟩ := M103
      obtain rfl : K103 = zK0 sl sx := q103.2
      suffices w103 : zLV (d + 1) tb_X13_lays 47 [some (vR 11 (some a0)), some (vI x1)] [] (I103, L103, (ra103, rb103, rc103, rd103), zK0 sl sx, c103) M' (zK0 sl sx) from ⟨zR_call (rest := []) 7 q103.1 (fun n => (if_neg g1).trans rfl) w103.1, w103.2⟩
      obtain ⟨M104, f104, h⟩ := zBvx h
      have q104 := L_Mo_shifts_54 (d := d) f104 rfl
      obtain ⟨I104, L104, ⟨ra104, rb104, rc104, rd104⟩, K104, c104⟩ := M104
      obtain rfl : K104 = zK0 sl sx := q104.2
      suffices w104 : zLV (d + 1) tb_X13_lays 56 [some (vR 11 (some a0)), some (vI x1)] [] (I104, L104, (ra104, rb104, rc104, rd104), zK0 sl sx, c104) M' (zK0 sl sx) from ⟨zR_call (rest := []) 4 q104.1 (fun n => rfl) w104.1, w104.2⟩
      obtain ⟨M105, f105, h⟩ := zBvx h
      have q105 := L_Mo_shifts_55 (d := d) f105 rfl
      obtain ⟨I105, L105, ⟨ra105, rb105, rc105, rd105⟩, K105, c105⟩ := M105
      obtain rfl : K105 = zK0 sl sx := q105.2
      suffices w105 : zLV (d + 1) tb_X13_lays 65 [some (vR 11 (some a0)), some (vI x1)] [] (I105, L105, (ra105, rb105, rc105, rd105), zK0 sl sx, c105) M' (zK0 sl sx) from ⟨zR_call (rest := []) 4 q105.1 (fun n => rfl) w105.1, w105.2⟩
      obtain ⟨M106, f106, h⟩ := zBvx h
      have q106 := L_Mo_shifts_56 (d := d) f106 rfl
      obtain ⟨I106, L106, ⟨ra106, rb106, rc106, rd106⟩, K106, c106⟩ := M106
      obtain rfl : K106 = zK0 sl sx := q106.2
      suffices w106 : zLV (d + 1) tb_X13_lays 74 [some (vR 11 (some a0)), some (vI x1)] [] (I106, L106, (ra106, rb106, rc106, rd106), zK0 sl sx, c106) M' (zK0 sl sx) from ⟨zR_call (rest := []) 4 q106.1 (fun n => rfl) w106.1, w106.2⟩
      obtain ⟨M107, f107, h⟩ := zBvx h
      have q107 := L_Mo_shifts_57 (d := d) f107 rfl
      obtain ⟨I107, L107, ⟨ra107, rb107, rc107, rd107⟩, K107, c107⟩ := M107
      obtain rfl : K107 = zK0 sl sx := q107.2
      suffices w107 : zLV (d + 1) tb_X13_lays 83 [some (vR 11 (some a0)), some (vI x1)] [] (I107, L107, (ra107, rb107, rc107, rd107), zK0 sl sx, c107) M' (zK0 sl sx) from ⟨zR_call (rest := []) 4 q107.1 (fun n => rfl) w107.1, w107.2⟩
      obtain ⟨M108, f108, h⟩ := zBvx h
      have q108 := L_Mo_shifts_58 (d := d) f108 rfl
      obtain ⟨I108, L108, ⟨ra108, rb108, rc108, rd108⟩, K108, c108⟩ := M108
      obtain rfl : K108 = zK0 sl sx := q108.2
      suffices w108 : zLV (d + 1) tb_X13_lays 92 [some (vR 11 (some a0)), some (vI x1)] [] (I108, L108, (ra108, rb108, rc108, rd108), zK0 sl sx, c108) M' (zK0 sl sx) from ⟨zR_call (rest := []) 4 q108.1 (fun n => rfl) w108.1, w108.2⟩
      obtain ⟨M109, f109, h⟩ := zBvx h
      have q109 := L_Mo_shifts_61 (d := d) f109 rfl
      obtain ⟨I109, L109, ⟨ra109, rb109, rc109, rd109⟩, K109, c109⟩ := M109
      obtain rfl : K109 = zK0 sl sx := q109.2
      suffices w109 : zLV (d + 1) tb_X13_lays 102 [some (vR 11 (some a0)), some (vI x1)] [] (I109, L109, (ra109, rb109, rc109, rd109), zK0 sl sx, c109) M' (zK0 sl sx) from ⟨zR_call (rest := []) 4 q109.1 (fun n => rfl) w109.1, w109.2⟩
      replace h := zWx h
      replace h := zWx h
      obtain rfl := zrV h
      exact ⟨zR_ret 21 (rfl), rfl⟩
set_option maxRecDepth 20000 in
theorem L_Mo_lays {N d sl : Nat} {sx : Nat → Int} {a0 : Nat} {M : ZM} {M' : ZM} (h : Mo_lays N a0 M = some M') (hK : mK M = zK0 sl sx) : zLV (d + 1) tb_X13_lays 0 [some (vR 11 (some a0)), none] [] M M' (zK0 sl sx) := by
  obtain ⟨I0, L0, ⟨ra0, rb0, rc0, rd0⟩, K0, c0⟩ := M
  obtain rfl : K0 = zK0 sl sx := hK
  obtain ⟨M101, f101, h⟩ := zBvx h
  have q101 := L_Mo_shifts_51 (d := d) f101 rfl
  obtain ⟨I101, L101, ⟨ra101, rb101, rc101, rd101⟩, K101, c101⟩ := M101
  obtain rfl : K101 = zK0 sl sx := q101.2
  suffices w101 : zLV (d + 1) tb_X13_lays 9 [some (vR 11 (some a0)), none] [] (I101, L101, (ra101, rb101, rc101, rd101), zK0 sl sx, c101) M' (zK0 sl sx) from ⟨zR_call (rest := []) 4 q101.1 (fun n => rfl) w101.1, w101.2⟩
  have q := L_Mo_lays_11 (d := d) h rfl
  exact ⟨zR_go 2 q.1 (fun n => rfl), q.2⟩
set_option maxRecDepth 20000 in
theorem L_Mo_copies_81_82_p3 {N d sl : Nat} {sx : Nat → Int} : ∀ {n : Nat} {a0 : Nat} {x1 : Int} {a2 : Nat} {x3 : Int} {x4 : Int} {M : ZM} {M' : ZM}, Mo_copies_3 N n 81 a0 x1 82 a2 x3 x4 M = some M' → mK M = zK0 sl sx → zLV (d + 0) tb_X13_copies 3 [some (vR 81 (some a0)), some (vI x1), some (vR 82 (some a2)), some (vI x3), some (vI x4)] [] M M' (zK0 sl sx) := by
  intro n
  induction n with
  | zero => intros; rename_i h _; cases h
  | succ n ih =>
    intro a0 x1 a2 x3 x4 M M' h hK
    obtain ⟨I0, L0, ⟨ra0, rb0, rc0, rd0⟩, K0, c0⟩ := M
    obtain rfl : K0 = zK0 sl sx := hK
    rcases zit h with ⟨g1, h⟩ | ⟨g1, h⟩
    · obtain ⟨g2, h⟩ := zIx h
      obtain ⟨g3, h⟩ := zIx h
      replace h := zWx h
      replace h := zWx h
      have q := ih h rfl
      exact ⟨zR_go 15 q.1 (fun n => (if_pos g1).trans ((if_pos g2).trans ((if_pos g3).trans rfl))), q.2⟩
    · obtain rfl := zrV h
      exact ⟨zR_ret 4 ((if_neg g1).trans rfl), rfl⟩
set_option maxRecDepth 20000 in
theorem L_Mo_copies_81_82 {N d sl : Nat} {sx : Nat → Int} {i0 : Nat} {x1 : Int} {i2 : Nat} {x3 : Int} {M : ZM} {M' : ZM} (h : Mo_copies N 81 i0 x1 82 i2 x3 M = some M') (hK : mK M = zK0 sl sx) : zLV (d + 0) tb_X13_copies 0 [some (vR 81 (some i0)), some (vI x1), some (vR 82 (some i2)), some (vI x3), none] [] M M' (zK0 sl sx) := by
  obtain ⟨I0, L0, ⟨ra0, rb0, rc0, rd0⟩, K0, c0⟩ := M
  obtain rfl : K0 = zK0 sl sx := hK
  have q := L_Mo_copies_81_82_p3 (d := d) h rfl
  exact ⟨zR_go 2 q.1 (fun n => rfl), q.2⟩
set_option maxRecDepth 20000 in
theorem L_Mo_copies_81_83_p3 {N d sl : Nat} {sx : Nat → Int} : ∀ {n : Nat} {a0 : Nat} {x1 : Int} {a2 : Nat} {x3 : Int} {x4 : Int} {M : ZM} {M' : ZM}, Mo_copies_3 N n 81 a0 x1 83 a2 x3 x4 M = some M' → mK M = zK0 sl sx → zLV (d + 0) tb_X13_copies 3 [some (vR 81 (some a0)), some (vI x1), some (vR 83 (some a2)), some (vI x3), some (vI x4)] [] M M' (zK0 sl sx) := by
  intro n
  induction n with
  | zero => intros; rename_i h _; cases h
  | succ n ih =>
    intro a0 x1 a2 x3 x4 M M' h hK
    obtain ⟨I0, L0, ⟨ra0, rb0, rc0, rd0⟩, K0, c0⟩ := M
    obtain rfl : K0 = zK0 sl sx := hK
    rcases zit h with ⟨g1, h⟩ | ⟨g1, h⟩
    · obtain ⟨g2, h⟩ := zIx h
      obtain ⟨g3, h⟩ := zIx h
      replace h := zWx h
      replace h := zWx h
      have q := ih h rfl
      exact ⟨zR_go 15 q.1 (fun n => (if_pos g1).trans ((if_pos g2).trans ((if_pos g3).trans rfl))), q.2⟩
    · obtain rfl := zrV h
      exact ⟨zR_ret 4 ((if_neg g1).trans rfl), rfl⟩
set_option maxRecDepth 20000 in
theorem L_Mo_copies_81_83 {N d sl : Nat} {sx : Nat → Int} {i0 : Nat} {x1 : Int} {i2 : Nat} {x3 : Int} {M : ZM} {M' : ZM} (h : Mo_copies N 81 i0 x1 83 i2 x3 M = some M') (hK : mK M = zK0 sl sx) : zLV (d + 0) tb_X13_copies 0 [some (vR 81 (some i0)), some (vI x1), some (vR 83 (some i2)), some (vI x3), none] [] M M' (zK0 sl sx) := by
  obtain ⟨I0, L0, ⟨ra0, rb0, rc0, rd0⟩, K0, c0⟩ := M
  obtain rfl : K0 = zK0 sl sx := hK
  have q := L_Mo_copies_81_83_p3 (d := d) h rfl
  exact ⟨zR_go 2 q.1 (fun n => rfl), q.2⟩
set_option maxRecDepth 20000 in
theorem L_Mo_copies_81_84_p3 {N d sl : Nat} {sx : Nat → Int} : ∀ {n : Nat} {a0 : Nat} {x1 : Int} {a2 : Nat} {x3 : Int} {x4 : Int} {M : ZM} {M' : ZM}, Mo_copies_3 N n 81 a0 x1 84 a2 x3 x4 M = some M' → mK M = zK0 sl sx → zLV (d + 0) tb_X13_copies 3 [some (vR 81 (some a0)), some (vI x1), some (vR 84 (some a2)), some (vI x3), some (vI x4)] [] M M' (zK0 sl sx) := by
  intro n
  induction n with
  | zero => intros; rename_i h _; cases h
  | succ n ih =>
    intro a0 x1 a2 x3 x4 M M' h hK
    obtain ⟨I0, L0, ⟨ra0, rb0, rc0, rd0⟩, K0, c0⟩ := M
    obtain rfl : K0 = zK0 sl sx := hK
    rcases zit h with ⟨g1, h⟩ | ⟨g1, h⟩
    · obtain ⟨g2, h⟩ := zIx h
      obtain ⟨g3, h⟩ := zIx h
      replace h := zWx h
      replace h := zWx h
      have q := ih h rfl
      exact ⟨zR_go 15 q.1 (fun n => (if_pos g1).trans ((if_pos g2).trans ((if_pos g3).trans rfl))), q.2⟩
    · obtain rfl := zrV h
      exact ⟨zR_ret 4 ((if_neg g1).trans rfl), rfl⟩
set_option maxRecDepth 20000 in
theorem L_Mo_copies_81_84 {N d sl : Nat} {sx : Nat → Int} {i0 : Nat} {x1 : Int} {i2 : Nat} {x3 : Int} {M : ZM} {M' : ZM} (h : Mo_copies N 81 i0 x1 84 i2 x3 M = some M') (hK : mK M = zK0 sl sx) : zLV (d + 0) tb_X13_copies 0 [some (vR 81 (some i0)), some (vI x1), some (vR 84 (some i2)), some (vI x3), none] [] M M' (zK0 sl sx) := by
  obtain ⟨I0, L0, ⟨ra0, rb0, rc0, rd0⟩, K0, c0⟩ := M
  obtain rfl : K0 = zK0 sl sx := hK
  have q := L_Mo_copies_81_84_p3 (d := d) h rfl
  exact ⟨zR_go 2 q.1 (fun n => rfl), q.2⟩
set_option maxRecDepth 20000 in
theorem L_Mo_copies_81_85_p3 {N d sl : Nat} {sx : Nat → Int} : ∀ {n : Nat} {a0 : Nat} {x1 : Int} {a2 : Nat} {x3 : Int} {x4 : Int} {M : ZM} {M' : ZM}, Mo_copies_3 N n 81 a0 x1 85 a2 x3 x4 M = some M' → mK M = zK0 sl sx → zLV (d + 0) tb_X13_copies 3 [some (vR 81 (some a0)), some (vI x1), some (vR 85 (some a2)), some (vI x3), some (vI x4)] [] M M' (zK0 sl sx) := by
  intro n
  induction n with
  | zero => intros; rename_i h _; cases h
  | succ n ih =>
    intro a0 x1 a2 x3 x4 M M' h hK
    obtain ⟨I0, L0, ⟨ra0, rb0, rc0, rd0⟩, K0, c0⟩ := M
    obtain rfl : K0 = zK0 sl sx := hK
    rcases zit h with ⟨g1, h⟩ | ⟨g1, h⟩
    · obtain ⟨g2, h⟩ := zIx h
      obtain ⟨g3, h⟩ := zIx h
      replace h := zWx h
      replace h := zWx h
      have q := ih h rfl
      exact ⟨zR_go 15 q.1 (fun n => (if_pos g1).trans ((if_pos g2).trans ((if_pos g3).trans rfl))), q.2⟩
    · obtain rfl := zrV h
      exact ⟨zR_ret 4 ((if_neg g1).trans rfl), rfl⟩
set_option maxRecDepth 20000 in
theorem L_Mo_copies_81_85 {N d sl : Nat} {sx : Nat → Int} {i0 : Nat} {x1 : Int} {i2 : Nat} {x3 : Int} {M : ZM} {M' : ZM} (h : Mo_copies N 81 i0 x1 85 i2 x3 M = some M') (hK : mK M = zK0 sl sx) : zLV (d + 0) tb_X13_copies 0 [some (vR 81 (some i0)), some (vI x1), some (vR 85 (some i2)), some (vI x3), none] [] M M' (zK0 sl sx) := by
  obtain ⟨I0, L0, ⟨ra0, rb0, rc0, rd0⟩, K0, c0⟩ := M
  obtain rfl : K0 = zK0 sl sx := hK
  have q := L_Mo_copies_81_85_p3 (d := d) h rfl
  exact ⟨zR_go 2 q.1 (fun n => rfl), q.2⟩
set_option maxRecDepth 20000 in
theorem L_Mo_copies_82_81_p3 {N d sl : Nat} {sx : Nat → Int} : ∀ {n : Nat} {a0 : Nat} {x1 : Int} {a2 : Nat} {x3 : Int} {x4 : Int} {M : ZM} {M' : ZM}, Mo_copies_3 N n 82 a0 x1 81 a2 x3 x4 M = some M' → mK M = zK0 sl sx → zLV (d + 0) tb_X13_copies 3 [some (vR 82 (some a0)), some (vI x1), some (vR 81 (some a2)), some (vI x3), some (vI x4)] [] M M' (zK0 sl sx) := by
  intro n
  induction n with
  | zero => intros; rename_i h _; cases h
  | succ n ih =>
    intro a0 x1 a2 x3 x4 M M' h hK
    obtain ⟨I0, L0, ⟨ra0, rb0, rc0, rd0⟩, K0, c0⟩ := M
    obtain rfl : K0 = zK0 sl sx := hK
    rcases zit h with ⟨g1, h⟩ | ⟨g1, h⟩
    · obtain ⟨g2, h⟩ := zIx h
      obtain ⟨g3, h⟩ := zIx h
      replace h := zWx h
      replace h := zWx h
      have q := ih h rfl
      exact ⟨zR_go 15 q.1 (fun n => (if_pos g1).trans ((if_pos g2).trans ((if_pos g3).trans rfl))), q.2⟩
    · obtain rfl := zrV h
      exact ⟨zR_ret 4 ((if_neg g1).trans rfl), rfl⟩
set_option maxRecDepth 20000 in
theorem L_Mo_copies_82_81 {N d sl : Nat} {sx : Nat → Int} {i0 : Nat} {x1 : Int} {i2 : Nat} {x3 : Int} {M : ZM} {M' : ZM} (h : Mo_copies N 82 i0 x1 81 i2 x3 M = some M') (hK : mK M = zK0 sl sx) : zLV (d + 0) tb_X13_copies 0 [some (vR 82 (some i0)), some (vI x1), some (vR 81 (some i2)), some (vI x3), none] [] M M' (zK0 sl sx) := by
  obtain ⟨I0, L0, ⟨ra0, rb0, rc0, rd0⟩, K0, c0⟩ := M
  obtain rfl : K0 = zK0 sl sx := hK
  have q := L_Mo_copies_82_81_p3 (d := d) h rfl
  exact ⟨zR_go 2 q.1 (fun n => rfl), q.2⟩
set_option maxRecDepth 20000 in
theorem L_Mo_copies_83_81_p3 {N d sl : Nat} {sx : Nat → Int} : ∀ {n : Nat} {a0 : Nat} {x1 : Int} {a2 : Nat} {x3 : Int} {x4 : Int} {M : ZM} {M' : ZM}, Mo_copies_3 N n 83 a0 x1 81 a2 x3 x4 M = some M' → mK M = zK0 sl sx → zLV (d + 0) tb_X13_copies 3 [some (vR 83 (some a0)), some (vI x1), some (vR 81 (some a2)), some (vI x3), some (vI x4)] [] M M' (zK0 sl sx) := by
  intro n
  induction n with
  | zero => intros; rename_i h _; cases h
  | succ n ih =>
    intro a0 x1 a2 x3 x4 M M' h hK
    obtain ⟨I0, L0, ⟨ra0, rb0, rc0, rd0⟩, K0, c0⟩ := M
    obtain rfl : K0 = zK0 sl sx := hK
    rcases zit h with ⟨g1, h⟩ | ⟨g1, h⟩
    · obtain ⟨g2, h⟩ := zIx h
      obtain ⟨g3, h⟩ := zIx h
      replace h := zWx h
      replace h := zWx h
      have q := ih h rfl
      exact ⟨zR_go 15 q.1 (fun n => (if_pos g1).trans ((if_pos g2).trans ((if_pos g3).trans rfl))), q.2⟩
    · obtain rfl := zrV h
      exact ⟨zR_ret 4 ((if_neg g1).trans rfl), rfl⟩
set_option maxRecDepth 20000 in
theorem L_Mo_copies_83_81 {N d sl : Nat} {sx : Nat → Int} {i0 : Nat} {x1 : Int} {i2 : Nat} {x3 : Int} {M : ZM} {M' : ZM} (h : Mo_copies N 83 i0 x1 81 i2 x3 M = some M') (hK : mK M = zK0 sl sx) : zLV (d + 0) tb_X13_copies 0 [some (vR 83 (some i0)), some (vI x1), some (vR 81 (some i2)), some (vI x3), none] [] M M' (zK0 sl sx) := by
  obtain ⟨I0, L0, ⟨ra0, rb0, rc0, rd0⟩, K0, c0⟩ := M
  obtain rfl : K0 = zK0 sl sx := hK
  have q := L_Mo_copies_83_81_p3 (d := d) h rfl
  exact ⟨zR_go 2 q.1 (fun n => rfl), q.2⟩
set_option maxRecDepth 20000 in
theorem L_Mo_copies_84_81_p3 {N d sl : Nat} {sx : Nat → Int} : ∀ {n : Nat} {a0 : Nat} {x1 : Int} {a2 : Nat} {x3 : Int} {x4 : Int} {M : ZM} {M' : ZM}, Mo_copies_3 N n 84 a0 x1 81 a2 x3 x4 M = some M' → mK M = zK0 sl sx → zLV (d + 0) tb_X13_copies 3 [some (vR 84 (some a0)), some (vI x1), some (vR 81 (some a2)), some (vI x3), some (vI x4)] [] M M' (zK0 sl sx) := by
  intro n
  induction n with
  | zero => intros; rename_i h _; cases h
  | succ n ih =>
    intro a0 x1 a2 x3 x4 M M' h hK
    obtain ⟨I0, L0, ⟨ra0, rb0, rc0, rd0⟩, K0, c0⟩ := M
    obtain rfl : K0 = zK0 sl sx := hK
    rcases zit h with ⟨g1, h⟩ | ⟨g1, h⟩
    · obtain ⟨g2, h⟩ := zIx h
      obtain ⟨g3, h⟩ := zIx h
      replace h := zWx h
      replace h := zWx h
      have q := ih h rfl
      exact ⟨zR_go 15 q.1 (fun n => (if_pos g1).trans ((if_pos g2).trans ((if_pos g3).trans rfl))), q.2⟩
    · obtain rfl := zrV h
      exact ⟨zR_ret 4 ((if_neg g1).trans rfl), rfl⟩
set_option maxRecDepth 20000 in
theorem L_Mo_copies_84_81 {N d sl : Nat} {sx : Nat → Int} {i0 : Nat} {x1 : Int} {i2 : Nat} {x3 : Int} {M : ZM} {M' : ZM} (h : Mo_copies N 84 i0 x1 81 i2 x3 M = some M') (hK : mK M = zK0 sl sx) : zLV (d + 0) tb_X13_copies 0 [some (vR 84 (some i0)), some (vI x1), some (vR 81 (some i2)), some (vI x3), none] [] M M' (zK0 sl sx) := by
  obtain ⟨I0, L0, ⟨ra0, rb0, rc0, rd0⟩, K0, c0⟩ := M
  obtain rfl : K0 = zK0 sl sx := hK
  have q := L_Mo_copies_84_81_p3 (d := d) h rfl
  exact ⟨zR_go 2 q.1 (fun n => rfl), q.2⟩
set_option maxRecDepth 20000 in
theorem L_Mo_copies_85_81_p3 {N d sl : Nat} {sx : Nat → Int} : ∀ {n : Nat} {a0 : Nat} {x1 : Int} {a2 : Nat} {x3 : Int} {x4 : Int} {M : ZM} {M' : ZM}, Mo_copies_3 N n 85 a0 x1 81 a2 x3 x4 M = some M' → mK M = zK0 sl sx → zLV (d + 0) tb_X13_copies 3 [some (vR 85 (some a0)), some (vI x1), some (vR 81 (some a2)), some (vI x3), some (vI x4)] [] M M' (zK0 sl sx) := by
  intro n
  induction n with
  | zero => intros; rename_i h _; cases h
  | succ n ih =>
    intro a0 x1 a2 x3 x4 M M' h hK
    obtain ⟨I0, L0, ⟨ra0, rb0, rc0, rd0⟩, K0, c0⟩ := M
    obtain rfl : K0 = zK0 sl sx := hK
    rcases zit h with ⟨g1, h⟩ | ⟨g1, h⟩
    · obtain ⟨g2, h⟩ := zIx h
      obtain ⟨g3, h⟩ := zIx h
      replace h := zWx h
      replace h := zWx h
      have q := ih h rfl
      exact ⟨zR_go 15 q.1 (fun n => (if_pos g1).trans ((if_pos g2).trans ((if_pos g3).trans rfl))), q.2⟩
    · obtain rfl := zrV h
      exact ⟨zR_ret 4 ((if_neg g1).trans rfl), rfl⟩
set_option maxRecDepth 20000 in
theorem L_Mo_copies_85_81 {N d sl : Nat} {sx : Nat → Int} {i0 : Nat} {x1 : Int} {i2 : Nat} {x3 : Int} {M : ZM} {M' : ZM} (h : Mo_copies N 85 i0 x1 81 i2 x3 M = some M') (hK : mK M = zK0 sl sx) : zLV (d + 0) tb_X13_copies 0 [some (vR 85 (some i0)), some (vI x1), some (vR 81 (some i2)), some (vI x3), none] [] M M' (zK0 sl sx) := by
  obtain ⟨I0, L0, ⟨ra0, rb0, rc0, rd0⟩, K0, c0⟩ := M
  obtain rfl : K0 = zK0 sl sx := hK
  have q := L_Mo_copies_85_81_p3 (d := d) h rfl
  exact ⟨zR_go 2 q.1 (fun n => rfl), q.2⟩
set_option maxRecDepth 20000 in
theorem L_Mo_readsLine_175 {N d sl : Nat} {sx : Nat → Int} {a0 : Nat} {M : ZM} {x : Int} {M' : ZM} (h : Mo_readsLine_175 N a0 M = some (x, M')) (hK : mK M = zK0 sl sx) : zLI (d + 3) tb_X13_readsLine 175 [some (vR 11 (some a0)), none, none] [] M x M' (zK0 sl sx) := by
  obtain ⟨I0, L0, ⟨ra0, rb0, rc0, rd0⟩, K0, c0⟩ := M
  obtain rfl : K0 = zK0 sl sx := hK
  replace h := zWx h
  obtain ⟨v102, M102, f102, h⟩ := zBx h
  have q102 := L_Mo_closes (d := d) f102 rfl
  obtain ⟨I102, L102, ⟨ra102, rb102, rc102, rd102⟩, K102, c102⟩ := M102
  obtain rfl : K102 = zK0 sl sx := q102.2
  suffices w102 : zLI (d + 3) tb_X13_readsLine 189 [some (vR 11 (some a0)), none, none] [vI v102] (I102, L102, (ra102, rb102, rc102, rd102), zK0 sl sx, c102) x M' (zK0 sl sx) from ⟨zR_call (rest := []) 10 q102.1 (fun n => rfl) w102.1, w102.2⟩
  obtain ⟨rfl, rfl⟩ := zrI h
  exact ⟨zR_ret 1 (rfl), rfl⟩
set_option maxRecDepth 20000 in
theorem L_Mo_readsLine_150 {N d sl : Nat} {sx : Nat → Int} {a0 : Nat} {x1 : Int} {x2 : Int} {M : ZM} {x : Int} {M' : ZM} (h : Mo_readsLine_150 N a0 x1 x2 M = some (x, M')) (hK : mK M = zK0 sl sx) : zLI (d + 3) tb_X13_readsLine 150 [some (vR 11 (some a0)), some (vI x1), some (vI x2)] [] M x M' (zK0 sl sx) := by
  obtain ⟨I0, L0, ⟨ra0, rb0, rc0, rd0⟩, K0, c0⟩ := M
  obtain rfl : K0 = zK0 sl sx := hK
  rcases zit h with ⟨g1, h⟩ | ⟨g1, h⟩
  · obtain ⟨v101, M101, f101, h⟩ := zBx h
    have q101 := L_Mo_needsNumber (d := d) f101 rfl
    obtain ⟨I101, L101, ⟨ra101, rb101, rc101, rd101⟩, K101, c101⟩ := M101
    obtain rfl : K101 = zK0 sl sx := q101.2
    suffices w101 : zLI (d + 3) tb_X13_readsLine 160 [some (vR 11 (some a0)), some (vI x1), some (vI x2)] [vI v101] (I101, L101, (ra101, rb101, rc101, rd101), zK0 sl sx, c101) x M' (zK0 sl sx) from ⟨zR_call (rest := []) 6 q101.1 (fun n => (if_pos g1).trans rfl) w101.1, w101.2⟩
    rcases zit h with ⟨g2, h⟩ | ⟨g2, h⟩
    · obtain ⟨rfl, rfl⟩ := zrI h
      exact ⟨zR_ret 3 ((if_pos g2).trans rfl), rfl⟩
    · obtain ⟨g3, h⟩ := zIx h
      replace h := zWx h
      have q := L_Mo_readsLine_175 (d := d) h rfl
      exact ⟨zR_go 7 (zR_up (ls' := [some (vR 11 (some a0)), some (vI x1), some (vI x2)]) q.1 ⟨.inr rfl, .inl rfl, .inl rfl, trivial⟩) (fun n => (if_neg g2).trans ((if_pos g3).trans rfl)), q.2⟩
  · have q := L_Mo_readsLine_175 (d := d) h rfl
    exact ⟨zR_go 2 (zR_up (ls' := [some (vR 11 (some a0)), some (vI x1), some (vI x2)]) q.1 ⟨.inr rfl, .inl rfl, .inl rfl, trivial⟩) (fun n => (if_neg g1).trans rfl), q.2⟩
set_option maxRecDepth 20000 in
theorem L_Mo_readsLine_71 {N d sl : Nat} {sx : Nat → Int} {a0 : Nat} {y0 : Int} {M : ZM} {x : Int} {M' : ZM} (h : Mo_readsLine_71 N a0 y0 M = some (x, M')) (hK : mK M = zK0 sl sx) : zLI (d + 3) tb_X13_readsLine 71 [some (vR 11 (some a0)), none, none] [vI y0] M x M' (zK0 sl sx) := by
  obtain ⟨I0, L0, ⟨ra0, rb0, rc0, rd0⟩, K0, c0⟩ := M
  obtain rfl : K0 = zK0 sl sx := hK
  rcases zit h with ⟨g1, h⟩ | ⟨g1, h⟩
  · obtain ⟨v101, M101, f101, h⟩ := zBx h
    have q101 := L_Mo_fails (d := (d + 2)) f101 rfl
    obtain ⟨I101, L101, ⟨ra101, rb101, rc101, rd101⟩, K101, c101⟩ := M101
    obtain rfl : K101 = zK0 sl sx := q101.2
    suffices w101 : zLI (d + 3) tb_X13_readsLine 81 [some (vR 11 (some a0)), some (vI y0), none] [vI v101] (I101, L101, (ra101, rb101, rc101, rd101), zK0 sl sx, c101) x M' (zK0 sl sx) from ⟨zR_call (rest := []) 6 q101.1 (fun n => (if_pos g1).trans rfl) w101.1, w101.2⟩
    obtain ⟨rfl, rfl⟩ := zrI h
    exact ⟨zR_ret 1 (rfl), rfl⟩
  · rcases zit h with ⟨g2, h⟩ | ⟨g2, h⟩
    · obtain ⟨v102, M102, f102, h⟩ := zBx h
      have q102 := L_Mo_fails (d := (d + 2)) f102 rfl
      obtain ⟨I102, L102, ⟨ra102, rb102, rc102, rd102⟩, K102, c102⟩ := M102
      obtain rfl : K102 = zK0 sl sx := q102.2
      suffices w102 : zLI (d + 3) tb_X13_readsLine 98 [some (vR 11 (some a0)), some (vI y0), none] [vI v102] (I102, L102, (ra102, rb102, rc102, rd102), zK0 sl sx, c102) x M' (zK0 sl sx) from ⟨zR_call (rest := []) 12 q102.1 (fun n => (if_neg g1).trans ((if_pos g2).trans rfl)) w102.1, w102.2⟩
      obtain ⟨rfl, rfl⟩ := zrI h
      exact ⟨zR_ret 1 (rfl), rfl⟩
    · obtain ⟨M103, f103, h⟩ := zBvx h
      have q103 := L_Mo_nextToken (d := (d + 1)) f103 rfl
      obtain ⟨I103, L103, ⟨ra103, rb103, rc103, rd103⟩, K103, c103⟩ := M103
      obtain rfl : K103 = zK0 sl sx := q103.2
      suffices w103 : zLI (d + 3) tb_X13_readsLine 103 [some (vR 11 (some a0)), some (vI y0), none] [] (I103, L103, (ra103, rb103, rc103, rd103), zK0 sl sx, c103) x M' (zK0 sl sx) from ⟨zR_call (rest := []) 11 q103.1 (fun n => (if_neg g1).trans ((if_neg g2).trans rfl)) w103.1, w103.2⟩
      replace h := zWx h
      obtain ⟨g3, h⟩ := zIx h
      replace h := zWx h
      rcases zit h with ⟨g4, h⟩ | ⟨g4, h⟩
      · have q := L_Mo_readsLine_150 (d := d) h rfl
        exact ⟨zR_go 15 q.1 (fun n => (if_pos g3).trans ((if_pos g4).trans rfl)), q.2⟩
      · obtain ⟨v106, M106, f106, h⟩ := zBx h
        have q106 := L_Mo_needsTurbine (d := (d + 1)) f106 rfl
        obtain ⟨I106, L106, ⟨ra106, rb106, rc106, rd106⟩, K106, c106⟩ := M106
        obtain rfl : K106 = zK0 sl sx := q106.2
        suffices w106 : zLI (d + 3) tb_X13_readsLine 131 [some (vR 11 (some a0)), some (vI y0), some (vI (z32 (200 + (mI (I103, L103, (ra103, rb103, rc103, rd103), zK0 sl sx, c103) 74 a0 5))))] [vI v106] (I106, L106, (ra106, rb106, rc106, rd106), zK0 sl sx, c106) x M' (zK0 sl sx) from ⟨zR_call (rest := []) 18 q106.1 (fun n => (if_pos g3).trans ((if_neg g4).trans rfl)) w106.1, w106.2⟩
        rcases zit h with ⟨g5, h⟩ | ⟨g5, h⟩
        · obtain ⟨rfl, rfl⟩ := zrI h
          exact ⟨zR_ret 3 ((if_pos g5).trans rfl), rfl⟩
        · obtain ⟨g6, h⟩ := zIx h
          replace h := zWx h
          obtain ⟨M108, f108, h⟩ := zBvx h
          have q108 := L_Mo_nextToken (d := (d + 1)) f108 rfl
          obtain ⟨I108, L108, ⟨ra108, rb108, rc108, rd108⟩, K108, c108⟩ := M108
          obtain rfl : K108 = zK0 sl sx := q108.2
          suffices w108 : zLI (d + 3) tb_X13_readsLine 150 [some (vR 11 (some a0)), some (vI y0), some (vI (z32 (200 + (mI (I103, L103, (ra103, rb103, rc103, rd103), zK0 sl sx, c103) 74 a0 5))))] [] (I108, L108, (ra108, rb108, rc108, rd108), zK0 sl sx, c108) x M' (zK0 sl sx) from ⟨zR_call (rest := []) 9 q108.1 (fun n => (if_neg g5).trans ((if_pos g6).trans rfl)) w108.1, w108.2⟩
          have q := L_Mo_readsLine_150 (d := d) h rfl
          exact ⟨q.1, q.2⟩
set_option maxRecDepth 20000 in
theorem L_Mo_readsLine {N d sl : Nat} {sx : Nat → Int} {a0 : Nat} {M : ZM} {x : Int} {M' : ZM} (h : Mo_readsLine N a0 M = some (x, M')) (hK : mK M = zK0 sl sx) : zLI (d + 3) tb_X13_readsLine 0 [some (vR 11 (some a0)), none, none] [] M x M' (zK0 sl sx) := by
  obtain ⟨I0, L0, ⟨ra0, rb0, rc0, rd0⟩, K0, c0⟩ := M
  obtain rfl : K0 = zK0 sl sx := hK
  obtain ⟨v101, M101, f101, h⟩ := zBx h
  have q101 := L_Mo_isWord (d := (d + 2)) f101 rfl
  obtain ⟨I101, L101, ⟨ra101, rb101, rc101, rd101⟩, K101, c101⟩ := M101
  obtain rfl : K101 = zK0 sl sx := q101.2
  suffices w101 : zLI (d + 3) tb_X13_readsLine 7 [some (vR 11 (some a0)), none, none] [vI v101] (I101, L101, (ra101, rb101, rc101, rd101), zK0 sl sx, c101) x M' (zK0 sl sx) from ⟨zR_call (rest := []) 3 q101.1 (fun n => rfl) w101.1, w101.2⟩
  rcases zit h with ⟨g1, h⟩ | ⟨g1, h⟩
  · obtain ⟨v102, M102, f102, h⟩ := zBx h
    have q102 := L_Mo_isWord (d := (d + 2)) f102 rfl
    obtain ⟨I102, L102, ⟨ra102, rb102, rc102, rd102⟩, K102, c102⟩ := M102
    obtain rfl : K102 = zK0 sl sx := q102.2
    suffices w102 : zLI (d + 3) tb_X13_readsLine 21 [some (vR 11 (some a0)), none, none] [vI v102] (I102, L102, (ra102, rb102, rc102, rd102), zK0 sl sx, c102) x M' (zK0 sl sx) from ⟨zR_call (rest := []) 4 q102.1 (fun n => (if_pos g1).trans rfl) w102.1, w102.2⟩
    rcases zit h with ⟨g2, h⟩ | ⟨g2, h⟩
    · obtain ⟨v103, M103, f103, h⟩ := zBx h
      have q103 := L_Mo_isWord (d := (d + 2)) f103 rfl
      obtain ⟨I103, L103, ⟨ra103, rb103, rc103, rd103⟩, K103, c103⟩ := M103
      obtain rfl : K103 = zK0 sl sx := q103.2
      suffices w103 : zLI (d + 3) tb_X13_readsLine 35 [some (vR 11 (some a0)), none, none] [vI v103] (I103, L103, (ra103, rb103, rc103, rd103), zK0 sl sx, c103) x M' (zK0 sl sx) from ⟨zR_call (rest := []) 4 q103.1 (fun n => (if_pos g2).trans rfl) w103.1, w103.2⟩
      rcases zit h with ⟨g3, h⟩ | ⟨g3, h⟩
      · obtain ⟨v104, M104, f104, h⟩ := zBx h
        have q104 := L_Mo_isWord (d := (d + 2)) f104 rfl
        obtain ⟨I104, L104, ⟨ra104, rb104, rc104, rd104⟩, K104, c104⟩ := M104
        obtain rfl : K104 = zK0 sl sx := q104.2
        suffices w104 : zLI (d + 3) tb_X13_readsLine 49 [some (vR 11 (some a0)), none, none] [vI v104] (I104, L104, (ra104, rb104, rc104, rd104), zK0 sl sx, c104) x M' (zK0 sl sx) from ⟨zR_call (rest := []) 4 q104.1 (fun n => (if_pos g3).trans rfl) w104.1, w104.2⟩
        rcases zit h with ⟨g4, h⟩ | ⟨g4, h⟩
        · obtain ⟨v105, M105, f105, h⟩ := zBx h
          have q105 := L_Mo_isWord (d := (d + 2)) f105 rfl
          obtain ⟨I105, L105, ⟨ra105, rb105, rc105, rd105⟩, K105, c105⟩ := M105
          obtain rfl : K105 = zK0 sl sx := q105.2
          suffices w105 : zLI (d + 3) tb_X13_readsLine 63 [some (vR 11 (some a0)), none, none] [vI v105] (I105, L105, (ra105, rb105, rc105, rd105), zK0 sl sx, c105) x M' (zK0 sl sx) from ⟨zR_call (rest := []) 4 q105.1 (fun n => (if_pos g4).trans rfl) w105.1, w105.2⟩
          rcases zit h with ⟨g5, h⟩ | ⟨g5, h⟩
          · have q := L_Mo_readsLine_71 (d := d) h rfl
            exact ⟨zR_go 2 q.1 (fun n => (if_pos g5).trans rfl), q.2⟩
          · have q := L_Mo_readsLine_71 (d := d) h rfl
            exact ⟨zR_go 3 q.1 (fun n => (if_neg g5).trans rfl), q.2⟩
        · have q := L_Mo_readsLine_71 (d := d) h rfl
          exact ⟨zR_go 3 q.1 (fun n => (if_neg g4).trans rfl), q.2⟩
      · have q := L_Mo_readsLine_71 (d := d) h rfl
        exact ⟨zR_go 3 q.1 (fun n => (if_neg g3).trans rfl), q.2⟩
    · have q := L_Mo_readsLine_71 (d := d) h rfl
      exact ⟨zR_go 3 q.1 (fun n => (if_neg g2).trans rfl), q.2⟩
  · have q := L_Mo_readsLine_71 (d := d) h rfl
    exact ⟨zR_go 3 q.1 (fun n => (if_neg g1).trans rfl), q.2⟩
set_option maxRecDepth 20000 in
theorem L_Mo_laysLines_14 {N d sl : Nat} {sx : Nat → Int} : ∀ {n : Nat} {a0 : Nat} {x1 : Int} {x2 : Int} {x3 : Int} {M : ZM} {M' : ZM}, Mo_laysLines_14 N n a0 x1 x2 x3 M = some M' → mK M = zK0 sl sx → zLV (d + 0) tb_X13_laysLines 14 [some (vR 11 (some a0)), some (vI x1), some (vI x2), some (vI x3)] [] M M' (zK0 sl sx) := by
  intro n
  induction n with
  | zero => intros; rename_i h _; cases h
  | succ n ih =>
    intro a0 x1 x2 x3 M M' h hK
    obtain ⟨I0, L0, ⟨ra0, rb0, rc0, rd0⟩, K0, c0⟩ := M
    obtain rfl : K0 = zK0 sl sx := hK
    rcases zit h with ⟨g1, h⟩ | ⟨g1, h⟩
    · obtain ⟨g2, h⟩ := zIx h
      obtain ⟨g3, h⟩ := zIx h
      replace h := zWx h
      obtain ⟨g4, h⟩ := zIx h
      obtain ⟨g5, h⟩ := zIx h
      replace h := zWx h
      obtain ⟨g6, h⟩ := zIx h
      obtain ⟨g7, h⟩ := zIx h
      replace h := zWx h
      replace h := zWx h
      have q := ih h rfl
      exact ⟨zR_go 53 q.1 (fun n => (if_pos g1).trans ((if_pos g2).trans ((if_pos g3).trans ((if_pos g4).trans ((if_pos g5).trans ((if_pos g6).trans ((if_pos g7).trans rfl))))))), q.2⟩
    · obtain rfl := zrV h
      exact ⟨zR_ret 4 ((if_neg g1).trans rfl), rfl⟩
set_option maxRecDepth 20000 in
theorem L_Mo_laysLines {N d sl : Nat} {sx : Nat → Int} {a0 : Nat} {x1 : Int} {x2 : Int} {M : ZM} {M' : ZM} (h : Mo_laysLines N a0 x1 x2 M = some M') (hK : mK M = zK0 sl sx) : zLV (d + 0) tb_X13_laysLines 0 [some (vR 11 (some a0)), some (vI x1), some (vI x2), none] [] M M' (zK0 sl sx) := by
  obtain ⟨I0, L0, ⟨ra0, rb0, rc0, rd0⟩, K0, c0⟩ := M
  obtain rfl : K0 = zK0 sl sx := hK
  obtain ⟨g1, h⟩ := zIx h
  obtain ⟨g2, h⟩ := zIx h
  replace h := zWx h
  have q := L_Mo_laysLines_14 (d := d) h rfl
  exact ⟨zR_go 10 q.1 (fun n => (if_pos g1).trans ((if_pos g2).trans rfl)), q.2⟩
