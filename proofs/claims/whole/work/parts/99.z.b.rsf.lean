section ZRSF
def Rsi_41 (N : Nat) : Nat → Int → Int → Int → Int → Int → Int → ZM → Option (Int × ZM)
  | 0, _, _, _, _, _, _, _ => none
  | n + 1, x1, x2, x3, x4, x5, x6, M => if x6 < 4 then zW (z_shr x6 1) fun x101 => zW (z_and x6 1) fun x102 => zB (Wp_keeps N x101 x102 x1 x2 x3 M) fun v103 M103 => if v103 = 0 then zW (z32 (x6 + 1)) fun x104 => Rsi_41 N n x1 x2 x3 x4 x5 x104 M103 else zB (Wp_keeps N x102 x101 x1 x2 x3 M103) fun v105 M105 => if v105 = 0 then zW (z32 (x6 + 1)) fun x106 => Rsi_41 N n x1 x2 x3 x4 x5 x106 M105 else if x5 = x4 then some (x6, M105) else zW (z32 (x5 + 1)) fun x107 => zW (z32 (x6 + 1)) fun x108 => Rsi_41 N n x1 x2 x3 x4 x107 x108 M105 else if x4 = (-1) then some (x5, M) else none
def Rsi (N : Nat) (x1 : Int) (x2 : Int) (x3 : Int) (x4 : Int) (M : ZM) : Option (Int × ZM) :=
  zB (Wp_isDigit N x1 M) fun v101 M101 => if v101 = 0 then none else zB (Wp_isDigit N x2 M101) fun v102 M102 => if v102 = 0 then none else zB (Wp_isDigit N x3 M102) fun v103 M103 => if v103 = 0 then none else if x4 < (-1) then none else Rsi_41 N N x1 x2 x3 x4 0 0 M103
def Rsv_41 (N : Nat) : Nat → Int → Int → Int → Int → Int → Int → ZM → Option ZM
  | 0, _, _, _, _, _, _, _ => none
  | n + 1, x1, x2, x3, x4, x5, x6, M => if x6 < 4 then zW (z_shr x6 1) fun x101 => zW (z_and x6 1) fun x102 => zB (Wp_keeps N x101 x102 x1 x2 x3 M) fun v103 M103 => if v103 = 0 then zW (z32 (x6 + 1)) fun x104 => Rsv_41 N n x1 x2 x3 x4 x5 x104 M103 else zB (Wp_keeps N x102 x101 x1 x2 x3 M103) fun v105 M105 => if v105 = 0 then zW (z32 (x6 + 1)) fun x106 => Rsv_41 N n x1 x2 x3 x4 x5 x106 M105 else if x5 = x4 then none else zW (z32 (x5 + 1)) fun x107 => zW (z32 (x6 + 1)) fun x108 => Rsv_41 N n x1 x2 x3 x4 x107 x108 M105 else if x4 = (-1) then none else some M
def Rsv (N : Nat) (x1 : Int) (x2 : Int) (x3 : Int) (x4 : Int) (M : ZM) : Option ZM :=
  zB (Wp_isDigit N x1 M) fun v101 M101 => if v101 = 0 then some M101 else zB (Wp_isDigit N x2 M101) fun v102 M102 => if v102 = 0 then some M102 else zB (Wp_isDigit N x3 M102) fun v103 M103 => if v103 = 0 then some M103 else if x4 < (-1) then some M103 else Rsv_41 N N x1 x2 x3 x4 0 0 M103
set_option maxRecDepth 20000 in
theorem LK_Wp_isDigit {N d : Nat} {KK : ZK} {x0 : Int} {M : ZM} {x : Int} {M' : ZM} (h : Wp_isDigit N x0 M = some (x, M')) (hK : mK M = KK) : zLI (d + 0) tb_X12_isDigit 0 [some (vI x0)] [] M x M' (KK) := by
  obtain ⟨I0, L0, ⟨ra0, rb0, rc0, rd0⟩, K0, c0⟩ := M
  obtain rfl : KK = K0 := (hK).symm
  rcases zit h with ⟨g1, h⟩ | ⟨g1, h⟩
  · obtain ⟨rfl, rfl⟩ := zrI h
    exact ⟨zR_ret 4 ((if_pos g1).trans rfl), rfl⟩
  · rcases zit h with ⟨g2, h⟩ | ⟨g2, h⟩
    · obtain ⟨rfl, rfl⟩ := zrI h
      exact ⟨zR_ret 7 ((if_neg g1).trans ((if_pos g2).trans rfl)), rfl⟩
    · obtain ⟨rfl, rfl⟩ := zrI h
      exact ⟨zR_ret 8 ((if_neg g1).trans ((if_neg g2).trans rfl)), rfl⟩
set_option maxRecDepth 20000 in
theorem LK_Wp_gain {N d : Nat} {KK : ZK} {x0 : Int} {x1 : Int} {x2 : Int} {x3 : Int} {x4 : Int} {M : ZM} {x : Int} {M' : ZM} (h : Wp_gain N x0 x1 x2 x3 x4 M = some (x, M')) (hK : mK M = KK) : zLI (d + 0) tb_X12_gain 0 [some (vI x0), some (vI x1), some (vI x2), some (vI x3), some (vI x4)] [] M x M' (KK) := by
  obtain ⟨I0, L0, ⟨ra0, rb0, rc0, rd0⟩, K0, c0⟩ := M
  obtain rfl : KK = K0 := (hK).symm
  rcases zit h with ⟨g1, h⟩ | ⟨g1, h⟩
  · rcases zit h with ⟨g2, h⟩ | ⟨g2, h⟩
    · obtain ⟨rfl, rfl⟩ := zrI h
      exact ⟨zR_ret 10 ((if_pos g1).trans ((if_pos g2).trans rfl)), rfl⟩
    · obtain ⟨rfl, rfl⟩ := zrI h
      exact ⟨zR_ret 8 ((if_pos g1).trans ((if_neg g2).trans rfl)), rfl⟩
  · rcases zit h with ⟨g3, h⟩ | ⟨g3, h⟩
    · obtain ⟨rfl, rfl⟩ := zrI h
      exact ⟨zR_ret 9 ((if_neg g1).trans ((if_pos g3).trans rfl)), rfl⟩
    · obtain ⟨rfl, rfl⟩ := zrI h
      exact ⟨zR_ret 8 ((if_neg g1).trans ((if_neg g3).trans rfl)), rfl⟩
set_option maxRecDepth 20000 in
theorem LK_Wp_keeps {N d : Nat} {KK : ZK} {x0 : Int} {x1 : Int} {x2 : Int} {x3 : Int} {x4 : Int} {M : ZM} {x : Int} {M' : ZM} (h : Wp_keeps N x0 x1 x2 x3 x4 M = some (x, M')) (hK : mK M = KK) : zLI (d + 1) tb_X12_keeps 0 [some (vI x0), some (vI x1), some (vI x2), some (vI x3), some (vI x4)] [] M x M' (KK) := by
  obtain ⟨I0, L0, ⟨ra0, rb0, rc0, rd0⟩, K0, c0⟩ := M
  obtain rfl : KK = K0 := (hK).symm
  obtain ⟨v101, M101, f101, h⟩ := zBx h
  have q101 := LK_Wp_gain (d := d) f101 rfl
  obtain ⟨I101, L101, ⟨ra101, rb101, rc101, rd101⟩, K101, c101⟩ := M101
  obtain rfl : KK = K101 := (q101.2).symm
  suffices w101 : zLI (d + 1) tb_X12_keeps 9 [some (vI x0), some (vI x1), some (vI x2), some (vI x3), some (vI x4)] [vI v101] (I101, L101, (ra101, rb101, rc101, rd101), KK, c101) x M' (KK) from ⟨zR_call (rest := []) 6 q101.1 (fun n => rfl) w101.1, w101.2⟩
  obtain ⟨v102, M102, f102, h⟩ := zBx h
  have q102 := LK_Wp_gain (d := d) f102 rfl
  obtain ⟨I102, L102, ⟨ra102, rb102, rc102, rd102⟩, K102, c102⟩ := M102
  obtain rfl : KK = K102 := (q102.2).symm
  suffices w102 : zLI (d + 1) tb_X12_keeps 20 [some (vI x0), some (vI x1), some (vI x2), some (vI x3), some (vI x4)] [vI v102, vI v101] (I102, L102, (ra102, rb102, rc102, rd102), KK, c102) x M' (KK) from ⟨zR_call (rest := [vI v101]) 8 q102.1 (fun n => rfl) w102.1, w102.2⟩
  rcases zit h with ⟨g1, h⟩ | ⟨g1, h⟩
  · obtain ⟨rfl, rfl⟩ := zrI h
    exact ⟨zR_ret 3 ((if_pos g1).trans rfl), rfl⟩
  · obtain ⟨rfl, rfl⟩ := zrI h
    exact ⟨zR_ret 4 ((if_neg g1).trans rfl), rfl⟩
set_option maxRecDepth 20000 in
theorem LK_Rsi_41 {N d : Nat} {KK : ZK} : ∀ {n : Nat} {x1 : Int} {x2 : Int} {x3 : Int} {x4 : Int} {x5 : Int} {x6 : Int} {M : ZM} {x : Int} {M' : ZM}, Rsi_41 N n x1 x2 x3 x4 x5 x6 M = some (x, M') → mK M = KK → zLI (d + 2) tb_rs 41 [none, some (vI x1), some (vI x2), some (vI x3), some (vI x4), some (vI x5), some (vI x6), none, none] [] M x M' (KK) := by
  intro n
  induction n with
  | zero => intros; rename_i h _; cases h
  | succ n ih =>
    intro x1 x2 x3 x4 x5 x6 M x M' h hK
    obtain ⟨I0, L0, ⟨ra0, rb0, rc0, rd0⟩, K0, c0⟩ := M
    obtain rfl : KK = K0 := (hK).symm
    rcases zit h with ⟨g1, h⟩ | ⟨g1, h⟩
    · replace h := zWx h
      replace h := zWx h
      obtain ⟨v103, M103, f103, h⟩ := zBx h
      have q103 := LK_Wp_keeps (d := d) f103 rfl
      obtain ⟨I103, L103, ⟨ra103, rb103, rc103, rd103⟩, K103, c103⟩ := M103
      obtain rfl : KK = K103 := (q103.2).symm
      suffices w103 : zLI (d + 2) tb_rs 69 [none, some (vI x1), some (vI x2), some (vI x3), some (vI x4), some (vI x5), some (vI x6), some (vI (z_shr x6 1)), some (vI (z_and x6 1))] [vI v103] (I103, L103, (ra103, rb103, rc103, rd103), KK, c103) x M' (KK) from ⟨zR_call (rest := []) 17 q103.1 (fun n => (if_pos g1).trans rfl) w103.1, w103.2⟩
      rcases zit h with ⟨g2, h⟩ | ⟨g2, h⟩
      · replace h := zWx h
        have q := ih h rfl
        exact ⟨zR_go 3 (zR_up (ls' := [none, some (vI x1), some (vI x2), some (vI x3), some (vI x4), some (vI x5), some (vI (z32 (x6 + 1))), some (vI (z_shr x6 1)), some (vI (z_and x6 1))]) q.1 ⟨.inr rfl, .inr rfl, .inr rfl, .inr rfl, .inr rfl, .inr rfl, .inr rfl, .inl rfl, .inl rfl, trivial⟩) (fun n => (if_pos g2).trans rfl), q.2⟩
      · obtain ⟨v105, M105, f105, h⟩ := zBx h
        have q105 := LK_Wp_keeps (d := d) f105 rfl
        obtain ⟨I105, L105, ⟨ra105, rb105, rc105, rd105⟩, K105, c105⟩ := M105
        obtain rfl : KK = K105 := (q105.2).symm
        suffices w105 : zLI (d + 2) tb_rs 82 [none, some (vI x1), some (vI x2), some (vI x3), some (vI x4), some (vI x5), some (vI x6), some (vI (z_shr x6 1)), some (vI (z_and x6 1))] [vI v105] (I105, L105, (ra105, rb105, rc105, rd105), KK, c105) x M' (KK) from ⟨zR_call (rest := []) 7 q105.1 (fun n => (if_neg g2).trans rfl) w105.1, w105.2⟩
        rcases zit h with ⟨g3, h⟩ | ⟨g3, h⟩
        · replace h := zWx h
          have q := ih h rfl
          exact ⟨zR_go 3 (zR_up (ls' := [none, some (vI x1), some (vI x2), some (vI x3), some (vI x4), some (vI x5), some (vI (z32 (x6 + 1))), some (vI (z_shr x6 1)), some (vI (z_and x6 1))]) q.1 ⟨.inr rfl, .inr rfl, .inr rfl, .inr rfl, .inr rfl, .inr rfl, .inr rfl, .inl rfl, .inl rfl, trivial⟩) (fun n => (if_pos g3).trans rfl), q.2⟩
        · rcases zit h with ⟨g4, h⟩ | ⟨g4, h⟩
          · obtain ⟨rfl, rfl⟩ := zrI h
            exact ⟨zR_ret 6 ((if_neg g3).trans ((if_pos g4).trans rfl)), rfl⟩
          · replace h := zWx h
            replace h := zWx h
            have q := ih h rfl
            exact ⟨zR_go 7 (zR_up (ls' := [none, some (vI x1), some (vI x2), some (vI x3), some (vI x4), some (vI (z32 (x5 + 1))), some (vI (z32 (x6 + 1))), some (vI (z_shr x6 1)), some (vI (z_and x6 1))]) q.1 ⟨.inr rfl, .inr rfl, .inr rfl, .inr rfl, .inr rfl, .inr rfl, .inr rfl, .inl rfl, .inl rfl, trivial⟩) (fun n => (if_neg g3).trans ((if_neg g4).trans rfl)), q.2⟩
    · rcases zit h with ⟨g5, h⟩ | ⟨g5, h⟩
      · obtain ⟨rfl, rfl⟩ := zrI h
        exact ⟨zR_ret 8 ((if_neg g1).trans ((if_pos g5).trans rfl)), rfl⟩
      · cases h
set_option maxRecDepth 20000 in
theorem LK_Rsi {N d : Nat} {KK : ZK} {x1 : Int} {x2 : Int} {x3 : Int} {x4 : Int} {M : ZM} {x : Int} {M' : ZM} (h : Rsi N x1 x2 x3 x4 M = some (x, M')) (hK : mK M = KK) : zLI (d + 2) tb_rs 0 [none, some (vI x1), some (vI x2), some (vI x3), some (vI x4), none, none, none, none] [] M x M' (KK) := by
  obtain ⟨I0, L0, ⟨ra0, rb0, rc0, rd0⟩, K0, c0⟩ := M
  obtain rfl : KK = K0 := (hK).symm
  obtain ⟨v101, M101, f101, h⟩ := zBx h
  have q101 := LK_Wp_isDigit (d := (d + 1)) f101 rfl
  obtain ⟨I101, L101, ⟨ra101, rb101, rc101, rd101⟩, K101, c101⟩ := M101
  obtain rfl : KK = K101 := (q101.2).symm
  suffices w101 : zLI (d + 2) tb_rs 4 [none, some (vI x1), some (vI x2), some (vI x3), some (vI x4), none, none, none, none] [vI v101] (I101, L101, (ra101, rb101, rc101, rd101), KK, c101) x M' (KK) from ⟨zR_call (rest := []) 2 q101.1 (fun n => rfl) w101.1, w101.2⟩
  rcases zit h with ⟨g1, h⟩ | ⟨g1, h⟩
  · cases h
  · obtain ⟨v102, M102, f102, h⟩ := zBx h
    have q102 := LK_Wp_isDigit (d := (d + 1)) f102 rfl
    obtain ⟨I102, L102, ⟨ra102, rb102, rc102, rd102⟩, K102, c102⟩ := M102
    obtain rfl : KK = K102 := (q102.2).symm
    suffices w102 : zLI (d + 2) tb_rs 11 [none, some (vI x1), some (vI x2), some (vI x3), some (vI x4), none, none, none, none] [vI v102] (I102, L102, (ra102, rb102, rc102, rd102), KK, c102) x M' (KK) from ⟨zR_call (rest := []) 3 q102.1 (fun n => (if_neg g1).trans rfl) w102.1, w102.2⟩
    rcases zit h with ⟨g2, h⟩ | ⟨g2, h⟩
    · cases h
    · obtain ⟨v103, M103, f103, h⟩ := zBx h
      have q103 := LK_Wp_isDigit (d := (d + 1)) f103 rfl
      obtain ⟨I103, L103, ⟨ra103, rb103, rc103, rd103⟩, K103, c103⟩ := M103
      obtain rfl : KK = K103 := (q103.2).symm
      suffices w103 : zLI (d + 2) tb_rs 18 [none, some (vI x1), some (vI x2), some (vI x3), some (vI x4), none, none, none, none] [vI v103] (I103, L103, (ra103, rb103, rc103, rd103), KK, c103) x M' (KK) from ⟨zR_call (rest := []) 3 q103.1 (fun n => (if_neg g2).trans rfl) w103.1, w103.2⟩
      rcases zit h with ⟨g3, h⟩ | ⟨g3, h⟩
      · cases h
      · rcases zit h with ⟨g4, h⟩ | ⟨g4, h⟩
        · cases h
        · have q := LK_Rsi_41 (d := d) h rfl
          exact ⟨zR_go 8 q.1 (fun n => (if_neg g3).trans ((if_neg g4).trans rfl)), q.2⟩
set_option maxRecDepth 20000 in
theorem LK_Rsv_41 {N d : Nat} {KK : ZK} : ∀ {n : Nat} {x1 : Int} {x2 : Int} {x3 : Int} {x4 : Int} {x5 : Int} {x6 : Int} {M : ZM} {M' : ZM}, Rsv_41 N n x1 x2 x3 x4 x5 x6 M = some M' → mK M = KK → zLV (d + 2) tb_rs 41 [none, some (vI x1), some (vI x2), some (vI x3), some (vI x4), some (vI x5), some (vI x6), none, none] [] M M' (KK) := by
  intro n
  induction n with
  | zero => intros; rename_i h _; cases h
  | succ n ih =>
    intro x1 x2 x3 x4 x5 x6 M M' h hK
    obtain ⟨I0, L0, ⟨ra0, rb0, rc0, rd0⟩, K0, c0⟩ := M
    obtain rfl : KK = K0 := (hK).symm
    rcases zit h with ⟨g1, h⟩ | ⟨g1, h⟩
    · replace h := zWx h
      replace h := zWx h
      obtain ⟨v103, M103, f103, h⟩ := zBx h
      have q103 := LK_Wp_keeps (d := d) f103 rfl
      obtain ⟨I103, L103, ⟨ra103, rb103, rc103, rd103⟩, K103, c103⟩ := M103
      obtain rfl : KK = K103 := (q103.2).symm
      suffices w103 : zLV (d + 2) tb_rs 69 [none, some (vI x1), some (vI x2), some (vI x3), some (vI x4), some (vI x5), some (vI x6), some (vI (z_shr x6 1)), some (vI (z_and x6 1))] [vI v103] (I103, L103, (ra103, rb103, rc103, rd103), KK, c103) M' (KK) from ⟨zR_call (rest := []) 17 q103.1 (fun n => (if_pos g1).trans rfl) w103.1, w103.2⟩
      rcases zit h with ⟨g2, h⟩ | ⟨g2, h⟩
      · replace h := zWx h
        have q := ih h rfl
        exact ⟨zR_go 3 (zR_up (ls' := [none, some (vI x1), some (vI x2), some (vI x3), some (vI x4), some (vI x5), some (vI (z32 (x6 + 1))), some (vI (z_shr x6 1)), some (vI (z_and x6 1))]) q.1 ⟨.inr rfl, .inr rfl, .inr rfl, .inr rfl, .inr rfl, .inr rfl, .inr rfl, .inl rfl, .inl rfl, trivial⟩) (fun n => (if_pos g2).trans rfl), q.2⟩
      · obtain ⟨v105, M105, f105, h⟩ := zBx h
        have q105 := LK_Wp_keeps (d := d) f105 rfl
        obtain ⟨I105, L105, ⟨ra105, rb105, rc105, rd105⟩, K105, c105⟩ := M105
        obtain rfl : KK = K105 := (q105.2).symm
        suffices w105 : zLV (d + 2) tb_rs 82 [none, some (vI x1), some (vI x2), some (vI x3), some (vI x4), some (vI x5), some (vI x6), some (vI (z_shr x6 1)), some (vI (z_and x6 1))] [vI v105] (I105, L105, (ra105, rb105, rc105, rd105), KK, c105) M' (KK) from ⟨zR_call (rest := []) 7 q105.1 (fun n => (if_neg g2).trans rfl) w105.1, w105.2⟩
        rcases zit h with ⟨g3, h⟩ | ⟨g3, h⟩
        · replace h := zWx h
          have q := ih h rfl
          exact ⟨zR_go 3 (zR_up (ls' := [none, some (vI x1), some (vI x2), some (vI x3), some (vI x4), some (vI x5), some (vI (z32 (x6 + 1))), some (vI (z_shr x6 1)), some (vI (z_and x6 1))]) q.1 ⟨.inr rfl, .inr rfl, .inr rfl, .inr rfl, .inr rfl, .inr rfl, .inr rfl, .inl rfl, .inl rfl, trivial⟩) (fun n => (if_pos g3).trans rfl), q.2⟩
        · rcases zit h with ⟨g4, h⟩ | ⟨g4, h⟩
          · cases h
          · replace h := zWx h
            replace h := zWx h
            have q := ih h rfl
            exact ⟨zR_go 7 (zR_up (ls' := [none, some (vI x1), some (vI x2), some (vI x3), some (vI x4), some (vI (z32 (x5 + 1))), some (vI (z32 (x6 + 1))), some (vI (z_shr x6 1)), some (vI (z_and x6 1))]) q.1 ⟨.inr rfl, .inr rfl, .inr rfl, .inr rfl, .inr rfl, .inr rfl, .inr rfl, .inl rfl, .inl rfl, trivial⟩) (fun n => (if_neg g3).trans ((if_neg g4).trans rfl)), q.2⟩
    · rcases zit h with ⟨g5, h⟩ | ⟨g5, h⟩
      · cases h
      · obtain rfl := zrV h
        exact ⟨zR_ret 7 ((if_neg g1).trans ((if_neg g5).trans rfl)), rfl⟩
set_option maxRecDepth 20000 in
theorem LK_Rsv {N d : Nat} {KK : ZK} {x1 : Int} {x2 : Int} {x3 : Int} {x4 : Int} {M : ZM} {M' : ZM} (h : Rsv N x1 x2 x3 x4 M = some M') (hK : mK M = KK) : zLV (d + 2) tb_rs 0 [none, some (vI x1), some (vI x2), some (vI x3), some (vI x4), none, none, none, none] [] M M' (KK) := by
  obtain ⟨I0, L0, ⟨ra0, rb0, rc0, rd0⟩, K0, c0⟩ := M
  obtain rfl : KK = K0 := (hK).symm
  obtain ⟨v101, M101, f101, h⟩ := zBx h
  have q101 := LK_Wp_isDigit (d := (d + 1)) f101 rfl
  obtain ⟨I101, L101, ⟨ra101, rb101, rc101, rd101⟩, K101, c101⟩ := M101
  obtain rfl : KK = K101 := (q101.2).symm
  suffices w101 : zLV (d + 2) tb_rs 4 [none, some (vI x1), some (vI x2), some (vI x3), some (vI x4), none, none, none, none] [vI v101] (I101, L101, (ra101, rb101, rc101, rd101), KK, c101) M' (KK) from ⟨zR_call (rest := []) 2 q101.1 (fun n => rfl) w101.1, w101.2⟩
  rcases zit h with ⟨g1, h⟩ | ⟨g1, h⟩
  · obtain rfl := zrV h
    exact ⟨zR_ret 2 ((if_pos g1).trans rfl), rfl⟩
  · obtain ⟨v102, M102, f102, h⟩ := zBx h
    have q102 := LK_Wp_isDigit (d := (d + 1)) f102 rfl
    obtain ⟨I102, L102, ⟨ra102, rb102, rc102, rd102⟩, K102, c102⟩ := M102
    obtain rfl : KK = K102 := (q102.2).symm
    suffices w102 : zLV (d + 2) tb_rs 11 [none, some (vI x1), some (vI x2), some (vI x3), some (vI x4), none, none, none, none] [vI v102] (I102, L102, (ra102, rb102, rc102, rd102), KK, c102) M' (KK) from ⟨zR_call (rest := []) 3 q102.1 (fun n => (if_neg g1).trans rfl) w102.1, w102.2⟩
    rcases zit h with ⟨g2, h⟩ | ⟨g2, h⟩
    · obtain rfl := zrV h
      exact ⟨zR_ret 2 ((if_pos g2).trans rfl), rfl⟩
    · obtain ⟨v103, M103, f103, h⟩ := zBx h
      have q103 := LK_Wp_isDigit (d := (d + 1)) f103 rfl
      obtain ⟨I103, L103, ⟨ra103, rb103, rc103, rd103⟩, K103, c103⟩ := M103
      obtain rfl : KK = K103 := (q103.2).symm
      suffices w103 : zLV (d + 2) tb_rs 18 [none, some (vI x1), some (vI x2), some (vI x3), some (vI x4), none, none, none, none] [vI v103] (I103, L103, (ra103, rb103, rc103, rd103), KK, c103) M' (KK) from ⟨zR_call (rest := []) 3 q103.1 (fun n => (if_neg g2).trans rfl) w103.1, w103.2⟩
      rcases zit h with ⟨g3, h⟩ | ⟨g3, h⟩
      · obtain rfl := zrV h
        exact ⟨zR_ret 2 ((if_pos g3).trans rfl), rfl⟩
      · rcases zit h with ⟨g4, h⟩ | ⟨g4, h⟩
        · obtain rfl := zrV h
          exact ⟨zR_ret 5 ((if_neg g3).trans ((if_pos g4).trans rfl)), rfl⟩
        · have q := LK_Rsv_41 (d := d) h rfl
          exact ⟨zR_go 8 q.1 (fun n => (if_neg g3).trans ((if_neg g4).trans rfl)), q.2⟩
end ZRSF
