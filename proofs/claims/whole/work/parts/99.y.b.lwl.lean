set_option maxRecDepth 20000 in
theorem L_Lw_law_1335 {N d sl : Nat} {sx : Nat → Int} {rec23 : Nat → Nat → Nat → Nat → Int → ZM → Option (Int × ZM)} (hrec23 : ∀ {a0 : Nat} {a1 : Nat} {a2 : Nat} {a3 : Nat} {x4 : Int} {M : ZM} {x : Int} {M' : ZM}, rec23 a0 a1 a2 a3 x4 M = some (x, M') → mK M = zK0 sl sx → zLI (d + 46) tb_L_law 23 [some (vR 102 (some a0)), some (vR 10 (some a1)), some (vR 11 (some a2)), some (vR 103 (some a3)), some (vI x4), none, none] [] M x M' (zK0 sl sx)) {a0 : Nat} {a1 : Nat} {a2 : Nat} {a3 : Nat} {x4 : Int} {y0 : Int} {b1 : Nat} {y2 : Int} {y3 : Int} {M : ZM} {x : Int} {M' : ZM} (h : Lw_law_1335 N rec23 a0 a1 a2 a3 x4 y0 b1 y2 y3 M = some (x, M')) (hK : mK M = zK0 sl sx) : zLI (d + 46) tb_L_law 1335 [some (vR 102 (some a0)), some (vR 10 (some a1)), some (vR 11 (some a2)), some (vR 103 (some a3)), some (vI x4), none, none] [vI y3, vI y2, vR 11 (some b1), vI y0] M x M' (zK0 sl sx) := by
  obtain ⟨I0, L0, ⟨ra0, rb0, rc0, rd0⟩, K0, c0⟩ := M
  obtain rfl : K0 = zK0 sl sx := hK
  obtain ⟨v101, M101, f101, h⟩ := zBx h
  have q101 := L_Mo_mark (d := (d + 44)) f101 rfl
  obtain ⟨I101, L101, ⟨ra101, rb101, rc101, rd101⟩, K101, c101⟩ := M101
  obtain rfl : K101 = zK0 sl sx := q101.2
  suffices w101 : zLI (d + 46) tb_L_law 1338 [some (vR 102 (some a0)), some (vR 10 (some a1)), some (vR 11 (some a2)), some (vR 103 (some a3)), some (vI x4), none, none] [vI v101, vI y0] (I101, L101, (ra101, rb101, rc101, rd101), zK0 sl sx, c101) x M' (zK0 sl sx) from ⟨zR_call (rest := [vI y0]) 1 q101.1 (fun n => rfl) w101.1, w101.2⟩
  rcases zit h with ⟨g1, h⟩ | ⟨g1, h⟩
  · replace h := zWx h
    have q := hrec23 h rfl
    exact ⟨zR_go 3 q.1 (fun n => (if_pos g1).trans rfl), q.2⟩
  · obtain ⟨rfl, rfl⟩ := zrI h
    exact ⟨zR_ret 3 ((if_neg g1).trans rfl), rfl⟩
set_option maxRecDepth 20000 in
theorem L_Lw_law_1311 {N d sl : Nat} {sx : Nat → Int} {rec23 : Nat → Nat → Nat → Nat → Int → ZM → Option (Int × ZM)} (hrec23 : ∀ {a0 : Nat} {a1 : Nat} {a2 : Nat} {a3 : Nat} {x4 : Int} {M : ZM} {x : Int} {M' : ZM}, rec23 a0 a1 a2 a3 x4 M = some (x, M') → mK M = zK0 sl sx → zLI (d + 46) tb_L_law 23 [some (vR 102 (some a0)), some (vR 10 (some a1)), some (vR 11 (some a2)), some (vR 103 (some a3)), some (vI x4), none, none] [] M x M' (zK0 sl sx)) {a0 : Nat} {a1 : Nat} {a2 : Nat} {a3 : Nat} {x4 : Int} {b0 : Nat} {y1 : Int} {y2 : Int} {M : ZM} {x : Int} {M' : ZM} (h : Lw_law_1311 N rec23 a0 a1 a2 a3 x4 b0 y1 y2 M = some (x, M')) (hK : mK M = zK0 sl sx) : zLI (d + 46) tb_L_law 1311 [some (vR 102 (some a0)), some (vR 10 (some a1)), some (vR 11 (some a2)), some (vR 103 (some a3)), some (vI x4), none, none] [vI y2, vI y1, vR 10 (some b0)] M x M' (zK0 sl sx) := by
  obtain ⟨I0, L0, ⟨ra0, rb0, rc0, rd0⟩, K0, c0⟩ := M
  obtain rfl : K0 = zK0 sl sx := hK
  obtain ⟨v101, M101, f101, h⟩ := zBx h
  have q101 := L_Wp_mark (d := (d + 43)) f101 rfl
  obtain ⟨I101, L101, ⟨ra101, rb101, rc101, rd101⟩, K101, c101⟩ := M101
  obtain rfl : K101 = zK0 sl sx := q101.2
  suffices w101 : zLI (d + 46) tb_L_law 1314 [some (vR 102 (some a0)), some (vR 10 (some a1)), some (vR 11 (some a2)), some (vR 103 (some a3)), some (vI x4), none, none] [vI v101] (I101, L101, (ra101, rb101, rc101, rd101), zK0 sl sx, c101) x M' (zK0 sl sx) from ⟨zR_call (rest := []) 1 q101.1 (fun n => rfl) w101.1, w101.2⟩
  obtain ⟨g1, h⟩ := zIx h
  obtain ⟨g2, h⟩ := zIx h
  rcases zit h with ⟨g3, h⟩ | ⟨g3, h⟩
  · have q := L_Lw_law_1335 (d := d) hrec23 h rfl
    exact ⟨zR_go 13 q.1 (fun n => (if_pos g1).trans ((if_pos g2).trans ((if_pos g3).trans rfl))), q.2⟩
  · have q := L_Lw_law_1335 (d := d) hrec23 h rfl
    exact ⟨zR_go 14 q.1 (fun n => (if_pos g1).trans ((if_pos g2).trans ((if_neg g3).trans rfl))), q.2⟩
set_option maxRecDepth 20000 in
theorem L_Lw_law_23 {N d sl : Nat} {sx : Nat → Int} : ∀ {n : Nat} {a0 : Nat} {a1 : Nat} {a2 : Nat} {a3 : Nat} {x4 : Int} {M : ZM} {x : Int} {M' : ZM}, Lw_law_23 N n a0 a1 a2 a3 x4 M = some (x, M') → mK M = zK0 sl sx → zLI (d + 46) tb_L_law 23 [some (vR 102 (some a0)), some (vR 10 (some a1)), some (vR 11 (some a2)), some (vR 103 (some a3)), some (vI x4), none, none] [] M x M' (zK0 sl sx) := by
  intro n
  induction n with
  | zero => intros; rename_i h _; cases h
  | succ n ih =>
    intro a0 a1 a2 a3 x4 M x M' h hK
    obtain ⟨I0, L0, ⟨ra0, rb0, rc0, rd0⟩, K0, c0⟩ := M
    obtain rfl : K0 = zK0 sl sx := hK
    rcases zit h with ⟨g1, h⟩ | ⟨g1, h⟩
    · obtain ⟨rfl, rfl⟩ := zrI h
      exact ⟨zR_ret 8 ((if_pos g1).trans rfl), rfl⟩
    · obtain ⟨g2, h⟩ := zIx h
      rcases zit h with ⟨g3, h⟩ | ⟨g3, h⟩
      · obtain ⟨g4, h⟩ := zIx h
        obtain ⟨g5, h⟩ := zIx h
        obtain ⟨g6, h⟩ := zIx h
        obtain ⟨g7, h⟩ := zIx h
        obtain ⟨g8, h⟩ := zIx h
        obtain ⟨g9, h⟩ := zIx h
        obtain ⟨v101, M101, f101, h⟩ := zBx h
        have q101 := L_Wp_feed (d := (d + 44)) f101 rfl
        obtain ⟨I101, L101, ⟨ra101, rb101, rc101, rd101⟩, K101, c101⟩ := M101
        obtain rfl : K101 = zK0 sl sx := q101.2
        suffices w101 : zLI (d + 46) tb_L_law 283 [some (vR 102 (some a0)), some (vR 10 (some a1)), some (vR 11 (some a2)), some (vR 103 (some a3)), some (vI x4), none, none] [vI v101] (I101, L101, (ra101, rb101, rc101, rd101), zK0 sl sx, c101) x M' (zK0 sl sx) from ⟨zR_call (rest := []) 65 q101.1 (fun n => (if_neg g1).trans ((if_pos g2).trans ((if_pos g3).trans ((if_pos g4).trans ((if_pos g5).trans ((if_pos g6).trans ((if_pos g7).trans ((if_pos g8).trans ((if_pos g9).trans rfl))))))))) w101.1, w101.2⟩
        obtain ⟨g10, h⟩ := zIx h
        obtain ⟨g11, h⟩ := zIx h
        obtain ⟨g12, h⟩ := zIx h
        obtain ⟨g13, h⟩ := zIx h
        obtain ⟨g14, h⟩ := zIx h
        obtain ⟨g15, h⟩ := zIx h
        obtain ⟨v102, M102, f102, h⟩ := zBx h
        have q102 := L_Mo_feed (d := (d + 45)) f102 rfl
        obtain ⟨I102, L102, ⟨ra102, rb102, rc102, rd102⟩, K102, c102⟩ := M102
        obtain rfl : K102 = zK0 sl sx := q102.2
        suffices w102 : zLI (d + 46) tb_L_law 354 [some (vR 102 (some a0)), some (vR 10 (some a1)), some (vR 11 (some a2)), some (vR 103 (some a3)), some (vI x4), none, none] [vI v102, vI v101] (I102, L102, (ra102, rb102, rc102, rd102), zK0 sl sx, c102) x M' (zK0 sl sx) from ⟨zR_call (rest := [vI v101]) 53 q102.1 (fun n => (if_pos g10).trans ((if_pos g11).trans ((if_pos g12).trans ((if_pos g13).trans ((if_pos g14).trans ((if_pos g15).trans rfl)))))) w102.1, w102.2⟩
        rcases zit h with ⟨g16, h⟩ | ⟨g16, h⟩
        · replace h := zWx h
          have q := ih h rfl
          exact ⟨zR_go 3 q.1 (fun n => (if_pos g16).trans rfl), q.2⟩
        · obtain ⟨rfl, rfl⟩ := zrI h
          exact ⟨zR_ret 3 ((if_neg g16).trans rfl), rfl⟩
      · rcases zit h with ⟨g17, h⟩ | ⟨g17, h⟩
        · obtain ⟨v104, M104, f104, h⟩ := zBx h
          have q104 := L_Wp_park (d := d) f104 rfl
          obtain ⟨I104, L104, ⟨ra104, rb104, rc104, rd104⟩, K104, c104⟩ := M104
          obtain rfl : K104 = zK0 sl sx := q104.2
          suffices w104 : zLI (d + 46) tb_L_law 363 [some (vR 102 (some a0)), some (vR 10 (some a1)), some (vR 11 (some a2)), some (vR 103 (some a3)), some (vI x4), none, none] [vI v104] (I104, L104, (ra104, rb104, rc104, rd104), zK0 sl sx, c104) x M' (zK0 sl sx) from ⟨zR_call (rest := []) 14 q104.1 (fun n => (if_neg g1).trans ((if_pos g2).trans ((if_neg g3).trans ((if_pos g17).trans rfl)))) w104.1, w104.2⟩
          obtain ⟨v105, M105, f105, h⟩ := zBx h
          have q105 := L_Mo_park (d := (d + 38)) f105 rfl
          obtain ⟨I105, L105, ⟨ra105, rb105, rc105, rd105⟩, K105, c105⟩ := M105
          obtain rfl : K105 = zK0 sl sx := q105.2
          suffices w105 : zLI (d + 46) tb_L_law 367 [some (vR 102 (some a0)), some (vR 10 (some a1)), some (vR 11 (some a2)), some (vR 103 (some a3)), some (vI x4), none, none] [vI v105, vI v104] (I105, L105, (ra105, rb105, rc105, rd105), zK0 sl sx, c105) x M' (zK0 sl sx) from ⟨zR_call (rest := [vI v104]) 2 q105.1 (fun n => rfl) w105.1, w105.2⟩
          rcases zit h with ⟨g18, h⟩ | ⟨g18, h⟩
          · replace h := zWx h
            have q := ih h rfl
            exact ⟨zR_go 3 q.1 (fun n => (if_pos g18).trans rfl), q.2⟩
          · obtain ⟨rfl, rfl⟩ := zrI h
            exact ⟨zR_ret 3 ((if_neg g18).trans rfl), rfl⟩
        · rcases zit h with ⟨g19, h⟩ | ⟨g19, h⟩
          · obtain ⟨v107, M107, f107, h⟩ := zBx h
            have q107 := L_Wp_day (d := (d + 40)) f107 rfl
            obtain ⟨I107, L107, ⟨ra107, rb107, rc107, rd107⟩, K107, c107⟩ := M107
            obtain rfl : K107 = zK0 sl sx := q107.2
            suffices w107 : zLI (d + 46) tb_L_law 376 [some (vR 102 (some a0)), some (vR 10 (some a1)), some (vR 11 (some a2)), some (vR 103 (some a3)), some (vI x4), none, none] [vI v107] (I107, L107, (ra107, rb107, rc107, rd107), zK0 sl sx, c107) x M' (zK0 sl sx) from ⟨zR_call (rest := []) 14 q107.1 (fun n => (if_neg g1).trans ((if_pos g2).trans ((if_neg g3).trans ((if_neg g17).trans ((if_pos g19).trans rfl))))) w107.1, w107.2⟩
            obtain ⟨v108, M108, f108, h⟩ := zBx h
            have q108 := L_Mo_day (d := (d + 41)) f108 rfl
            obtain ⟨I108, L108, ⟨ra108, rb108, rc108, rd108⟩, K108, c108⟩ := M108
            obtain rfl : K108 = zK0 sl sx := q108.2
            suffices w108 : zLI (d + 46) tb_L_law 380 [some (vR 102 (some a0)), some (vR 10 (some a1)), some (vR 11 (some a2)), some (vR 103 (some a3)), some (vI x4), none, none] [vI v108, vI v107] (I108, L108, (ra108, rb108, rc108, rd108), zK0 sl sx, c108) x M' (zK0 sl sx) from ⟨zR_call (rest := [vI v107]) 2 q108.1 (fun n => rfl) w108.1, w108.2⟩
            rcases zit h with ⟨g20, h⟩ | ⟨g20, h⟩
            · replace h := zWx h
              have q := ih h rfl
              exact ⟨zR_go 3 q.1 (fun n => (if_pos g20).trans rfl), q.2⟩
            · obtain ⟨rfl, rfl⟩ := zrI h
              exact ⟨zR_ret 3 ((if_neg g20).trans rfl), rfl⟩
          · rcases zit h with ⟨g21, h⟩ | ⟨g21, h⟩
            · obtain ⟨g22, h⟩ := zIx h
              obtain ⟨g23, h⟩ := zIx h
              obtain ⟨v110, M110, f110, h⟩ := zBx h
              have q110 := L_Wp_turbine (d := (d + 44)) f110 rfl
              obtain ⟨I110, L110, ⟨ra110, rb110, rc110, rd110⟩, K110, c110⟩ := M110
              obtain rfl : K110 = zK0 sl sx := q110.2
              suffices w110 : zLI (d + 46) tb_L_law 401 [some (vR 102 (some a0)), some (vR 10 (some a1)), some (vR 11 (some a2)), some (vR 103 (some a3)), some (vI x4), none, none] [vI v110] (I110, L110, (ra110, rb110, rc110, rd110), zK0 sl sx, c110) x M' (zK0 sl sx) from ⟨zR_call (rest := []) 24 q110.1 (fun n => (if_neg g1).trans ((if_pos g2).trans ((if_neg g3).trans ((if_neg g17).trans ((if_neg g19).trans ((if_pos g21).trans ((if_pos g22).trans ((if_pos g23).trans rfl)))))))) w110.1, w110.2⟩
              obtain ⟨g24, h⟩ := zIx h
              obtain ⟨g25, h⟩ := zIx h
              obtain ⟨v111, M111, f111, h⟩ := zBx h
              have q111 := L_Mo_turbine (d := (d + 44)) f111 rfl
              obtain ⟨I111, L111, ⟨ra111, rb111, rc111, rd111⟩, K111, c111⟩ := M111
              obtain rfl : K111 = zK0 sl sx := q111.2
              suffices w111 : zLI (d + 46) tb_L_law 417 [some (vR 102 (some a0)), some (vR 10 (some a1)), some (vR 11 (some a2)), some (vR 103 (some a3)), some (vI x4), none, none] [vI v111, vI v110] (I111, L111, (ra111, rb111, rc111, rd111), zK0 sl sx, c111) x M' (zK0 sl sx) from ⟨zR_call (rest := [vI v110]) 12 q111.1 (fun n => (if_pos g24).trans ((if_pos g25).trans rfl)) w111.1, w111.2⟩
              rcases zit h with ⟨g26, h⟩ | ⟨g26, h⟩
              · replace h := zWx h
                have q := ih h rfl
                exact ⟨zR_go 3 q.1 (fun n => (if_pos g26).trans rfl), q.2⟩
              · obtain ⟨rfl, rfl⟩ := zrI h
                exact ⟨zR_ret 3 ((if_neg g26).trans rfl), rfl⟩
            · rcases zit h with ⟨g27, h⟩ | ⟨g27, h⟩
              · obtain ⟨g28, h⟩ := zIx h
                obtain ⟨v113, M113, f113, h⟩ := zBx h
                have q113 := L_Wp_wind (d := (d + 40)) f113 rfl
                obtain ⟨I113, L113, ⟨ra113, rb113, rc113, rd113⟩, K113, c113⟩ := M113
                obtain rfl : K113 = zK0 sl sx := q113.2
                suffices w113 : zLI (d + 46) tb_L_law 432 [some (vR 102 (some a0)), some (vR 10 (some a1)), some (vR 11 (some a2)), some (vR 103 (some a3)), some (vI x4), none, none] [vI v113] (I113, L113, (ra113, rb113, rc113, rd113), zK0 sl sx, c113) x M' (zK0 sl sx) from ⟨zR_call (rest := []) 19 q113.1 (fun n => (if_neg g1).trans ((if_pos g2).trans ((if_neg g3).trans ((if_neg g17).trans ((if_neg g19).trans ((if_neg g21).trans ((if_pos g27).trans ((if_pos g28).trans rfl)))))))) w113.1, w113.2⟩
                obtain ⟨g29, h⟩ := zIx h
                obtain ⟨v114, M114, f114, h⟩ := zBx h
                have q114 := L_Mo_wind (d := (d + 40)) f114 rfl
                obtain ⟨I114, L114, ⟨ra114, rb114, rc114, rd114⟩, K114, c114⟩ := M114
                obtain rfl : K114 = zK0 sl sx := q114.2
                suffices w114 : zLI (d + 46) tb_L_law 442 [some (vR 102 (some a0)), some (vR 10 (some a1)), some (vR 11 (some a2)), some (vR 103 (some a3)), some (vI x4), none, none] [vI v114, vI v113] (I114, L114, (ra114, rb114, rc114, rd114), zK0 sl sx, c114) x M' (zK0 sl sx) from ⟨zR_call (rest := [vI v113]) 7 q114.1 (fun n => (if_pos g29).trans rfl) w114.1, w114.2⟩
                rcases zit h with ⟨g30, h⟩ | ⟨g30, h⟩
                · replace h := zWx h
                  have q := ih h rfl
                  exact ⟨zR_go 3 q.1 (fun n => (if_pos g30).trans rfl), q.2⟩
                · obtain ⟨rfl, rfl⟩ := zrI h
                  exact ⟨zR_ret 3 ((if_neg g30).trans rfl), rfl⟩
              · rcases zit h with ⟨g31, h⟩ | ⟨g31, h⟩
                · obtain ⟨g32, h⟩ := zIx h
                  obtain ⟨v116, M116, f116, h⟩ := zBx h
                  have q116 := L_Wp_power (d := (d + 40)) f116 rfl
                  obtain ⟨I116, L116, ⟨ra116, rb116, rc116, rd116⟩, K116, c116⟩ := M116
                  obtain rfl : K116 = zK0 sl sx := q116.2
                  suffices w116 : zLI (d + 46) tb_L_law 457 [some (vR 102 (some a0)), some (vR 10 (some a1)), some (vR 11 (some a2)), some (vR 103 (some a3)), some (vI x4), none, none] [vI v116] (I116, L116, (ra116, rb116, rc116, rd116), zK0 sl sx, c116) x M' (zK0 sl sx) from ⟨zR_call (rest := []) 19 q116.1 (fun n => (if_neg g1).trans ((if_pos g2).trans ((if_neg g3).trans ((if_neg g17).trans ((if_neg g19).trans ((if_neg g21).trans ((if_neg g27).trans ((if_pos g31).trans ((if_pos g32).trans rfl))))))))) w116.1, w116.2⟩
                  obtain ⟨g33, h⟩ := zIx h
                  obtain ⟨v117, M117, f117, h⟩ := zBx h
                  have q117 := L_Mo_power (d := (d + 39)) f117 rfl
                  obtain ⟨I117, L117, ⟨ra117, rb117, rc117, rd117⟩, K117, c117⟩ := M117
                  obtain rfl : K117 = zK0 sl sx := q117.2
                  suffices w117 : zLI (d + 46) tb_L_law 467 [some (vR 102 (some a0)), some (vR 10 (some a1)), some (vR 11 (some a2)), some (vR 103 (some a3)), some (vI x4), none, none] [vI v117, vI v116] (I117, L117, (ra117, rb117, rc117, rd117), zK0 sl sx, c117) x M' (zK0 sl sx) from ⟨zR_call (rest := [vI v116]) 7 q117.1 (fun n => (if_pos g33).trans rfl) w117.1, w117.2⟩
                  rcases zit h with ⟨g34, h⟩ | ⟨g34, h⟩
                  · replace h := zWx h
                    have q := ih h rfl
                    exact ⟨zR_go 3 q.1 (fun n => (if_pos g34).trans rfl), q.2⟩
                  · obtain ⟨rfl, rfl⟩ := zrI h
                    exact ⟨zR_ret 3 ((if_neg g34).trans rfl), rfl⟩
                · rcases zit h with ⟨g35, h⟩ | ⟨g35, h⟩
                  · obtain ⟨g36, h⟩ := zIx h
                    obtain ⟨v119, M119, f119, h⟩ := zBx h
                    have q119 := L_Wp_carried (d := (d + 40)) f119 rfl
                    obtain ⟨I119, L119, ⟨ra119, rb119, rc119, rd119⟩, K119, c119⟩ := M119
                    obtain rfl : K119 = zK0 sl sx := q119.2
                    suffices w119 : zLI (d + 46) tb_L_law 482 [some (vR 102 (some a0)), some (vR 10 (some a1)), some (vR 11 (some a2)), some (vR 103 (some a3)), some (vI x4), none, none] [vI v119] (I119, L119, (ra119, rb119, rc119, rd119), zK0 sl sx, c119) x M' (zK0 sl sx) from ⟨zR_call (rest := []) 19 q119.1 (fun n => (if_neg g1).trans ((if_pos g2).trans ((if_neg g3).trans ((if_neg g17).trans ((if_neg g19).trans ((if_neg g21).trans ((if_neg g27).trans ((if_neg g31).trans ((if_pos g35).trans ((if_pos g36).trans rfl)))))))))) w119.1, w119.2⟩
                    obtain ⟨g37, h⟩ := zIx h
                    obtain ⟨v120, M120, f120, h⟩ := zBx h
                    have q120 := L_Mo_carried (d := (d + 37)) f120 rfl
                    obtain ⟨I120, L120, ⟨ra120, rb120, rc120, rd120⟩, K120, c120⟩ := M120
                    obtain rfl : K120 = zK0 sl sx := q120.2
                    suffices w120 : zLI (d + 46) tb_L_law 492 [some (vR 102 (some a0)), some (vR 10 (some a1)), some (vR 11 (some a2)), some (vR 103 (some a3)), some (vI x4), none, none] [vI v120, vI v119] (I120, L120, (ra120, rb120, rc120, rd120), zK0 sl sx, c120) x M' (zK0 sl sx) from ⟨zR_call (rest := [vI v119]) 7 q120.1 (fun n => (if_pos g37).trans rfl) w120.1, w120.2⟩
                    rcases zit h with ⟨g38, h⟩ | ⟨g38, h⟩
                    · replace h := zWx h
                      have q := ih h rfl
                      exact ⟨zR_go 3 q.1 (fun n => (if_pos g38).trans rfl), q.2⟩
                    · obtain ⟨rfl, rfl⟩ := zrI h
                      exact ⟨zR_ret 3 ((if_neg g38).trans rfl), rfl⟩
                  · rcases zit h with ⟨g39, h⟩ | ⟨g39, h⟩
                    · obtain ⟨v122, M122, f122, h⟩ := zBx h
                      have q122 := L_Wp_home (d := (d + 40)) f122 rfl
                      obtain ⟨I122, L122, ⟨ra122, rb122, rc122, rd122⟩, K122, c122⟩ := M122
                      obtain rfl : K122 = zK0 sl sx := q122.2
                      suffices w122 : zLI (d + 46) tb_L_law 501 [some (vR 102 (some a0)), some (vR 10 (some a1)), some (vR 11 (some a2)), some (vR 103 (some a3)), some (vI x4), none, none] [vI v122] (I122, L122, (ra122, rb122, rc122, rd122), zK0 sl sx, c122) x M' (zK0 sl sx) from ⟨zR_call (rest := []) 14 q122.1 (fun n => (if_neg g1).trans ((if_pos g2).trans ((if_neg g3).trans ((if_neg g17).trans ((if_neg g19).trans ((if_neg g21).trans ((if_neg g27).trans ((if_neg g31).trans ((if_neg g35).trans ((if_pos g39).trans rfl)))))))))) w122.1, w122.2⟩
                      obtain ⟨v123, M123, f123, h⟩ := zBx h
                      have q123 := L_Mo_home (d := (d + 37)) f123 rfl
                      obtain ⟨I123, L123, ⟨ra123, rb123, rc123, rd123⟩, K123, c123⟩ := M123
                      obtain rfl : K123 = zK0 sl sx := q123.2
                      suffices w123 : zLI (d + 46) tb_L_law 505 [some (vR 102 (some a0)), some (vR 10 (some a1)), some (vR 11 (some a2)), some (vR 103 (some a3)), some (vI x4), none, none] [vI v123, vI v122] (I123, L123, (ra123, rb123, rc123, rd123), zK0 sl sx, c123) x M' (zK0 sl sx) from ⟨zR_call (rest := [vI v122]) 2 q123.1 (fun n => rfl) w123.1, w123.2⟩
                      rcases zit h with ⟨g40, h⟩ | ⟨g40, h⟩
                      · replace h := zWx h
                        have q := ih h rfl
                        exact ⟨zR_go 3 q.1 (fun n => (if_pos g40).trans rfl), q.2⟩
                      · obtain ⟨rfl, rfl⟩ := zrI h
                        exact ⟨zR_ret 3 ((if_neg g40).trans rfl), rfl⟩
                    · rcases zit h with ⟨g41, h⟩ | ⟨g41, h⟩
                      · obtain ⟨g42, h⟩ := zIx h
                        obtain ⟨g43, h⟩ := zIx h
                        obtain ⟨v125, M125, f125, h⟩ := zBx h
                        have q125 := L_Wp_turn (d := (d + 41)) f125 rfl
                        obtain ⟨I125, L125, ⟨ra125, rb125, rc125, rd125⟩, K125, c125⟩ := M125
                        obtain rfl : K125 = zK0 sl sx := q125.2
                        suffices w125 : zLI (d + 46) tb_L_law 526 [some (vR 102 (some a0)), some (vR 10 (some a1)), some (vR 11 (some a2)), some (vR 103 (some a3)), some (vI x4), none, none] [vI v125] (I125, L125, (ra125, rb125, rc125, rd125), zK0 sl sx, c125) x M' (zK0 sl sx) from ⟨zR_call (rest := []) 24 q125.1 (fun n => (if_neg g1).trans ((if_pos g2).trans ((if_neg g3).trans ((if_neg g17).trans ((if_neg g19).trans ((if_neg g21).trans ((if_neg g27).trans ((if_neg g31).trans ((if_neg g35).trans ((if_neg g39).trans ((if_pos g41).trans ((if_pos g42).trans ((if_pos g43).trans rfl))))))))))))) w125.1, w125.2⟩
                        obtain ⟨g44, h⟩ := zIx h
                        obtain ⟨g45, h⟩ := zIx h
                        obtain ⟨v126, M126, f126, h⟩ := zBx h
                        have q126 := L_Mo_turn (d := (d + 43)) f126 rfl
                        obtain ⟨I126, L126, ⟨ra126, rb126, rc126, rd126⟩, K126, c126⟩ := M126
                        obtain rfl : K126 = zK0 sl sx := q126.2
                        suffices w126 : zLI (d + 46) tb_L_law 542 [some (vR 102 (some a0)), some (vR 10 (some a1)), some (vR 11 (some a2)), some (vR 103 (some a3)), some (vI x4), none, none] [vI v126, vI v125] (I126, L126, (ra126, rb126, rc126, rd126), zK0 sl sx, c126) x M' (zK0 sl sx) from ⟨zR_call (rest := [vI v125]) 12 q126.1 (fun n => (if_pos g44).trans ((if_pos g45).trans rfl)) w126.1, w126.2⟩
                        rcases zit h with ⟨g46, h⟩ | ⟨g46, h⟩
                        · replace h := zWx h
                          have q := ih h rfl
                          exact ⟨zR_go 3 q.1 (fun n => (if_pos g46).trans rfl), q.2⟩
                        · obtain ⟨rfl, rfl⟩ := zrI h
                          exact ⟨zR_ret 3 ((if_neg g46).trans rfl), rfl⟩
                      · rcases zit h with ⟨g47, h⟩ | ⟨g47, h⟩
                        · obtain ⟨g48, h⟩ := zIx h
                          obtain ⟨v128, M128, f128, h⟩ := zBx h
                          have q128 := L_Wp_shut (d := (d + 41)) f128 rfl
                          obtain ⟨I128, L128, ⟨ra128, rb128, rc128, rd128⟩, K128, c128⟩ := M128
                          obtain rfl : K128 = zK0 sl sx := q128.2
                          suffices w128 : zLI (d + 46) tb_L_law 557 [some (vR 102 (some a0)), some (vR 10 (some a1)), some (vR 11 (some a2)), some (vR 103 (some a3)), some (vI x4), none, none] [vI v128] (I128, L128, (ra128, rb128, rc128, rd128), zK0 sl sx, c128) x M' (zK0 sl sx) from ⟨zR_call (rest := []) 19 q128.1 (fun n => (if_neg g1).trans ((if_pos g2).trans ((if_neg g3).trans ((if_neg g17).trans ((if_neg g19).trans ((if_neg g21).trans ((if_neg g27).trans ((if_neg g31).trans ((if_neg g35).trans ((if_neg g39).trans ((if_neg g41).trans ((if_pos g47).trans ((if_pos g48).trans rfl))))))))))))) w128.1, w128.2⟩
                          obtain ⟨g49, h⟩ := zIx h
                          obtain ⟨v129, M129, f129, h⟩ := zBx h
                          have q129 := L_Mo_shut (d := (d + 43)) f129 rfl
                          obtain ⟨I129, L129, ⟨ra129, rb129, rc129, rd129⟩, K129, c129⟩ := M129
                          obtain rfl : K129 = zK0 sl sx := q129.2
                          suffices w129 : zLI (d + 46) tb_L_law 567 [some (vR 102 (some a0)), some (vR 10 (some a1)), some (vR 11 (some a2)), some (vR 103 (some a3)), some (vI x4), none, none] [vI v129, vI v128] (I129, L129, (ra129, rb129, rc129, rd129), zK0 sl sx, c129) x M' (zK0 sl sx) from ⟨zR_call (rest := [vI v128]) 7 q129.1 (fun n => (if_pos g49).trans rfl) w129.1, w129.2⟩
                          rcases zit h with ⟨g50, h⟩ | ⟨g50, h⟩
                          · replace h := zWx h
                            have q := ih h rfl
                            exact ⟨zR_go 3 q.1 (fun n => (if_pos g50).trans rfl), q.2⟩
                          · obtain ⟨rfl, rfl⟩ := zrI h
                            exact ⟨zR_ret 3 ((if_neg g50).trans rfl), rfl⟩
                        · rcases zit h with ⟨g51, h⟩ | ⟨g51, h⟩
                          · obtain ⟨g52, h⟩ := zIx h
                            obtain ⟨v131, M131, f131, h⟩ := zBx h
                            have q131 := L_Wp_open (d := (d + 41)) f131 rfl
                            obtain ⟨I131, L131, ⟨ra131, rb131, rc131, rd131⟩, K131, c131⟩ := M131
                            obtain rfl : K131 = zK0 sl sx := q131.2
                            suffices w131 : zLI (d + 46) tb_L_law 582 [some (vR 102 (some a0)), some (vR 10 (some a1)), some (vR 11 (some a2)), some (vR 103 (some a3)), some (vI x4), none, none] [vI v131] (I131, L131, (ra131, rb131, rc131, rd131), zK0 sl sx, c131) x M' (zK0 sl sx) from ⟨zR_call (rest := []) 19 q131.1 (fun n => (if_neg g1).trans ((if_pos g2).trans ((if_neg g3).trans ((if_neg g17).trans ((if_neg g19).trans ((if_neg g21).trans ((if_neg g27).trans ((if_neg g31).trans ((if_neg g35).trans ((if_neg g39).trans ((if_neg g41).trans ((if_neg g47).trans ((if_pos g51).trans ((if_pos g52).trans rfl)))))))))))))) w131.1, w131.2⟩
                            obtain ⟨g53, h⟩ := zIx h
                            obtain ⟨v132, M132, f132, h⟩ := zBx h
                            have q132 := L_Mo_open (d := (d + 43)) f132 rfl
                            obtain ⟨I132, L132, ⟨ra132, rb132, rc132, rd132⟩, K132, c132⟩ := M132
                            obtain rfl : K132 = zK0 sl sx := q132.2
                            suffices w132 : zLI (d + 46) tb_L_law 592 [some (vR 102 (some a0)), some (vR 10 (some a1)), some (vR 11 (some a2)), some (vR 103 (some a3)), some (vI x4), none, none] [vI v132, vI v131] (I132, L132, (ra132, rb132, rc132, rd132), zK0 sl sx, c132) x M' (zK0 sl sx) from ⟨zR_call (rest := [vI v131]) 7 q132.1 (fun n => (if_pos g53).trans rfl) w132.1, w132.2⟩
                            rcases zit h with ⟨g54, h⟩ | ⟨g54, h⟩
                            · replace h := zWx h
                              have q := ih h rfl
                              exact ⟨zR_go 3 q.1 (fun n => (if_pos g54).trans rfl), q.2⟩
                            · obtain ⟨rfl, rfl⟩ := zrI h
                              exact ⟨zR_ret 3 ((if_neg g54).trans rfl), rfl⟩
                          · rcases zit h with ⟨g55, h⟩ | ⟨g55, h⟩
                            · obtain ⟨g56, h⟩ := zIx h
                              obtain ⟨v134, M134, f134, h⟩ := zBx h
                              have q134 := L_Wp_mend (d := (d + 41)) f134 rfl
                              obtain ⟨I134, L134, ⟨ra134, rb134, rc134, rd134⟩, K134, c134⟩ := M134
                              obtain rfl : K134 = zK0 sl sx := q134.2
                              suffices w134 : zLI (d + 46) tb_L_law 607 [some (vR 102 (some a0)), some (vR 10 (some a1)), some (vR 11 (some a2)), some (vR 103 (some a3)), some (vI x4), none, none] [vI v134] (I134, L134, (ra134, rb134, rc134, rd134), zK0 sl sx, c134) x M' (zK0 sl sx) from ⟨zR_call (rest := []) 19 q134.1 (fun n => (if_neg g1).trans ((if_pos g2).trans ((if_neg g3).trans ((if_neg g17).trans ((if_neg g19).trans ((if_neg g21).trans ((if_neg g27).trans ((if_neg g31).trans ((if_neg g35).trans ((if_neg g39).trans ((if_neg g41).trans ((if_neg g47).trans ((if_neg g51).trans ((if_pos g55).trans ((if_pos g56).trans rfl))))))))))))))) w134.1, w134.2⟩
                              obtain ⟨g57, h⟩ := zIx h
                              obtain ⟨v135, M135, f135, h⟩ := zBx h
                              have q135 := L_Mo_mend (d := (d + 43)) f135 rfl
                              obtain ⟨I135, L135, ⟨ra135, rb135, rc135, rd135⟩, K135, c135⟩ := M135
                              obtain rfl : K135 = zK0 sl sx := q135.2
                              suffices w135 : zLI (d + 46) tb_L_law 617 [some (vR 102 (some a0)), some (vR 10 (some a1)), some (vR 11 (some a2)), some (vR 103 (some a3)), some (vI x4), none, none] [vI v135, vI v134] (I135, L135, (ra135, rb135, rc135, rd135), zK0 sl sx, c135) x M' (zK0 sl sx) from ⟨zR_call (rest := [vI v134]) 7 q135.1 (fun n => (if_pos g57).trans rfl) w135.1, w135.2⟩
                              rcases zit h with ⟨g58, h⟩ | ⟨g58, h⟩
                              · replace h := zWx h
                                have q := ih h rfl
                                exact ⟨zR_go 3 q.1 (fun n => (if_pos g58).trans rfl), q.2⟩
                              · obtain ⟨rfl, rfl⟩ := zrI h
                                exact ⟨zR_ret 3 ((if_neg g58).trans rfl), rfl⟩
                            · rcases zit h with ⟨g59, h⟩ | ⟨g59, h⟩
                              · obtain ⟨v137, M137, f137, h⟩ := zBx h
                                have q137 := L_Wp_step (d := (d + 39)) f137 rfl
                                obtain ⟨I137, L137, ⟨ra137, rb137, rc137, rd137⟩, K137, c137⟩ := M137
                                obtain rfl : K137 = zK0 sl sx := q137.2
                                suffices w137 : zLI (d + 46) tb_L_law 626 [some (vR 102 (some a0)), some (vR 10 (some a1)), some (vR 11 (some a2)), some (vR 103 (some a3)), some (vI x4), none, none] [vI v137] (I137, L137, (ra137, rb137, rc137, rd137), zK0 sl sx, c137) x M' (zK0 sl sx) from ⟨zR_call (rest := []) 14 q137.1 (fun n => (if_neg g1).trans ((if_pos g2).trans ((if_neg g3).trans ((if_neg g17).trans ((if_neg g19).trans ((if_neg g21).trans ((if_neg g27).trans ((if_neg g31).trans ((if_neg g35).trans ((if_neg g39).trans ((if_neg g41).trans ((if_neg g47).trans ((if_neg g51).trans ((if_neg g55).trans ((if_pos g59).trans rfl))))))))))))))) w137.1, w137.2⟩
                                obtain ⟨v138, M138, f138, h⟩ := zBx h
                                have q138 := L_Mo_step (d := (d + 35)) f138 rfl
                                obtain ⟨I138, L138, ⟨ra138, rb138, rc138, rd138⟩, K138, c138⟩ := M138
                                obtain rfl : K138 = zK0 sl sx := q138.2
                                suffices w138 : zLI (d + 46) tb_L_law 630 [some (vR 102 (some a0)), some (vR 10 (some a1)), some (vR 11 (some a2)), some (vR 103 (some a3)), some (vI x4), none, none] [vI v138, vI v137] (I138, L138, (ra138, rb138, rc138, rd138), zK0 sl sx, c138) x M' (zK0 sl sx) from ⟨zR_call (rest := [vI v137]) 2 q138.1 (fun n => rfl) w138.1, w138.2⟩
                                rcases zit h with ⟨g60, h⟩ | ⟨g60, h⟩
                                · replace h := zWx h
                                  have q := ih h rfl
                                  exact ⟨zR_go 3 q.1 (fun n => (if_pos g60).trans rfl), q.2⟩
                                · obtain ⟨rfl, rfl⟩ := zrI h
                                  exact ⟨zR_ret 3 ((if_neg g60).trans rfl), rfl⟩
                              · rcases zit h with ⟨g61, h⟩ | ⟨g61, h⟩
                                · obtain ⟨v140, M140, f140, h⟩ := zBx h
                                  have q140 := L_Wp_undo (d := (d + 44)) f140 rfl
                                  obtain ⟨I140, L140, ⟨ra140, rb140, rc140, rd140⟩, K140, c140⟩ := M140
                                  obtain rfl : K140 = zK0 sl sx := q140.2
                                  suffices w140 : zLI (d + 46) tb_L_law 639 [some (vR 102 (some a0)), some (vR 10 (some a1)), some (vR 11 (some a2)), some (vR 103 (some a3)), some (vI x4), none, none] [vI v140] (I140, L140, (ra140, rb140, rc140, rd140), zK0 sl sx, c140) x M' (zK0 sl sx) from ⟨zR_call (rest := []) 14 q140.1 (fun n => (if_neg g1).trans ((if_pos g2).trans ((if_neg g3).trans ((if_neg g17).trans ((if_neg g19).trans ((if_neg g21).trans ((if_neg g27).trans ((if_neg g31).trans ((if_neg g35).trans ((if_neg g39).trans ((if_neg g41).trans ((if_neg g47).trans ((if_neg g51).trans ((if_neg g55).trans ((if_neg g59).trans ((if_pos g61).trans rfl)))))))))))))))) w140.1, w140.2⟩
                                  obtain ⟨v141, M141, f141, h⟩ := zBx h
                                  have q141 := L_Mo_undo (d := (d + 44)) f141 rfl
                                  obtain ⟨I141, L141, ⟨ra141, rb141, rc141, rd141⟩, K141, c141⟩ := M141
                                  obtain rfl : K141 = zK0 sl sx := q141.2
                                  suffices w141 : zLI (d + 46) tb_L_law 643 [some (vR 102 (some a0)), some (vR 10 (some a1)), some (vR 11 (some a2)), some (vR 103 (some a3)), some (vI x4), none, none] [vI v141, vI v140] (I141, L141, (ra141, rb141, rc141, rd141), zK0 sl sx, c141) x M' (zK0 sl sx) from ⟨zR_call (rest := [vI v140]) 2 q141.1 (fun n => rfl) w141.1, w141.2⟩
                                  rcases zit h with ⟨g62, h⟩ | ⟨g62, h⟩
                                  · replace h := zWx h
                                    have q := ih h rfl
                                    exact ⟨zR_go 3 q.1 (fun n => (if_pos g62).trans rfl), q.2⟩
                                  · obtain ⟨rfl, rfl⟩ := zrI h
                                    exact ⟨zR_ret 3 ((if_neg g62).trans rfl), rfl⟩
                                · rcases zit h with ⟨g63, h⟩ | ⟨g63, h⟩
                                  · obtain ⟨g64, h⟩ := zIx h
                                    obtain ⟨v143, M143, f143, h⟩ := zBx h
                                    have q143 := L_Wp_judged (d := (d + 39)) f143 rfl
                                    obtain ⟨I143, L143, ⟨ra143, rb143, rc143, rd143⟩, K143, c143⟩ := M143
                                    obtain rfl : K143 = zK0 sl sx := q143.2
                                    suffices w143 : zLI (d + 46) tb_L_law 658 [some (vR 102 (some a0)), some (vR 10 (some a1)), some (vR 11 (some a2)), some (vR 103 (some a3)), some (vI x4), none, none] [vI v143] (I143, L143, (ra143, rb143, rc143, rd143), zK0 sl sx, c143) x M' (zK0 sl sx) from ⟨zR_call (rest := []) 19 q143.1 (fun n => (if_neg g1).trans ((if_pos g2).trans ((if_neg g3).trans ((if_neg g17).trans ((if_neg g19).trans ((if_neg g21).trans ((if_neg g27).trans ((if_neg g31).trans ((if_neg g35).trans ((if_neg g39).trans ((if_neg g41).trans ((if_neg g47).trans ((if_neg g51).trans ((if_neg g55).trans ((if_neg g59).trans ((if_neg g61).trans ((if_pos g63).trans ((if_pos g64).trans rfl)))))))))))))))))) w143.1, w143.2⟩
                                    obtain ⟨g65, h⟩ := zIx h
                                    obtain ⟨v144, M144, f144, h⟩ := zBx h
                                    have q144 := L_Mo_judged (d := (d + 34)) f144 rfl
                                    obtain ⟨I144, L144, ⟨ra144, rb144, rc144, rd144⟩, K144, c144⟩ := M144
                                    obtain rfl : K144 = zK0 sl sx := q144.2
                                    suffices w144 : zLI (d + 46) tb_L_law 668 [some (vR 102 (some a0)), some (vR 10 (some a1)), some (vR 11 (some a2)), some (vR 103 (some a3)), some (vI x4), none, none] [vI v144, vI v143] (I144, L144, (ra144, rb144, rc144, rd144), zK0 sl sx, c144) x M' (zK0 sl sx) from ⟨zR_call (rest := [vI v143]) 7 q144.1 (fun n => (if_pos g65).trans rfl) w144.1, w144.2⟩
                                    rcases zit h with ⟨g66, h⟩ | ⟨g66, h⟩
                                    · replace h := zWx h
                                      have q := ih h rfl
                                      exact ⟨zR_go 3 q.1 (fun n => (if_pos g66).trans rfl), q.2⟩
                                    · obtain ⟨rfl, rfl⟩ := zrI h
                                      exact ⟨zR_ret 3 ((if_neg g66).trans rfl), rfl⟩
                                  · rcases zit h with ⟨g67, h⟩ | ⟨g67, h⟩
                                    · obtain ⟨g68, h⟩ := zIx h
                                      obtain ⟨g69, h⟩ := zIx h
                                      obtain ⟨v146, M146, f146, h⟩ := zBx h
                                      have q146 := L_Wp_takes (d := (d + 41)) f146 rfl
                                      obtain ⟨I146, L146, ⟨ra146, rb146, rc146, rd146⟩, K146, c146⟩ := M146
                                      obtain rfl : K146 = zK0 sl sx := q146.2
                                      suffices w146 : zLI (d + 46) tb_L_law 689 [some (vR 102 (some a0)), some (vR 10 (some a1)), some (vR 11 (some a2)), some (vR 103 (some a3)), some (vI x4), none, none] [vI v146] (I146, L146, (ra146, rb146, rc146, rd146), zK0 sl sx, c146) x M' (zK0 sl sx) from ⟨zR_call (rest := []) 24 q146.1 (fun n => (if_neg g1).trans ((if_pos g2).trans ((if_neg g3).trans ((if_neg g17).trans ((if_neg g19).trans ((if_neg g21).trans ((if_neg g27).trans ((if_neg g31).trans ((if_neg g35).trans ((if_neg g39).trans ((if_neg g41).trans ((if_neg g47).trans ((if_neg g51).trans ((if_neg g55).trans ((if_neg g59).trans ((if_neg g61).trans ((if_neg g63).trans ((if_pos g67).trans ((if_pos g68).trans ((if_pos g69).trans rfl)))))))))))))))))))) w146.1, w146.2⟩
                                      obtain ⟨g70, h⟩ := zIx h
                                      obtain ⟨g71, h⟩ := zIx h
                                      obtain ⟨v147, M147, f147, h⟩ := zBx h
                                      have q147 := L_Mo_takes (d := (d + 42)) f147 rfl
                                      obtain ⟨I147, L147, ⟨ra147, rb147, rc147, rd147⟩, K147, c147⟩ := M147
                                      obtain rfl : K147 = zK0 sl sx := q147.2
                                      suffices w147 : zLI (d + 46) tb_L_law 705 [some (vR 102 (some a0)), some (vR 10 (some a1)), some (vR 11 (some a2)), some (vR 103 (some a3)), some (vI x4), none, none] [vI v147, vI v146] (I147, L147, (ra147, rb147, rc147, rd147), zK0 sl sx, c147) x M' (zK0 sl sx) from ⟨zR_call (rest := [vI v146]) 12 q147.1 (fun n => (if_pos g70).trans ((if_pos g71).trans rfl)) w147.1, w147.2⟩
                                      rcases zit h with ⟨g72, h⟩ | ⟨g72, h⟩
                                      · replace h := zWx h
                                        have q := ih h rfl
                                        exact ⟨zR_go 3 q.1 (fun n => (if_pos g72).trans rfl), q.2⟩
                                      · obtain ⟨rfl, rfl⟩ := zrI h
                                        exact ⟨zR_ret 3 ((if_neg g72).trans rfl), rfl⟩
                                    · rcases zit h with ⟨g73, h⟩ | ⟨g73, h⟩
                                      · obtain ⟨g74, h⟩ := zIx h
                                        obtain ⟨v149, M149, f149, h⟩ := zBx h
                                        have q149 := L_Wp_later (d := (d + 39)) f149 rfl
                                        obtain ⟨I149, L149, ⟨ra149, rb149, rc149, rd149⟩, K149, c149⟩ := M149
                                        obtain rfl : K149 = zK0 sl sx := q149.2
                                        suffices w149 : zLI (d + 46) tb_L_law 720 [some (vR 102 (some a0)), some (vR 10 (some a1)), some (vR 11 (some a2)), some (vR 103 (some a3)), some (vI x4), none, none] [vI v149] (I149, L149, (ra149, rb149, rc149, rd149), zK0 sl sx, c149) x M' (zK0 sl sx) from ⟨zR_call (rest := []) 19 q149.1 (fun n => (if_neg g1).trans ((if_pos g2).trans ((if_neg g3).trans ((if_neg g17).trans ((if_neg g19).trans ((if_neg g21).trans ((if_neg g27).trans ((if_neg g31).trans ((if_neg g35).trans ((if_neg g39).trans ((if_neg g41).trans ((if_neg g47).trans ((if_neg g51).trans ((if_neg g55).trans ((if_neg g59).trans ((if_neg g61).trans ((if_neg g63).trans ((if_neg g67).trans ((if_pos g73).trans ((if_pos g74).trans rfl)))))))))))))))))))) w149.1, w149.2⟩
                                        obtain ⟨g75, h⟩ := zIx h
                                        obtain ⟨v150, M150, f150, h⟩ := zBx h
                                        have q150 := L_Mo_later (d := (d + 35)) f150 rfl
                                        obtain ⟨I150, L150, ⟨ra150, rb150, rc150, rd150⟩, K150, c150⟩ := M150
                                        obtain rfl : K150 = zK0 sl sx := q150.2
                                        suffices w150 : zLI (d + 46) tb_L_law 730 [some (vR 102 (some a0)), some (vR 10 (some a1)), some (vR 11 (some a2)), some (vR 103 (some a3)), some (vI x4), none, none] [vI v150, vI v149] (I150, L150, (ra150, rb150, rc150, rd150), zK0 sl sx, c150) x M' (zK0 sl sx) from ⟨zR_call (rest := [vI v149]) 7 q150.1 (fun n => (if_pos g75).trans rfl) w150.1, w150.2⟩
                                        rcases zit h with ⟨g76, h⟩ | ⟨g76, h⟩
                                        · replace h := zWx h
                                          have q := ih h rfl
                                          exact ⟨zR_go 3 q.1 (fun n => (if_pos g76).trans rfl), q.2⟩
                                        · obtain ⟨rfl, rfl⟩ := zrI h
                                          exact ⟨zR_ret 3 ((if_neg g76).trans rfl), rfl⟩
                                      · rcases zit h with ⟨g77, h⟩ | ⟨g77, h⟩
                                        · obtain ⟨g78, h⟩ := zIx h
                                          obtain ⟨v152, M152, f152, h⟩ := zBx h
                                          have q152 := L_Wp_total (d := (d + 39)) f152 rfl
                                          obtain ⟨I152, L152, ⟨ra152, rb152, rc152, rd152⟩, K152, c152⟩ := M152
                                          obtain rfl : K152 = zK0 sl sx := q152.2
                                          suffices w152 : zLI (d + 46) tb_L_law 745 [some (vR 102 (some a0)), some (vR 10 (some a1)), some (vR 11 (some a2)), some (vR 103 (some a3)), some (vI x4), none, none] [vI v152] (I152, L152, (ra152, rb152, rc152, rd152), zK0 sl sx, c152) x M' (zK0 sl sx) from ⟨zR_call (rest := []) 19 q152.1 (fun n => (if_neg g1).trans ((if_pos g2).trans ((if_neg g3).trans ((if_neg g17).trans ((if_neg g19).trans ((if_neg g21).trans ((if_neg g27).trans ((if_neg g31).trans ((if_neg g35).trans ((if_neg g39).trans ((if_neg g41).trans ((if_neg g47).trans ((if_neg g51).trans ((if_neg g55).trans ((if_neg g59).trans ((if_neg g61).trans ((if_neg g63).trans ((if_neg g67).trans ((if_neg g73).trans ((if_pos g77).trans ((if_pos g78).trans rfl))))))))))))))))))))) w152.1, w152.2⟩
                                          obtain ⟨g79, h⟩ := zIx h
                                          obtain ⟨v153, M153, f153, h⟩ := zBx h
                                          have q153 := L_Mo_total (d := (d + 35)) f153 rfl
                                          obtain ⟨I153, L153, ⟨ra153, rb153, rc153, rd153⟩, K153, c153⟩ := M153
                                          obtain rfl : K153 = zK0 sl sx := q153.2
                                          suffices w153 : zLI (d + 46) tb_L_law 755 [some (vR 102 (some a0)), some (vR 10 (some a1)), some (vR 11 (some a2)), some (vR 103 (some a3)), some (vI x4), none, none] [vI v153, vI v152] (I153, L153, (ra153, rb153, rc153, rd153), zK0 sl sx, c153) x M' (zK0 sl sx) from ⟨zR_call (rest := [vI v152]) 7 q153.1 (fun n => (if_pos g79).trans rfl) w153.1, w153.2⟩
                                          rcases zit h with ⟨g80, h⟩ | ⟨g80, h⟩
                                          · replace h := zWx h
                                            have q := ih h rfl
                                            exact ⟨zR_go 3 q.1 (fun n => (if_pos g80).trans rfl), q.2⟩
                                          · obtain ⟨rfl, rfl⟩ := zrI h
                                            exact ⟨zR_ret 3 ((if_neg g80).trans rfl), rfl⟩
                                        · rcases zit h with ⟨g81, h⟩ | ⟨g81, h⟩
                                          · obtain ⟨g82, h⟩ := zIx h
                                            obtain ⟨v155, M155, f155, h⟩ := zBx h
                                            have q155 := L_Wp_breaks (d := (d + 39)) f155 rfl
                                            obtain ⟨I155, L155, ⟨ra155, rb155, rc155, rd155⟩, K155, c155⟩ := M155
                                            obtain rfl : K155 = zK0 sl sx := q155.2
                                            suffices w155 : zLI (d + 46) tb_L_law 770 [some (vR 102 (some a0)), some (vR 10 (some a1)), some (vR 11 (some a2)), some (vR 103 (some a3)), some (vI x4), none, none] [vI v155] (I155, L155, (ra155, rb155, rc155, rd155), zK0 sl sx, c155) x M' (zK0 sl sx) from ⟨zR_call (rest := []) 19 q155.1 (fun n => (if_neg g1).trans ((if_pos g2).trans ((if_neg g3).trans ((if_neg g17).trans ((if_neg g19).trans ((if_neg g21).trans ((if_neg g27).trans ((if_neg g31).trans ((if_neg g35).trans ((if_neg g39).trans ((if_neg g41).trans ((if_neg g47).trans ((if_neg g51).trans ((if_neg g55).trans ((if_neg g59).trans ((if_neg g61).trans ((if_neg g63).trans ((if_neg g67).trans ((if_neg g73).trans ((if_neg g77).trans ((if_pos g81).trans ((if_pos g82).trans rfl)))))))))))))))))))))) w155.1, w155.2⟩
                                            obtain ⟨g83, h⟩ := zIx h
                                            obtain ⟨v156, M156, f156, h⟩ := zBx h
                                            have q156 := L_Mo_breaks (d := (d + 35)) f156 rfl
                                            obtain ⟨I156, L156, ⟨ra156, rb156, rc156, rd156⟩, K156, c156⟩ := M156
                                            obtain rfl : K156 = zK0 sl sx := q156.2
                                            suffices w156 : zLI (d + 46) tb_L_law 780 [some (vR 102 (some a0)), some (vR 10 (some a1)), some (vR 11 (some a2)), some (vR 103 (some a3)), some (vI x4), none, none] [vI v156, vI v155] (I156, L156, (ra156, rb156, rc156, rd156), zK0 sl sx, c156) x M' (zK0 sl sx) from ⟨zR_call (rest := [vI v155]) 7 q156.1 (fun n => (if_pos g83).trans rfl) w156.1, w156.2⟩
                                            rcases zit h with ⟨g84, h⟩ | ⟨g84, h⟩
                                            · replace h := zWx h
                                              have q := ih h rfl
                                              exact ⟨zR_go 3 q.1 (fun n => (if_pos g84).trans rfl), q.2⟩
                                            · obtain ⟨rfl, rfl⟩ := zrI h
                                              exact ⟨zR_ret 3 ((if_neg g84).trans rfl), rfl⟩
                                          · rcases zit h with ⟨g85, h⟩ | ⟨g85, h⟩
                                            · obtain ⟨v158, M158, f158, h⟩ := zBx h
                                              have q158 := L_Wp_lost (d := (d + 40)) f158 rfl
                                              obtain ⟨I158, L158, ⟨ra158, rb158, rc158, rd158⟩, K158, c158⟩ := M158
                                              obtain rfl : K158 = zK0 sl sx := q158.2
                                              suffices w158 : zLI (d + 46) tb_L_law 789 [some (vR 102 (some a0)), some (vR 10 (some a1)), some (vR 11 (some a2)), some (vR 103 (some a3)), some (vI x4), none, none] [vI v158] (I158, L158, (ra158, rb158, rc158, rd158), zK0 sl sx, c158) x M' (zK0 sl sx) from ⟨zR_call (rest := []) 14 q158.1 (fun n => (if_neg g1).trans ((if_pos g2).trans ((if_neg g3).trans ((if_neg g17).trans ((if_neg g19).trans ((if_neg g21).trans ((if_neg g27).trans ((if_neg g31).trans ((if_neg g35).trans ((if_neg g39).trans ((if_neg g41).trans ((if_neg g47).trans ((if_neg g51).trans ((if_neg g55).trans ((if_neg g59).trans ((if_neg g61).trans ((if_neg g63).trans ((if_neg g67).trans ((if_neg g73).trans ((if_neg g77).trans ((if_neg g81).trans ((if_pos g85).trans rfl)))))))))))))))))))))) w158.1, w158.2⟩
                                              obtain ⟨v159, M159, f159, h⟩ := zBx h
                                              have q159 := L_Mo_lost (d := (d + 37)) f159 rfl
                                              obtain ⟨I159, L159, ⟨ra159, rb159, rc159, rd159⟩, K159, c159⟩ := M159
                                              obtain rfl : K159 = zK0 sl sx := q159.2
                                              suffices w159 : zLI (d + 46) tb_L_law 793 [some (vR 102 (some a0)), some (vR 10 (some a1)), some (vR 11 (some a2)), some (vR 103 (some a3)), some (vI x4), none, none] [vI v159, vI v158] (I159, L159, (ra159, rb159, rc159, rd159), zK0 sl sx, c159) x M' (zK0 sl sx) from ⟨zR_call (rest := [vI v158]) 2 q159.1 (fun n => rfl) w159.1, w159.2⟩
                                              rcases zit h with ⟨g86, h⟩ | ⟨g86, h⟩
                                              · replace h := zWx h
                                                have q := ih h rfl
                                                exact ⟨zR_go 3 q.1 (fun n => (if_pos g86).trans rfl), q.2⟩
                                              · obtain ⟨rfl, rfl⟩ := zrI h
                                                exact ⟨zR_ret 3 ((if_neg g86).trans rfl), rfl⟩
                                            · rcases zit h with ⟨g87, h⟩ | ⟨g87, h⟩
                                              · obtain ⟨g88, h⟩ := zIx h
                                                obtain ⟨v161, M161, f161, h⟩ := zBx h
                                                have q161 := L_Wp_best (d := (d + 39)) f161 rfl
                                                obtain ⟨I161, L161, ⟨ra161, rb161, rc161, rd161⟩, K161, c161⟩ := M161
                                                obtain rfl : K161 = zK0 sl sx := q161.2
                                                suffices w161 : zLI (d + 46) tb_L_law 808 [some (vR 102 (some a0)), some (vR 10 (some a1)), some (vR 11 (some a2)), some (vR 103 (some a3)), some (vI x4), none, none] [vI v161] (I161, L161, (ra161, rb161, rc161, rd161), zK0 sl sx, c161) x M' (zK0 sl sx) from ⟨zR_call (rest := []) 19 q161.1 (fun n => (if_neg g1).trans ((if_pos g2).trans ((if_neg g3).trans ((if_neg g17).trans ((if_neg g19).trans ((if_neg g21).trans ((if_neg g27).trans ((if_neg g31).trans ((if_neg g35).trans ((if_neg g39).trans ((if_neg g41).trans ((if_neg g47).trans ((if_neg g51).trans ((if_neg g55).trans ((if_neg g59).trans ((if_neg g61).trans ((if_neg g63).trans ((if_neg g67).trans ((if_neg g73).trans ((if_neg g77).trans ((if_neg g81).trans ((if_neg g85).trans ((if_pos g87).trans ((if_pos g88).trans rfl)))))))))))))))))))))))) w161.1, w161.2⟩
                                                obtain ⟨g89, h⟩ := zIx h
                                                obtain ⟨v162, M162, f162, h⟩ := zBx h
                                                have q162 := L_Mo_best (d := (d + 35)) f162 rfl
                                                obtain ⟨I162, L162, ⟨ra162, rb162, rc162, rd162⟩, K162, c162⟩ := M162
                                                obtain rfl : K162 = zK0 sl sx := q162.2
                                                suffices w162 : zLI (d + 46) tb_L_law 818 [some (vR 102 (some a0)), some (vR 10 (some a1)), some (vR 11 (some a2)), some (vR 103 (some a3)), some (vI x4), none, none] [vI v162, vI v161] (I162, L162, (ra162, rb162, rc162, rd162), zK0 sl sx, c162) x M' (zK0 sl sx) from ⟨zR_call (rest := [vI v161]) 7 q162.1 (fun n => (if_pos g89).trans rfl) w162.1, w162.2⟩
                                                rcases zit h with ⟨g90, h⟩ | ⟨g90, h⟩
                                                · replace h := zWx h
                                                  have q := ih h rfl
                                                  exact ⟨zR_go 3 q.1 (fun n => (if_pos g90).trans rfl), q.2⟩
                                                · obtain ⟨rfl, rfl⟩ := zrI h
                                                  exact ⟨zR_ret 3 ((if_neg g90).trans rfl), rfl⟩
                                              · rcases zit h with ⟨g91, h⟩ | ⟨g91, h⟩
                                                · obtain ⟨g92, h⟩ := zIx h
                                                  obtain ⟨g93, h⟩ := zIx h
                                                  obtain ⟨v164, M164, f164, h⟩ := zBx h
                                                  have q164 := L_Wp_alone (d := (d + 39)) f164 rfl
                                                  obtain ⟨I164, L164, ⟨ra164, rb164, rc164, rd164⟩, K164, c164⟩ := M164
                                                  obtain rfl : K164 = zK0 sl sx := q164.2
                                                  suffices w164 : zLI (d + 46) tb_L_law 839 [some (vR 102 (some a0)), some (vR 10 (some a1)), some (vR 11 (some a2)), some (vR 103 (some a3)), some (vI x4), none, none] [vI v164] (I164, L164, (ra164, rb164, rc164, rd164), zK0 sl sx, c164) x M' (zK0 sl sx) from ⟨zR_call (rest := []) 24 q164.1 (fun n => (if_neg g1).trans ((if_pos g2).trans ((if_neg g3).trans ((if_neg g17).trans ((if_neg g19).trans ((if_neg g21).trans ((if_neg g27).trans ((if_neg g31).trans ((if_neg g35).trans ((if_neg g39).trans ((if_neg g41).trans ((if_neg g47).trans ((if_neg g51).trans ((if_neg g55).trans ((if_neg g59).trans ((if_neg g61).trans ((if_neg g63).trans ((if_neg g67).trans ((if_neg g73).trans ((if_neg g77).trans ((if_neg g81).trans ((if_neg g85).trans ((if_neg g87).trans ((if_pos g91).trans ((if_pos g92).trans ((if_pos g93).trans rfl)))))))))))))))))))))))))) w164.1, w164.2⟩
                                                  obtain ⟨g94, h⟩ := zIx h
                                                  obtain ⟨g95, h⟩ := zIx h
                                                  obtain ⟨v165, M165, f165, h⟩ := zBx h
                                                  have q165 := L_Mo_alone (d := (d + 35)) f165 rfl
                                                  obtain ⟨I165, L165, ⟨ra165, rb165, rc165, rd165⟩, K165, c165⟩ := M165
                                                  obtain rfl : K165 = zK0 sl sx := q165.2
                                                  suffices w165 : zLI (d + 46) tb_L_law 855 [some (vR 102 (some a0)), some (vR 10 (some a1)), some (vR 11 (some a2)), some (vR 103 (some a3)), some (vI x4), none, none] [vI v165, vI v164] (I165, L165, (ra165, rb165, rc165, rd165), zK0 sl sx, c165) x M' (zK0 sl sx) from ⟨zR_call (rest := [vI v164]) 12 q165.1 (fun n => (if_pos g94).trans ((if_pos g95).trans rfl)) w165.1, w165.2⟩
                                                  rcases zit h with ⟨g96, h⟩ | ⟨g96, h⟩
                                                  · replace h := zWx h
                                                    have q := ih h rfl
                                                    exact ⟨zR_go 3 q.1 (fun n => (if_pos g96).trans rfl), q.2⟩
                                                  · obtain ⟨rfl, rfl⟩ := zrI h
                                                    exact ⟨zR_ret 3 ((if_neg g96).trans rfl), rfl⟩
                                                · rcases zit h with ⟨g97, h⟩ | ⟨g97, h⟩
                                                  · obtain ⟨v167, M167, f167, h⟩ := zBx h
                                                    have q167 := L_Wp_idle (d := (d + 39)) f167 rfl
                                                    obtain ⟨I167, L167, ⟨ra167, rb167, rc167, rd167⟩, K167, c167⟩ := M167
                                                    obtain rfl : K167 = zK0 sl sx := q167.2
                                                    suffices w167 : zLI (d + 46) tb_L_law 864 [some (vR 102 (some a0)), some (vR 10 (some a1)), some (vR 11 (some a2)), some (vR 103 (some a3)), some (vI x4), none, none] [vI v167] (I167, L167, (ra167, rb167, rc167, rd167), zK0 sl sx, c167) x M' (zK0 sl sx) from ⟨zR_call (rest := []) 14 q167.1 (fun n => (if_neg g1).trans ((if_pos g2).trans ((if_neg g3).trans ((if_neg g17).trans ((if_neg g19).trans ((if_neg g21).trans ((if_neg g27).trans ((if_neg g31).trans ((if_neg g35).trans ((if_neg g39).trans ((if_neg g41).trans ((if_neg g47).trans ((if_neg g51).trans ((if_neg g55).trans ((if_neg g59).trans ((if_neg g61).trans ((if_neg g63).trans ((if_neg g67).trans ((if_neg g73).trans ((if_neg g77).trans ((if_neg g81).trans ((if_neg g85).trans ((if_neg g87).trans ((if_neg g91).trans ((if_pos g97).trans rfl))))))))))))))))))))))))) w167.1, w167.2⟩
                                                    obtain ⟨v168, M168, f168, h⟩ := zBx h
                                                    have q168 := L_Mo_idle (d := (d + 36)) f168 rfl
                                                    obtain ⟨I168, L168, ⟨ra168, rb168, rc168, rd168⟩, K168, c168⟩ := M168
                                                    obtain rfl : K168 = zK0 sl sx := q168.2
                                                    suffices w168 : zLI (d + 46) tb_L_law 868 [some (vR 102 (some a0)), some (vR 10 (some a1)), some (vR 11 (some a2)), some (vR 103 (some a3)), some (vI x4), none, none] [vI v168, vI v167] (I168, L168, (ra168, rb168, rc168, rd168), zK0 sl sx, c168) x M' (zK0 sl sx) from ⟨zR_call (rest := [vI v167]) 2 q168.1 (fun n => rfl) w168.1, w168.2⟩
                                                    rcases zit h with ⟨g98, h⟩ | ⟨g98, h⟩
                                                    · replace h := zWx h
                                                      have q := ih h rfl
                                                      exact ⟨zR_go 3 q.1 (fun n => (if_pos g98).trans rfl), q.2⟩
                                                    · obtain ⟨rfl, rfl⟩ := zrI h
                                                      exact ⟨zR_ret 3 ((if_neg g98).trans rfl), rfl⟩
                                                  · rcases zit h with ⟨g99, h⟩ | ⟨g99, h⟩
                                                    · obtain ⟨v170, M170, f170, h⟩ := zBx h
                                                      have q170 := L_Wp_straight (d := (d + 39)) f170 rfl
                                                      obtain ⟨I170, L170, ⟨ra170, rb170, rc170, rd170⟩, K170, c170⟩ := M170
                                                      obtain rfl : K170 = zK0 sl sx := q170.2
                                                      suffices w170 : zLI (d + 46) tb_L_law 877 [some (vR 102 (some a0)), some (vR 10 (some a1)), some (vR 11 (some a2)), some (vR 103 (some a3)), some (vI x4), none, none] [vI v170] (I170, L170, (ra170, rb170, rc170, rd170), zK0 sl sx, c170) x M' (zK0 sl sx) from ⟨zR_call (rest := []) 14 q170.1 (fun n => (if_neg g1).trans ((if_pos g2).trans ((if_neg g3).trans ((if_neg g17).trans ((if_neg g19).trans ((if_neg g21).trans ((if_neg g27).trans ((if_neg g31).trans ((if_neg g35).trans ((if_neg g39).trans ((if_neg g41).trans ((if_neg g47).trans ((if_neg g51).trans ((if_neg g55).trans ((if_neg g59).trans ((if_neg g61).trans ((if_neg g63).trans ((if_neg g67).trans ((if_neg g73).trans ((if_neg g77).trans ((if_neg g81).trans ((if_neg g85).trans ((if_neg g87).trans ((if_neg g91).trans ((if_neg g97).trans ((if_pos g99).trans rfl)))))))))))))))))))))))))) w170.1, w170.2⟩
                                                      obtain ⟨v171, M171, f171, h⟩ := zBx h
                                                      have q171 := L_Mo_straight (d := (d + 36)) f171 rfl
                                                      obtain ⟨I171, L171, ⟨ra171, rb171, rc171, rd171⟩, K171, c171⟩ := M171
                                                      obtain rfl : K171 = zK0 sl sx := q171.2
                                                      suffices w171 : zLI (d + 46) tb_L_law 881 [some (vR 102 (some a0)), some (vR 10 (some a1)), some (vR 11 (some a2)), some (vR 103 (some a3)), some (vI x4), none, none] [vI v171, vI v170] (I171, L171, (ra171, rb171, rc171, rd171), zK0 sl sx, c171) x M' (zK0 sl sx) from ⟨zR_call (rest := [vI v170]) 2 q171.1 (fun n => rfl) w171.1, w171.2⟩
                                                      rcases zit h with ⟨g100, h⟩ | ⟨g100, h⟩
                                                      · replace h := zWx h
                                                        have q := ih h rfl
                                                        exact ⟨zR_go 3 q.1 (fun n => (if_pos g100).trans rfl), q.2⟩
                                                      · obtain ⟨rfl, rfl⟩ := zrI h
                                                        exact ⟨zR_ret 3 ((if_neg g100).trans rfl), rfl⟩
                                                    · rcases zit h with ⟨g101, h⟩ | ⟨g101, h⟩
                                                      · obtain ⟨v173, M173, f173, h⟩ := zBx h
                                                        have q173 := L_Wp_full (d := (d + 40)) f173 rfl
                                                        obtain ⟨I173, L173, ⟨ra173, rb173, rc173, rd173⟩, K173, c173⟩ := M173
                                                        obtain rfl : K173 = zK0 sl sx := q173.2
                                                        suffices w173 : zLI (d + 46) tb_L_law 890 [some (vR 102 (some a0)), some (vR 10 (some a1)), some (vR 11 (some a2)), some (vR 103 (some a3)), some (vI x4), none, none] [vI v173] (I173, L173, (ra173, rb173, rc173, rd173), zK0 sl sx, c173) x M' (zK0 sl sx) from ⟨zR_call (rest := []) 14 q173.1 (fun n => (if_neg g1).trans ((if_pos g2).trans ((if_neg g3).trans ((if_neg g17).trans ((if_neg g19).trans ((if_neg g21).trans ((if_neg g27).trans ((if_neg g31).trans ((if_neg g35).trans ((if_neg g39).trans ((if_neg g41).trans ((if_neg g47).trans ((if_neg g51).trans ((if_neg g55).trans ((if_neg g59).trans ((if_neg g61).trans ((if_neg g63).trans ((if_neg g67).trans ((if_neg g73).trans ((if_neg g77).trans ((if_neg g81).trans ((if_neg g85).trans ((if_neg g87).trans ((if_neg g91).trans ((if_neg g97).trans ((if_neg g99).trans ((if_pos g101).trans rfl))))))))))))))))))))))))))) w173.1, w173.2⟩
                                                        obtain ⟨v174, M174, f174, h⟩ := zBx h
                                                        have q174 := L_Mo_full (d := (d + 37)) f174 rfl
                                                        obtain ⟨I174, L174, ⟨ra174, rb174, rc174, rd174⟩, K174, c174⟩ := M174
                                                        obtain rfl : K174 = zK0 sl sx := q174.2
                                                        suffices w174 : zLI (d + 46) tb_L_law 894 [some (vR 102 (some a0)), some (vR 10 (some a1)), some (vR 11 (some a2)), some (vR 103 (some a3)), some (vI x4), none, none] [vI v174, vI v173] (I174, L174, (ra174, rb174, rc174, rd174), zK0 sl sx, c174) x M' (zK0 sl sx) from ⟨zR_call (rest := [vI v173]) 2 q174.1 (fun n => rfl) w174.1, w174.2⟩
                                                        rcases zit h with ⟨g102, h⟩ | ⟨g102, h⟩
                                                        · replace h := zWx h
                                                          have q := ih h rfl
                                                          exact ⟨zR_go 3 q.1 (fun n => (if_pos g102).trans rfl), q.2⟩
                                                        · obtain ⟨rfl, rfl⟩ := zrI h
                                                          exact ⟨zR_ret 3 ((if_neg g102).trans rfl), rfl⟩
                                                      · rcases zit h with ⟨g103, h⟩ | ⟨g103, h⟩
                                                        · obtain ⟨v176, M176, f176, h⟩ := zBx h
                                                          have q176 := L_Wp_dear (d := (d + 40)) f176 rfl
                                                          obtain ⟨I176, L176, ⟨ra176, rb176, rc176, rd176⟩, K176, c176⟩ := M176
                                                          obtain rfl : K176 = zK0 sl sx := q176.2
                                                          suffices w176 : zLI (d + 46) tb_L_law 903 [some (vR 102 (some a0)), some (vR 10 (some a1)), some (vR 11 (some a2)), some (vR 103 (some a3)), some (vI x4), none, none] [vI v176] (I176, L176, (ra176, rb176, rc176, rd176), zK0 sl sx, c176) x M' (zK0 sl sx) from ⟨zR_call (rest := []) 14 q176.1 (fun n => (if_neg g1).trans ((if_pos g2).trans ((if_neg g3).trans ((if_neg g17).trans ((if_neg g19).trans ((if_neg g21).trans ((if_neg g27).trans ((if_neg g31).trans ((if_neg g35).trans ((if_neg g39).trans ((if_neg g41).trans ((if_neg g47).trans ((if_neg g51).trans ((if_neg g55).trans ((if_neg g59).trans ((if_neg g61).trans ((if_neg g63).trans ((if_neg g67).trans ((if_neg g73).trans ((if_neg g77).trans ((if_neg g81).trans ((if_neg g85).trans ((if_neg g87).trans ((if_neg g91).trans ((if_neg g97).trans ((if_neg g99).trans ((if_neg g101).trans ((if_pos g103).trans rfl)))))))))))))))))))))))))))) w176.1, w176.2⟩
                                                          obtain ⟨v177, M177, f177, h⟩ := zBx h
                                                          have q177 := L_Mo_dear (d := (d + 37)) f177 rfl
                                                          obtain ⟨I177, L177, ⟨ra177, rb177, rc177, rd177⟩, K177, c177⟩ := M177
                                                          obtain rfl : K177 = zK0 sl sx := q177.2
                                                          suffices w177 : zLI (d + 46) tb_L_law 907 [some (vR 102 (some a0)), some (vR 10 (some a1)), some (vR 11 (some a2)), some (vR 103 (some a3)), some (vI x4), none, none] [vI v177, vI v176] (I177, L177, (ra177, rb177, rc177, rd177), zK0 sl sx, c177) x M' (zK0 sl sx) from ⟨zR_call (rest := [vI v176]) 2 q177.1 (fun n => rfl) w177.1, w177.2⟩
                                                          rcases zit h with ⟨g104, h⟩ | ⟨g104, h⟩
                                                          · replace h := zWx h
                                                            have q := ih h rfl
                                                            exact ⟨zR_go 3 q.1 (fun n => (if_pos g104).trans rfl), q.2⟩
                                                          · obtain ⟨rfl, rfl⟩ := zrI h
                                                            exact ⟨zR_ret 3 ((if_neg g104).trans rfl), rfl⟩
                                                        · rcases zit h with ⟨g105, h⟩ | ⟨g105, h⟩
                                                          · obtain ⟨g106, h⟩ := zIx h
                                                            obtain ⟨v179, M179, f179, h⟩ := zBx h
                                                            have q179 := L_Wp_fault (d := (d + 40)) f179 rfl
                                                            obtain ⟨I179, L179, ⟨ra179, rb179, rc179, rd179⟩, K179, c179⟩ := M179
                                                            obtain rfl : K179 = zK0 sl sx := q179.2
                                                            suffices w179 : zLI (d + 46) tb_L_law 922 [some (vR 102 (some a0)), some (vR 10 (some a1)), some (vR 11 (some a2)), some (vR 103 (some a3)), some (vI x4), none, none] [vI v179] (I179, L179, (ra179, rb179, rc179, rd179), zK0 sl sx, c179) x M' (zK0 sl sx) from ⟨zR_call (rest := []) 19 q179.1 (fun n => (if_neg g1).trans ((if_pos g2).trans ((if_neg g3).trans ((if_neg g17).trans ((if_neg g19).trans ((if_neg g21).trans ((if_neg g27).trans ((if_neg g31).trans ((if_neg g35).trans ((if_neg g39).trans ((if_neg g41).trans ((if_neg g47).trans ((if_neg g51).trans ((if_neg g55).trans ((if_neg g59).trans ((if_neg g61).trans ((if_neg g63).trans ((if_neg g67).trans ((if_neg g73).trans ((if_neg g77).trans ((if_neg g81).trans ((if_neg g85).trans ((if_neg g87).trans ((if_neg g91).trans ((if_neg g97).trans ((if_neg g99).trans ((if_neg g101).trans ((if_neg g103).trans ((if_pos g105).trans ((if_pos g106).trans rfl)))))))))))))))))))))))))))))) w179.1, w179.2⟩
                                                            obtain ⟨g107, h⟩ := zIx h
                                                            obtain ⟨v180, M180, f180, h⟩ := zBx h
                                                            have q180 := L_Mo_fault (d := (d + 37)) f180 rfl
                                                            obtain ⟨I180, L180, ⟨ra180, rb180, rc180, rd180⟩, K180, c180⟩ := M180
                                                            obtain rfl : K180 = zK0 sl sx := q180.2
                                                            suffices w180 : zLI (d + 46) tb_L_law 932 [some (vR 102 (some a0)), some (vR 10 (some a1)), some (vR 11 (some a2)), some (vR 103 (some a3)), some (vI x4), none, none] [vI v180, vI v179] (I180, L180, (ra180, rb180, rc180, rd180), zK0 sl sx, c180) x M' (zK0 sl sx) from ⟨zR_call (rest := [vI v179]) 7 q180.1 (fun n => (if_pos g107).trans rfl) w180.1, w180.2⟩
                                                            rcases zit h with ⟨g108, h⟩ | ⟨g108, h⟩
                                                            · replace h := zWx h
                                                              have q := ih h rfl
                                                              exact ⟨zR_go 3 q.1 (fun n => (if_pos g108).trans rfl), q.2⟩
                                                            · obtain ⟨rfl, rfl⟩ := zrI h
                                                              exact ⟨zR_ret 3 ((if_neg g108).trans rfl), rfl⟩
                                                          · rcases zit h with ⟨g109, h⟩ | ⟨g109, h⟩
                                                            · obtain ⟨g110, h⟩ := zIx h
                                                              obtain ⟨v182, M182, f182, h⟩ := zBx h
                                                              have q182 := L_Wp_robbed (d := (d + 39)) f182 rfl
                                                              obtain ⟨I182, L182, ⟨ra182, rb182, rc182, rd182⟩, K182, c182⟩ := M182
                                                              obtain rfl : K182 = zK0 sl sx := q182.2
                                                              suffices w182 : zLI (d + 46) tb_L_law 947 [some (vR 102 (some a0)), some (vR 10 (some a1)), some (vR 11 (some a2)), some (vR 103 (some a3)), some (vI x4), none, none] [vI v182] (I182, L182, (ra182, rb182, rc182, rd182), zK0 sl sx, c182) x M' (zK0 sl sx) from ⟨zR_call (rest := []) 19 q182.1 (fun n => (if_neg g1).trans ((if_pos g2).trans ((if_neg g3).trans ((if_neg g17).trans ((if_neg g19).trans ((if_neg g21).trans ((if_neg g27).trans ((if_neg g31).trans ((if_neg g35).trans ((if_neg g39).trans ((if_neg g41).trans ((if_neg g47).trans ((if_neg g51).trans ((if_neg g55).trans ((if_neg g59).trans ((if_neg g61).trans ((if_neg g63).trans ((if_neg g67).trans ((if_neg g73).trans ((if_neg g77).trans ((if_neg g81).trans ((if_neg g85).trans ((if_neg g87).trans ((if_neg g91).trans ((if_neg g97).trans ((if_neg g99).trans ((if_neg g101).trans ((if_neg g103).trans ((if_neg g105).trans ((if_pos g109).trans ((if_pos g110).trans rfl))))))))))))))))))))))))))))))) w182.1, w182.2⟩
                                                              obtain ⟨g111, h⟩ := zIx h
                                                              obtain ⟨v183, M183, f183, h⟩ := zBx h
                                                              have q183 := L_Mo_robbed (d := (d + 39)) f183 rfl
                                                              obtain ⟨I183, L183, ⟨ra183, rb183, rc183, rd183⟩, K183, c183⟩ := M183
                                                              obtain rfl : K183 = zK0 sl sx := q183.2
                                                              suffices w183 : zLI (d + 46) tb_L_law 957 [some (vR 102 (some a0)), some (vR 10 (some a1)), some (vR 11 (some a2)), some (vR 103 (some a3)), some (vI x4), none, none] [vI v183, vI v182] (I183, L183, (ra183, rb183, rc183, rd183), zK0 sl sx, c183) x M' (zK0 sl sx) from ⟨zR_call (rest := [vI v182]) 7 q183.1 (fun n => (if_pos g111).trans rfl) w183.1, w183.2⟩
                                                              rcases zit h with ⟨g112, h⟩ | ⟨g112, h⟩
                                                              · replace h := zWx h
                                                                have q := ih h rfl
                                                                exact ⟨zR_go 3 q.1 (fun n => (if_pos g112).trans rfl), q.2⟩
                                                              · obtain ⟨rfl, rfl⟩ := zrI h
                                                                exact ⟨zR_ret 3 ((if_neg g112).trans rfl), rfl⟩
                                                            · rcases zit h with ⟨g113, h⟩ | ⟨g113, h⟩
                                                              · obtain ⟨v185, M185, f185, h⟩ := zBx h
                                                                have q185 := L_Wp_front (d := (d + 40)) f185 rfl
                                                                obtain ⟨I185, L185, ⟨ra185, rb185, rc185, rd185⟩, K185, c185⟩ := M185
                                                                obtain rfl : K185 = zK0 sl sx := q185.2
                                                                suffices w185 : zLI (d + 46) tb_L_law 966 [some (vR 102 (some a0)), some (vR 10 (some a1)), some (vR 11 (some a2)), some (vR 103 (some a3)), some (vI x4), none, none] [vI v185] (I185, L185, (ra185, rb185, rc185, rd185), zK0 sl sx, c185) x M' (zK0 sl sx) from ⟨zR_call (rest := []) 14 q185.1 (fun n => (if_neg g1).trans ((if_pos g2).trans ((if_neg g3).trans ((if_neg g17).trans ((if_neg g19).trans ((if_neg g21).trans ((if_neg g27).trans ((if_neg g31).trans ((if_neg g35).trans ((if_neg g39).trans ((if_neg g41).trans ((if_neg g47).trans ((if_neg g51).trans ((if_neg g55).trans ((if_neg g59).trans ((if_neg g61).trans ((if_neg g63).trans ((if_neg g67).trans ((if_neg g73).trans ((if_neg g77).trans ((if_neg g81).trans ((if_neg g85).trans ((if_neg g87).trans ((if_neg g91).trans ((if_neg g97).trans ((if_neg g99).trans ((if_neg g101).trans ((if_neg g103).trans ((if_neg g105).trans ((if_neg g109).trans ((if_pos g113).trans rfl))))))))))))))))))))))))))))))) w185.1, w185.2⟩
                                                                obtain ⟨v186, M186, f186, h⟩ := zBx h
                                                                have q186 := L_Mo_front (d := (d + 41)) f186 rfl
                                                                obtain ⟨I186, L186, ⟨ra186, rb186, rc186, rd186⟩, K186, c186⟩ := M186
                                                                obtain rfl : K186 = zK0 sl sx := q186.2
                                                                suffices w186 : zLI (d + 46) tb_L_law 970 [some (vR 102 (some a0)), some (vR 10 (some a1)), some (vR 11 (some a2)), some (vR 103 (some a3)), some (vI x4), none, none] [vI v186, vI v185] (I186, L186, (ra186, rb186, rc186, rd186), zK0 sl sx, c186) x M' (zK0 sl sx) from ⟨zR_call (rest := [vI v185]) 2 q186.1 (fun n => rfl) w186.1, w186.2⟩
                                                                rcases zit h with ⟨g114, h⟩ | ⟨g114, h⟩
                                                                · replace h := zWx h
                                                                  have q := ih h rfl
                                                                  exact ⟨zR_go 3 q.1 (fun n => (if_pos g114).trans rfl), q.2⟩
                                                                · obtain ⟨rfl, rfl⟩ := zrI h
                                                                  exact ⟨zR_ret 3 ((if_neg g114).trans rfl), rfl⟩
                                                              · rcases zit h with ⟨g115, h⟩ | ⟨g115, h⟩
                                                                · obtain ⟨g116, h⟩ := zIx h
                                                                  obtain ⟨v188, M188, f188, h⟩ := zBx h
                                                                  have q188 := L_Wp_shade (d := (d + 41)) f188 rfl
                                                                  obtain ⟨I188, L188, ⟨ra188, rb188, rc188, rd188⟩, K188, c188⟩ := M188
                                                                  obtain rfl : K188 = zK0 sl sx := q188.2
                                                                  suffices w188 : zLI (d + 46) tb_L_law 985 [some (vR 102 (some a0)), some (vR 10 (some a1)), some (vR 11 (some a2)), some (vR 103 (some a3)), some (vI x4), none, none] [vI v188] (I188, L188, (ra188, rb188, rc188, rd188), zK0 sl sx, c188) x M' (zK0 sl sx) from ⟨zR_call (rest := []) 19 q188.1 (fun n => (if_neg g1).trans ((if_pos g2).trans ((if_neg g3).trans ((if_neg g17).trans ((if_neg g19).trans ((if_neg g21).trans ((if_neg g27).trans ((if_neg g31).trans ((if_neg g35).trans ((if_neg g39).trans ((if_neg g41).trans ((if_neg g47).trans ((if_neg g51).trans ((if_neg g55).trans ((if_neg g59).trans ((if_neg g61).trans ((if_neg g63).trans ((if_neg g67).trans ((if_neg g73).trans ((if_neg g77).trans ((if_neg g81).trans ((if_neg g85).trans ((if_neg g87).trans ((if_neg g91).trans ((if_neg g97).trans ((if_neg g99).trans ((if_neg g101).trans ((if_neg g103).trans ((if_neg g105).trans ((if_neg g109).trans ((if_neg g113).trans ((if_pos g115).trans ((if_pos g116).trans rfl))))))))))))))))))))))))))))))))) w188.1, w188.2⟩
                                                                  obtain ⟨g117, h⟩ := zIx h
                                                                  obtain ⟨v189, M189, f189, h⟩ := zBx h
                                                                  have q189 := L_Mo_shade (d := (d + 42)) f189 rfl
                                                                  obtain ⟨I189, L189, ⟨ra189, rb189, rc189, rd189⟩, K189, c189⟩ := M189
                                                                  obtain rfl : K189 = zK0 sl sx := q189.2
                                                                  suffices w189 : zLI (d + 46) tb_L_law 995 [some (vR 102 (some a0)), some (vR 10 (some a1)), some (vR 11 (some a2)), some (vR 103 (some a3)), some (vI x4), none, none] [vI v189, vI v188] (I189, L189, (ra189, rb189, rc189, rd189), zK0 sl sx, c189) x M' (zK0 sl sx) from ⟨zR_call (rest := [vI v188]) 7 q189.1 (fun n => (if_pos g117).trans rfl) w189.1, w189.2⟩
                                                                  rcases zit h with ⟨g118, h⟩ | ⟨g118, h⟩
                                                                  · replace h := zWx h
                                                                    have q := ih h rfl
                                                                    exact ⟨zR_go 3 q.1 (fun n => (if_pos g118).trans rfl), q.2⟩
                                                                  · obtain ⟨rfl, rfl⟩ := zrI h
                                                                    exact ⟨zR_ret 3 ((if_neg g118).trans rfl), rfl⟩
                                                                · rcases zit h with ⟨g119, h⟩ | ⟨g119, h⟩
                                                                  · obtain ⟨g120, h⟩ := zIx h
                                                                    obtain ⟨v191, M191, f191, h⟩ := zBx h
                                                                    have q191 := L_Wp_hops (d := (d + 44)) f191 rfl
                                                                    obtain ⟨I191, L191, ⟨ra191, rb191, rc191, rd191⟩, K191, c191⟩ := M191
                                                                    obtain rfl : K191 = zK0 sl sx := q191.2
                                                                    suffices w191 : zLI (d + 46) tb_L_law 1010 [some (vR 102 (some a0)), some (vR 10 (some a1)), some (vR 11 (some a2)), some (vR 103 (some a3)), some (vI x4), none, none] [vI v191] (I191, L191, (ra191, rb191, rc191, rd191), zK0 sl sx, c191) x M' (zK0 sl sx) from ⟨zR_call (rest := []) 19 q191.1 (fun n => (if_neg g1).trans ((if_pos g2).trans ((if_neg g3).trans ((if_neg g17).trans ((if_neg g19).trans ((if_neg g21).trans ((if_neg g27).trans ((if_neg g31).trans ((if_neg g35).trans ((if_neg g39).trans ((if_neg g41).trans ((if_neg g47).trans ((if_neg g51).trans ((if_neg g55).trans ((if_neg g59).trans ((if_neg g61).trans ((if_neg g63).trans ((if_neg g67).trans ((if_neg g73).trans ((if_neg g77).trans ((if_neg g81).trans ((if_neg g85).trans ((if_neg g87).trans ((if_neg g91).trans ((if_neg g97).trans ((if_neg g99).trans ((if_neg g101).trans ((if_neg g103).trans ((if_neg g105).trans ((if_neg g109).trans ((if_neg g113).trans ((if_neg g115).trans ((if_pos g119).trans ((if_pos g120).trans rfl)))))))))))))))))))))))))))))))))) w191.1, w191.2⟩
                                                                    obtain ⟨g121, h⟩ := zIx h
                                                                    obtain ⟨v192, M192, f192, h⟩ := zBx h
                                                                    have q192 := L_Mo_hops (d := (d + 44)) f192 rfl
                                                                    obtain ⟨I192, L192, ⟨ra192, rb192, rc192, rd192⟩, K192, c192⟩ := M192
                                                                    obtain rfl : K192 = zK0 sl sx := q192.2
                                                                    suffices w192 : zLI (d + 46) tb_L_law 1020 [some (vR 102 (some a0)), some (vR 10 (some a1)), some (vR 11 (some a2)), some (vR 103 (some a3)), some (vI x4), none, none] [vI v192, vI v191] (I192, L192, (ra192, rb192, rc192, rd192), zK0 sl sx, c192) x M' (zK0 sl sx) from ⟨zR_call (rest := [vI v191]) 7 q192.1 (fun n => (if_pos g121).trans rfl) w192.1, w192.2⟩
                                                                    rcases zit h with ⟨g122, h⟩ | ⟨g122, h⟩
                                                                    · replace h := zWx h
                                                                      have q := ih h rfl
                                                                      exact ⟨zR_go 3 q.1 (fun n => (if_pos g122).trans rfl), q.2⟩
                                                                    · obtain ⟨rfl, rfl⟩ := zrI h
                                                                      exact ⟨zR_ret 3 ((if_neg g122).trans rfl), rfl⟩
                                                                  · rcases zit h with ⟨g123, h⟩ | ⟨g123, h⟩
                                                                    · obtain ⟨g124, h⟩ := zIx h
                                                                      obtain ⟨g125, h⟩ := zIx h
                                                                      obtain ⟨v194, M194, f194, h⟩ := zBx h
                                                                      have q194 := L_Wp_see (d := (d + 44)) f194 rfl
                                                                      obtain ⟨I194, L194, ⟨ra194, rb194, rc194, rd194⟩, K194, c194⟩ := M194
                                                                      obtain rfl : K194 = zK0 sl sx := q194.2
                                                                      suffices w194 : zLI (d + 46) tb_L_law 1041 [some (vR 102 (some a0)), some (vR 10 (some a1)), some (vR 11 (some a2)), some (vR 103 (some a3)), some (vI x4), none, none] [vI v194] (I194, L194, (ra194, rb194, rc194, rd194), zK0 sl sx, c194) x M' (zK0 sl sx) from ⟨zR_call (rest := []) 24 q194.1 (fun n => (if_neg g1).trans ((if_pos g2).trans ((if_neg g3).trans ((if_neg g17).trans ((if_neg g19).trans ((if_neg g21).trans ((if_neg g27).trans ((if_neg g31).trans ((if_neg g35).trans ((if_neg g39).trans ((if_neg g41).trans ((if_neg g47).trans ((if_neg g51).trans ((if_neg g55).trans ((if_neg g59).trans ((if_neg g61).trans ((if_neg g63).trans ((if_neg g67).trans ((if_neg g73).trans ((if_neg g77).trans ((if_neg g81).trans ((if_neg g85).trans ((if_neg g87).trans ((if_neg g91).trans ((if_neg g97).trans ((if_neg g99).trans ((if_neg g101).trans ((if_neg g103).trans ((if_neg g105).trans ((if_neg g109).trans ((if_neg g113).trans ((if_neg g115).trans ((if_neg g119).trans ((if_pos g123).trans ((if_pos g124).trans ((if_pos g125).trans rfl)))))))))))))))))))))))))))))))))))) w194.1, w194.2⟩
                                                                      obtain ⟨g126, h⟩ := zIx h
                                                                      obtain ⟨g127, h⟩ := zIx h
                                                                      obtain ⟨v195, M195, f195, h⟩ := zBx h
                                                                      have q195 := L_Mo_see (d := (d + 44)) f195 rfl
                                                                      obtain ⟨I195, L195, ⟨ra195, rb195, rc195, rd195⟩, K195, c195⟩ := M195
                                                                      obtain rfl : K195 = zK0 sl sx := q195.2
                                                                      suffices w195 : zLI (d + 46) tb_L_law 1057 [some (vR 102 (some a0)), some (vR 10 (some a1)), some (vR 11 (some a2)), some (vR 103 (some a3)), some (vI x4), none, none] [vI v195, vI v194] (I195, L195, (ra195, rb195, rc195, rd195), zK0 sl sx, c195) x M' (zK0 sl sx) from ⟨zR_call (rest := [vI v194]) 12 q195.1 (fun n => (if_pos g126).trans ((if_pos g127).trans rfl)) w195.1, w195.2⟩
                                                                      rcases zit h with ⟨g128, h⟩ | ⟨g128, h⟩
                                                                      · replace h := zWx h
                                                                        have q := ih h rfl
                                                                        exact ⟨zR_go 3 q.1 (fun n => (if_pos g128).trans rfl), q.2⟩
                                                                      · obtain ⟨rfl, rfl⟩ := zrI h
                                                                        exact ⟨zR_ret 3 ((if_neg g128).trans rfl), rfl⟩
                                                                    · rcases zit h with ⟨g129, h⟩ | ⟨g129, h⟩
                                                                      · obtain ⟨g130, h⟩ := zIx h
                                                                        obtain ⟨v197, M197, f197, h⟩ := zBx h
                                                                        have q197 := L_Wp_winds (d := (d + 40)) f197 rfl
                                                                        obtain ⟨I197, L197, ⟨ra197, rb197, rc197, rd197⟩, K197, c197⟩ := M197
                                                                        obtain rfl : K197 = zK0 sl sx := q197.2
                                                                        suffices w197 : zLI (d + 46) tb_L_law 1072 [some (vR 102 (some a0)), some (vR 10 (some a1)), some (vR 11 (some a2)), some (vR 103 (some a3)), some (vI x4), none, none] [vI v197] (I197, L197, (ra197, rb197, rc197, rd197), zK0 sl sx, c197) x M' (zK0 sl sx) from ⟨zR_call (rest := []) 19 q197.1 (fun n => (if_neg g1).trans ((if_pos g2).trans ((if_neg g3).trans ((if_neg g17).trans ((if_neg g19).trans ((if_neg g21).trans ((if_neg g27).trans ((if_neg g31).trans ((if_neg g35).trans ((if_neg g39).trans ((if_neg g41).trans ((if_neg g47).trans ((if_neg g51).trans ((if_neg g55).trans ((if_neg g59).trans ((if_neg g61).trans ((if_neg g63).trans ((if_neg g67).trans ((if_neg g73).trans ((if_neg g77).trans ((if_neg g81).trans ((if_neg g85).trans ((if_neg g87).trans ((if_neg g91).trans ((if_neg g97).trans ((if_neg g99).trans ((if_neg g101).trans ((if_neg g103).trans ((if_neg g105).trans ((if_neg g109).trans ((if_neg g113).trans ((if_neg g115).trans ((if_neg g119).trans ((if_neg g123).trans ((if_pos g129).trans ((if_pos g130).trans rfl)))))))))))))))))))))))))))))))))))) w197.1, w197.2⟩
                                                                        obtain ⟨g131, h⟩ := zIx h
                                                                        obtain ⟨v198, M198, f198, h⟩ := zBx h
                                                                        have q198 := L_Mo_winds (d := (d + 38)) f198 rfl
                                                                        obtain ⟨I198, L198, ⟨ra198, rb198, rc198, rd198⟩, K198, c198⟩ := M198
                                                                        obtain rfl : K198 = zK0 sl sx := q198.2
                                                                        suffices w198 : zLI (d + 46) tb_L_law 1082 [some (vR 102 (some a0)), some (vR 10 (some a1)), some (vR 11 (some a2)), some (vR 103 (some a3)), some (vI x4), none, none] [vI v198, vI v197] (I198, L198, (ra198, rb198, rc198, rd198), zK0 sl sx, c198) x M' (zK0 sl sx) from ⟨zR_call (rest := [vI v197]) 7 q198.1 (fun n => (if_pos g131).trans rfl) w198.1, w198.2⟩
                                                                        rcases zit h with ⟨g132, h⟩ | ⟨g132, h⟩
                                                                        · replace h := zWx h
                                                                          have q := ih h rfl
                                                                          exact ⟨zR_go 3 q.1 (fun n => (if_pos g132).trans rfl), q.2⟩
                                                                        · obtain ⟨rfl, rfl⟩ := zrI h
                                                                          exact ⟨zR_ret 3 ((if_neg g132).trans rfl), rfl⟩
                                                                      · rcases zit h with ⟨g133, h⟩ | ⟨g133, h⟩
                                                                        · obtain ⟨v200, M200, f200, h⟩ := zBx h
                                                                          have q200 := L_Wp_ask (d := (d + 40)) f200 rfl
                                                                          obtain ⟨I200, L200, ⟨ra200, rb200, rc200, rd200⟩, K200, c200⟩ := M200
                                                                          obtain rfl : K200 = zK0 sl sx := q200.2
                                                                          suffices w200 : zLI (d + 46) tb_L_law 1091 [some (vR 102 (some a0)), some (vR 10 (some a1)), some (vR 11 (some a2)), some (vR 103 (some a3)), some (vI x4), none, none] [vI v200] (I200, L200, (ra200, rb200, rc200, rd200), zK0 sl sx, c200) x M' (zK0 sl sx) from ⟨zR_call (rest := []) 14 q200.1 (fun n => (if_neg g1).trans ((if_pos g2).trans ((if_neg g3).trans ((if_neg g17).trans ((if_neg g19).trans ((if_neg g21).trans ((if_neg g27).trans ((if_neg g31).trans ((if_neg g35).trans ((if_neg g39).trans ((if_neg g41).trans ((if_neg g47).trans ((if_neg g51).trans ((if_neg g55).trans ((if_neg g59).trans ((if_neg g61).trans ((if_neg g63).trans ((if_neg g67).trans ((if_neg g73).trans ((if_neg g77).trans ((if_neg g81).trans ((if_neg g85).trans ((if_neg g87).trans ((if_neg g91).trans ((if_neg g97).trans ((if_neg g99).trans ((if_neg g101).trans ((if_neg g103).trans ((if_neg g105).trans ((if_neg g109).trans ((if_neg g113).trans ((if_neg g115).trans ((if_neg g119).trans ((if_neg g123).trans ((if_neg g129).trans ((if_pos g133).trans rfl)))))))))))))))))))))))))))))))))))) w200.1, w200.2⟩
                                                                          obtain ⟨v201, M201, f201, h⟩ := zBx h
                                                                          have q201 := L_Mo_ask (d := (d + 38)) f201 rfl
                                                                          obtain ⟨I201, L201, ⟨ra201, rb201, rc201, rd201⟩, K201, c201⟩ := M201
                                                                          obtain rfl : K201 = zK0 sl sx := q201.2
                                                                          suffices w201 : zLI (d + 46) tb_L_law 1095 [some (vR 102 (some a0)), some (vR 10 (some a1)), some (vR 11 (some a2)), some (vR 103 (some a3)), some (vI x4), none, none] [vI v201, vI v200] (I201, L201, (ra201, rb201, rc201, rd201), zK0 sl sx, c201) x M' (zK0 sl sx) from ⟨zR_call (rest := [vI v200]) 2 q201.1 (fun n => rfl) w201.1, w201.2⟩
                                                                          rcases zit h with ⟨g134, h⟩ | ⟨g134, h⟩
                                                                          · replace h := zWx h
                                                                            have q := ih h rfl
                                                                            exact ⟨zR_go 3 q.1 (fun n => (if_pos g134).trans rfl), q.2⟩
                                                                          · obtain ⟨rfl, rfl⟩ := zrI h
                                                                            exact ⟨zR_ret 3 ((if_neg g134).trans rfl), rfl⟩
                                                                        · rcases zit h with ⟨g135, h⟩ | ⟨g135, h⟩
                                                                          · obtain ⟨g136, h⟩ := zIx h
                                                                            obtain ⟨g137, h⟩ := zIx h
                                                                            obtain ⟨g138, h⟩ := zIx h
                                                                            obtain ⟨v203, M203, f203, h⟩ := zBx h
                                                                            have q203 := L_Wp_chance (d := (d + 41)) f203 rfl
                                                                            obtain ⟨I203, L203, ⟨ra203, rb203, rc203, rd203⟩, K203, c203⟩ := M203
                                                                            obtain rfl : K203 = zK0 sl sx := q203.2
                                                                            suffices w203 : zLI (d + 46) tb_L_law 1122 [some (vR 102 (some a0)), some (vR 10 (some a1)), some (vR 11 (some a2)), some (vR 103 (some a3)), some (vI x4), none, none] [vI v203] (I203, L203, (ra203, rb203, rc203, rd203), zK0 sl sx, c203) x M' (zK0 sl sx) from ⟨zR_call (rest := []) 29 q203.1 (fun n => (if_neg g1).trans ((if_pos g2).trans ((if_neg g3).trans ((if_neg g17).trans ((if_neg g19).trans ((if_neg g21).trans ((if_neg g27).trans ((if_neg g31).trans ((if_neg g35).trans ((if_neg g39).trans ((if_neg g41).trans ((if_neg g47).trans ((if_neg g51).trans ((if_neg g55).trans ((if_neg g59).trans ((if_neg g61).trans ((if_neg g63).trans ((if_neg g67).trans ((if_neg g73).trans ((if_neg g77).trans ((if_neg g81).trans ((if_neg g85).trans ((if_neg g87).trans ((if_neg g91).trans ((if_neg g97).trans ((if_neg g99).trans ((if_neg g101).trans ((if_neg g103).trans ((if_neg g105).trans ((if_neg g109).trans ((if_neg g113).trans ((if_neg g115).trans ((if_neg g119).trans ((if_neg g123).trans ((if_neg g129).trans ((if_neg g133).trans ((if_pos g135).trans ((if_pos g136).trans ((if_pos g137).trans ((if_pos g138).trans rfl)))))))))))))))))))))))))))))))))))))))) w203.1, w203.2⟩
                                                                            obtain ⟨g139, h⟩ := zIx h
                                                                            obtain ⟨g140, h⟩ := zIx h
                                                                            obtain ⟨g141, h⟩ := zIx h
                                                                            obtain ⟨v204, M204, f204, h⟩ := zBx h
                                                                            have q204 := L_Mo_chance (d := (d + 39)) f204 rfl
                                                                            obtain ⟨I204, L204, ⟨ra204, rb204, rc204, rd204⟩, K204, c204⟩ := M204
                                                                            obtain rfl : K204 = zK0 sl sx := q204.2
                                                                            suffices w204 : zLI (d + 46) tb_L_law 1144 [some (vR 102 (some a0)), some (vR 10 (some a1)), some (vR 11 (some a2)), some (vR 103 (some a3)), some (vI x4), none, none] [vI v204, vI v203] (I204, L204, (ra204, rb204, rc204, rd204), zK0 sl sx, c204) x M' (zK0 sl sx) from ⟨zR_call (rest := [vI v203]) 17 q204.1 (fun n => (if_pos g139).trans ((if_pos g140).trans ((if_pos g141).trans rfl))) w204.1, w204.2⟩
                                                                            rcases zit h with ⟨g142, h⟩ | ⟨g142, h⟩
                                                                            · replace h := zWx h
                                                                              have q := ih h rfl
                                                                              exact ⟨zR_go 3 q.1 (fun n => (if_pos g142).trans rfl), q.2⟩
                                                                            · obtain ⟨rfl, rfl⟩ := zrI h
                                                                              exact ⟨zR_ret 3 ((if_neg g142).trans rfl), rfl⟩
                                                                          · rcases zit h with ⟨g143, h⟩ | ⟨g143, h⟩
                                                                            · obtain ⟨g144, h⟩ := zIx h
                                                                              obtain ⟨g145, h⟩ := zIx h
                                                                              obtain ⟨g146, h⟩ := zIx h
                                                                              obtain ⟨g147, h⟩ := zIx h
                                                                              rcases zit h with ⟨g148, h⟩ | ⟨g148, h⟩
                                                                              · replace h := zWx h
                                                                                obtain ⟨g149, h⟩ := zIx h
                                                                                obtain ⟨g150, h⟩ := zIx h
                                                                                obtain ⟨g151, h⟩ := zIx h
                                                                                obtain ⟨g152, h⟩ := zIx h
                                                                                obtain ⟨v208, M208, f208, h⟩ := zBx h
                                                                                have q208 := L_Mo_rests (d := (d + 44)) f208 rfl
                                                                                obtain ⟨I208, L208, ⟨ra208, rb208, rc208, rd208⟩, K208, c208⟩ := M208
                                                                                obtain rfl : K208 = zK0 sl sx := q208.2
                                                                                suffices w208 : zLI (d + 46) tb_L_law 1208 [some (vR 102 (some a0)), some (vR 10 (some a1)), some (vR 11 (some a2)), some (vR 103 (some a3)), some (vI x4), some (vI 1), none] [vI v208] (I208, L208, (ra208, rb208, rc208, rd208), zK0 sl sx, c208) x M' (zK0 sl sx) from ⟨zR_call (rest := []) 58 q208.1 (fun n => (if_neg g1).trans ((if_pos g2).trans ((if_neg g3).trans ((if_neg g17).trans ((if_neg g19).trans ((if_neg g21).trans ((if_neg g27).trans ((if_neg g31).trans ((if_neg g35).trans ((if_neg g39).trans ((if_neg g41).trans ((if_neg g47).trans ((if_neg g51).trans ((if_neg g55).trans ((if_neg g59).trans ((if_neg g61).trans ((if_neg g63).trans ((if_neg g67).trans ((if_neg g73).trans ((if_neg g77).trans ((if_neg g81).trans ((if_neg g85).trans ((if_neg g87).trans ((if_neg g91).trans ((if_neg g97).trans ((if_neg g99).trans ((if_neg g101).trans ((if_neg g103).trans ((if_neg g105).trans ((if_neg g109).trans ((if_neg g113).trans ((if_neg g115).trans ((if_neg g119).trans ((if_neg g123).trans ((if_neg g129).trans ((if_neg g133).trans ((if_neg g135).trans ((if_pos g143).trans ((if_pos g144).trans ((if_pos g145).trans ((if_pos g146).trans ((if_pos g147).trans ((if_pos g148).trans ((if_pos g149).trans ((if_pos g150).trans ((if_pos g151).trans ((if_pos g152).trans rfl))))))))))))))))))))))))))))))))))))))))))))))) w208.1, w208.2⟩
                                                                                obtain ⟨v209, M209, f209, h⟩ := zBx h
                                                                                have q209 := L_Mo_thrown (d := (d + 45)) f209 rfl
                                                                                obtain ⟨I209, L209, ⟨ra209, rb209, rc209, rd209⟩, K209, c209⟩ := M209
                                                                                obtain rfl : K209 = zK0 sl sx := q209.2
                                                                                suffices w209 : zLI (d + 46) tb_L_law 1214 [some (vR 102 (some a0)), some (vR 10 (some a1)), some (vR 11 (some a2)), some (vR 103 (some a3)), some (vI x4), some (vI 1), some (vI v208)] [vI v209] (I209, L209, (ra209, rb209, rc209, rd209), zK0 sl sx, c209) x M' (zK0 sl sx) from ⟨zR_call (rest := []) 3 q209.1 (fun n => rfl) w209.1, w209.2⟩
                                                                                rcases zit h with ⟨g153, h⟩ | ⟨g153, h⟩
                                                                                · replace h := zWx h
                                                                                  have q := ih h rfl
                                                                                  exact ⟨zR_go 7 (zR_up (ls' := [some (vR 102 (some a0)), some (vR 10 (some a1)), some (vR 11 (some a2)), some (vR 103 (some a3)), some (vI (z32 (x4 + 7))), some (vI 1), some (vI v208)]) q.1 ⟨.inr rfl, .inr rfl, .inr rfl, .inr rfl, .inr rfl, .inl rfl, .inl rfl, trivial⟩) (fun n => (if_pos g153).trans rfl), q.2⟩
                                                                                · obtain ⟨rfl, rfl⟩ := zrI h
                                                                                  exact ⟨zR_ret 4 ((if_neg g153).trans rfl), rfl⟩
                                                                              · replace h := zWx h
                                                                                obtain ⟨g154, h⟩ := zIx h
                                                                                obtain ⟨g155, h⟩ := zIx h
                                                                                obtain ⟨g156, h⟩ := zIx h
                                                                                obtain ⟨g157, h⟩ := zIx h
                                                                                obtain ⟨v211, M211, f211, h⟩ := zBx h
                                                                                have q211 := L_Mo_rests (d := (d + 44)) f211 rfl
                                                                                obtain ⟨I211, L211, ⟨ra211, rb211, rc211, rd211⟩, K211, c211⟩ := M211
                                                                                obtain rfl : K211 = zK0 sl sx := q211.2
                                                                                suffices w211 : zLI (d + 46) tb_L_law 1208 [some (vR 102 (some a0)), some (vR 10 (some a1)), some (vR 11 (some a2)), some (vR 103 (some a3)), some (vI x4), some (vI 0), none] [vI v211] (I211, L211, (ra211, rb211, rc211, rd211), zK0 sl sx, c211) x M' (zK0 sl sx) from ⟨zR_call (rest := []) 58 q211.1 (fun n => (if_neg g1).trans ((if_pos g2).trans ((if_neg g3).trans ((if_neg g17).trans ((if_neg g19).trans ((if_neg g21).trans ((if_neg g27).trans ((if_neg g31).trans ((if_neg g35).trans ((if_neg g39).trans ((if_neg g41).trans ((if_neg g47).trans ((if_neg g51).trans ((if_neg g55).trans ((if_neg g59).trans ((if_neg g61).trans ((if_neg g63).trans ((if_neg g67).trans ((if_neg g73).trans ((if_neg g77).trans ((if_neg g81).trans ((if_neg g85).trans ((if_neg g87).trans ((if_neg g91).trans ((if_neg g97).trans ((if_neg g99).trans ((if_neg g101).trans ((if_neg g103).trans ((if_neg g105).trans ((if_neg g109).trans ((if_neg g113).trans ((if_neg g115).trans ((if_neg g119).trans ((if_neg g123).trans ((if_neg g129).trans ((if_neg g133).trans ((if_neg g135).trans ((if_pos g143).trans ((if_pos g144).trans ((if_pos g145).trans ((if_pos g146).trans ((if_pos g147).trans ((if_neg g148).trans ((if_pos g154).trans ((if_pos g155).trans ((if_pos g156).trans ((if_pos g157).trans rfl))))))))))))))))))))))))))))))))))))))))))))))) w211.1, w211.2⟩
                                                                                obtain ⟨v212, M212, f212, h⟩ := zBx h
                                                                                have q212 := L_Mo_thrown (d := (d + 45)) f212 rfl
                                                                                obtain ⟨I212, L212, ⟨ra212, rb212, rc212, rd212⟩, K212, c212⟩ := M212
                                                                                obtain rfl : K212 = zK0 sl sx := q212.2
                                                                                suffices w212 : zLI (d + 46) tb_L_law 1214 [some (vR 102 (some a0)), some (vR 10 (some a1)), some (vR 11 (some a2)), some (vR 103 (some a3)), some (vI x4), some (vI 0), some (vI v211)] [vI v212] (I212, L212, (ra212, rb212, rc212, rd212), zK0 sl sx, c212) x M' (zK0 sl sx) from ⟨zR_call (rest := []) 3 q212.1 (fun n => rfl) w212.1, w212.2⟩
                                                                                rcases zit h with ⟨g158, h⟩ | ⟨g158, h⟩
                                                                                · rcases zit h with ⟨g159, h⟩ | ⟨g159, h⟩
                                                                                  · replace h := zWx h
                                                                                    have q := ih h rfl
                                                                                    exact ⟨zR_go 14 (zR_up (ls' := [some (vR 102 (some a0)), some (vR 10 (some a1)), some (vR 11 (some a2)), some (vR 103 (some a3)), some (vI (z32 (x4 + 7))), some (vI 0), some (vI v211)]) q.1 ⟨.inr rfl, .inr rfl, .inr rfl, .inr rfl, .inr rfl, .inl rfl, .inl rfl, trivial⟩) (fun n => (if_pos g158).trans ((if_pos g159).trans rfl)), q.2⟩
                                                                                  · obtain ⟨rfl, rfl⟩ := zrI h
                                                                                    exact ⟨zR_ret 13 ((if_pos g158).trans ((if_neg g159).trans rfl)), rfl⟩
                                                                                · obtain ⟨rfl, rfl⟩ := zrI h
                                                                                  exact ⟨zR_ret 4 ((if_neg g158).trans rfl), rfl⟩
                                                                            · rcases zit h with ⟨g160, h⟩ | ⟨g160, h⟩
                                                                              · obtain ⟨g161, h⟩ := zIx h
                                                                                obtain ⟨g162, h⟩ := zIx h
                                                                                obtain ⟨g163, h⟩ := zIx h
                                                                                obtain ⟨v214, M214, f214, h⟩ := zBx h
                                                                                have q214 := L_Wp_days (d := (d + 39)) f214 rfl
                                                                                obtain ⟨I214, L214, ⟨ra214, rb214, rc214, rd214⟩, K214, c214⟩ := M214
                                                                                obtain rfl : K214 = zK0 sl sx := q214.2
                                                                                suffices w214 : zLI (d + 46) tb_L_law 1263 [some (vR 102 (some a0)), some (vR 10 (some a1)), some (vR 11 (some a2)), some (vR 103 (some a3)), some (vI x4), none, none] [vI v214] (I214, L214, (ra214, rb214, rc214, rd214), zK0 sl sx, c214) x M' (zK0 sl sx) from ⟨zR_call (rest := []) 29 q214.1 (fun n => (if_neg g1).trans ((if_pos g2).trans ((if_neg g3).trans ((if_neg g17).trans ((if_neg g19).trans ((if_neg g21).trans ((if_neg g27).trans ((if_neg g31).trans ((if_neg g35).trans ((if_neg g39).trans ((if_neg g41).trans ((if_neg g47).trans ((if_neg g51).trans ((if_neg g55).trans ((if_neg g59).trans ((if_neg g61).trans ((if_neg g63).trans ((if_neg g67).trans ((if_neg g73).trans ((if_neg g77).trans ((if_neg g81).trans ((if_neg g85).trans ((if_neg g87).trans ((if_neg g91).trans ((if_neg g97).trans ((if_neg g99).trans ((if_neg g101).trans ((if_neg g103).trans ((if_neg g105).trans ((if_neg g109).trans ((if_neg g113).trans ((if_neg g115).trans ((if_neg g119).trans ((if_neg g123).trans ((if_neg g129).trans ((if_neg g133).trans ((if_neg g135).trans ((if_neg g143).trans ((if_pos g160).trans ((if_pos g161).trans ((if_pos g162).trans ((if_pos g163).trans rfl)))))))))))))))))))))))))))))))))))))))))) w214.1, w214.2⟩
                                                                                obtain ⟨g164, h⟩ := zIx h
                                                                                obtain ⟨g165, h⟩ := zIx h
                                                                                obtain ⟨g166, h⟩ := zIx h
                                                                                obtain ⟨v215, M215, f215, h⟩ := zBx h
                                                                                have q215 := L_Mo_days (d := (d + 34)) f215 rfl
                                                                                obtain ⟨I215, L215, ⟨ra215, rb215, rc215, rd215⟩, K215, c215⟩ := M215
                                                                                obtain rfl : K215 = zK0 sl sx := q215.2
                                                                                suffices w215 : zLI (d + 46) tb_L_law 1285 [some (vR 102 (some a0)), some (vR 10 (some a1)), some (vR 11 (some a2)), some (vR 103 (some a3)), some (vI x4), none, none] [vI v215, vI v214] (I215, L215, (ra215, rb215, rc215, rd215), zK0 sl sx, c215) x M' (zK0 sl sx) from ⟨zR_call (rest := [vI v214]) 17 q215.1 (fun n => (if_pos g164).trans ((if_pos g165).trans ((if_pos g166).trans rfl))) w215.1, w215.2⟩
                                                                                rcases zit h with ⟨g167, h⟩ | ⟨g167, h⟩
                                                                                · replace h := zWx h
                                                                                  have q := ih h rfl
                                                                                  exact ⟨zR_go 3 q.1 (fun n => (if_pos g167).trans rfl), q.2⟩
                                                                                · obtain ⟨rfl, rfl⟩ := zrI h
                                                                                  exact ⟨zR_ret 3 ((if_neg g167).trans rfl), rfl⟩
                                                                              · rcases zit h with ⟨g168, h⟩ | ⟨g168, h⟩
                                                                                · obtain ⟨g169, h⟩ := zIx h
                                                                                  obtain ⟨g170, h⟩ := zIx h
                                                                                  rcases zit h with ⟨g171, h⟩ | ⟨g171, h⟩
                                                                                  · have q := L_Lw_law_1311 (d := d) ih h rfl
                                                                                    exact ⟨zR_go 25 q.1 (fun n => (if_neg g1).trans ((if_pos g2).trans ((if_neg g3).trans ((if_neg g17).trans ((if_neg g19).trans ((if_neg g21).trans ((if_neg g27).trans ((if_neg g31).trans ((if_neg g35).trans ((if_neg g39).trans ((if_neg g41).trans ((if_neg g47).trans ((if_neg g51).trans ((if_neg g55).trans ((if_neg g59).trans ((if_neg g61).trans ((if_neg g63).trans ((if_neg g67).trans ((if_neg g73).trans ((if_neg g77).trans ((if_neg g81).trans ((if_neg g85).trans ((if_neg g87).trans ((if_neg g91).trans ((if_neg g97).trans ((if_neg g99).trans ((if_neg g101).trans ((if_neg g103).trans ((if_neg g105).trans ((if_neg g109).trans ((if_neg g113).trans ((if_neg g115).trans ((if_neg g119).trans ((if_neg g123).trans ((if_neg g129).trans ((if_neg g133).trans ((if_neg g135).trans ((if_neg g143).trans ((if_neg g160).trans ((if_pos g168).trans ((if_pos g169).trans ((if_pos g170).trans ((if_pos g171).trans rfl))))))))))))))))))))))))))))))))))))))))))), q.2⟩
                                                                                  · have q := L_Lw_law_1311 (d := d) ih h rfl
                                                                                    exact ⟨zR_go 26 q.1 (fun n => (if_neg g1).trans ((if_pos g2).trans ((if_neg g3).trans ((if_neg g17).trans ((if_neg g19).trans ((if_neg g21).trans ((if_neg g27).trans ((if_neg g31).trans ((if_neg g35).trans ((if_neg g39).trans ((if_neg g41).trans ((if_neg g47).trans ((if_neg g51).trans ((if_neg g55).trans ((if_neg g59).trans ((if_neg g61).trans ((if_neg g63).trans ((if_neg g67).trans ((if_neg g73).trans ((if_neg g77).trans ((if_neg g81).trans ((if_neg g85).trans ((if_neg g87).trans ((if_neg g91).trans ((if_neg g97).trans ((if_neg g99).trans ((if_neg g101).trans ((if_neg g103).trans ((if_neg g105).trans ((if_neg g109).trans ((if_neg g113).trans ((if_neg g115).trans ((if_neg g119).trans ((if_neg g123).trans ((if_neg g129).trans ((if_neg g133).trans ((if_neg g135).trans ((if_neg g143).trans ((if_neg g160).trans ((if_pos g168).trans ((if_pos g169).trans ((if_pos g170).trans ((if_neg g171).trans rfl))))))))))))))))))))))))))))))))))))))))))), q.2⟩
                                                                                · rcases zit h with ⟨g172, h⟩ | ⟨g172, h⟩
                                                                                  · obtain ⟨g173, h⟩ := zIx h
                                                                                    obtain ⟨v217, M217, f217, h⟩ := zBx h
                                                                                    have q217 := L_Wp_count (d := (d + 40)) f217 rfl
                                                                                    obtain ⟨I217, L217, ⟨ra217, rb217, rc217, rd217⟩, K217, c217⟩ := M217
                                                                                    obtain rfl : K217 = zK0 sl sx := q217.2
                                                                                    suffices w217 : zLI (d + 46) tb_L_law 1353 [some (vR 102 (some a0)), some (vR 10 (some a1)), some (vR 11 (some a2)), some (vR 103 (some a3)), some (vI x4), none, none] [vI v217] (I217, L217, (ra217, rb217, rc217, rd217), zK0 sl sx, c217) x M' (zK0 sl sx) from ⟨zR_call (rest := []) 19 q217.1 (fun n => (if_neg g1).trans ((if_pos g2).trans ((if_neg g3).trans ((if_neg g17).trans ((if_neg g19).trans ((if_neg g21).trans ((if_neg g27).trans ((if_neg g31).trans ((if_neg g35).trans ((if_neg g39).trans ((if_neg g41).trans ((if_neg g47).trans ((if_neg g51).trans ((if_neg g55).trans ((if_neg g59).trans ((if_neg g61).trans ((if_neg g63).trans ((if_neg g67).trans ((if_neg g73).trans ((if_neg g77).trans ((if_neg g81).trans ((if_neg g85).trans ((if_neg g87).trans ((if_neg g91).trans ((if_neg g97).trans ((if_neg g99).trans ((if_neg g101).trans ((if_neg g103).trans ((if_neg g105).trans ((if_neg g109).trans ((if_neg g113).trans ((if_neg g115).trans ((if_neg g119).trans ((if_neg g123).trans ((if_neg g129).trans ((if_neg g133).trans ((if_neg g135).trans ((if_neg g143).trans ((if_neg g160).trans ((if_neg g168).trans ((if_pos g172).trans ((if_pos g173).trans rfl)))))))))))))))))))))))))))))))))))))))))) w217.1, w217.2⟩
                                                                                    obtain ⟨g174, h⟩ := zIx h
                                                                                    obtain ⟨v218, M218, f218, h⟩ := zBx h
                                                                                    have q218 := L_Mo_count (d := (d + 37)) f218 rfl
                                                                                    obtain ⟨I218, L218, ⟨ra218, rb218, rc218, rd218⟩, K218, c218⟩ := M218
                                                                                    obtain rfl : K218 = zK0 sl sx := q218.2
                                                                                    suffices w218 : zLI (d + 46) tb_L_law 1363 [some (vR 102 (some a0)), some (vR 10 (some a1)), some (vR 11 (some a2)), some (vR 103 (some a3)), some (vI x4), none, none] [vI v218, vI v217] (I218, L218, (ra218, rb218, rc218, rd218), zK0 sl sx, c218) x M' (zK0 sl sx) from ⟨zR_call (rest := [vI v217]) 7 q218.1 (fun n => (if_pos g174).trans rfl) w218.1, w218.2⟩
                                                                                    rcases zit h with ⟨g175, h⟩ | ⟨g175, h⟩
                                                                                    · replace h := zWx h
                                                                                      have q := ih h rfl
                                                                                      exact ⟨zR_go 3 q.1 (fun n => (if_pos g175).trans rfl), q.2⟩
                                                                                    · obtain ⟨rfl, rfl⟩ := zrI h
                                                                                      exact ⟨zR_ret 3 ((if_neg g175).trans rfl), rfl⟩
                                                                                  · replace h := zWx h
                                                                                    have q := ih h rfl
                                                                                    exact ⟨zR_go 14 q.1 (fun n => (if_neg g1).trans ((if_pos g2).trans ((if_neg g3).trans ((if_neg g17).trans ((if_neg g19).trans ((if_neg g21).trans ((if_neg g27).trans ((if_neg g31).trans ((if_neg g35).trans ((if_neg g39).trans ((if_neg g41).trans ((if_neg g47).trans ((if_neg g51).trans ((if_neg g55).trans ((if_neg g59).trans ((if_neg g61).trans ((if_neg g63).trans ((if_neg g67).trans ((if_neg g73).trans ((if_neg g77).trans ((if_neg g81).trans ((if_neg g85).trans ((if_neg g87).trans ((if_neg g91).trans ((if_neg g97).trans ((if_neg g99).trans ((if_neg g101).trans ((if_neg g103).trans ((if_neg g105).trans ((if_neg g109).trans ((if_neg g113).trans ((if_neg g115).trans ((if_neg g119).trans ((if_neg g123).trans ((if_neg g129).trans ((if_neg g133).trans ((if_neg g135).trans ((if_neg g143).trans ((if_neg g160).trans ((if_neg g168).trans ((if_neg g172).trans rfl))))))))))))))))))))))))))))))))))))))))), q.2⟩
