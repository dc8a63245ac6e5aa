section LOOP
variable {N sl : Nat} {sx : Nat → Int}
set_option maxHeartbeats 4000000 in
theorem law_go (hN : 20000 ≤ N) (hsl : sl ≤ 448) : ∀ (n j : Nat) (M : ZM), 7 * j ≤ sl → sl < 7 * j + 7 * n → mK M = zK0 sl sx → zInv j M → ∃ M', Lw_law_23 N n 0 0 0 0 ((7 * j : Nat) : Int) M = some (1, M') ∧ M'.2.2.2.2.1 ≤ M.2.2.2.2.1 + n ∧ M'.2.2.2.2.2 ≤ M.2.2.2.2.2 + 6 * n := by
  intro n
  induction n with
  | zero => intro j M h7 hj; omega
  | succ n ih =>
    intro j M h7 hj hK hI
    have h64 : j ≤ 64 := by omega
    have K1 := KK hK
    rw [Lw_law_23, K1.1, zs (x := (sl : Int) - 7) (by omega)]
    by_cases c0 : (sl : Int) - 7 < ((7 * j : Nat) : Int)
    · rw [if_pos c0]
      exact ⟨M, rfl, by omega, by omega⟩
    · rw [if_neg c0, zI_t (by omega)]
      have hb : 7 * j + 7 ≤ sl := by omega
      have go : ∀ {r : Option (Int × ZM)} {M2 : ZM}, zInv (j + 1) M2 → mK M2 = zK0 sl sx → M2.2.2.2.2.1 ≤ M.2.2.2.2.1 + 1 → M2.2.2.2.2.2 ≤ M.2.2.2.2.2 + 6 → r = Lw_law_23 N n 0 0 0 0 ((7 * j + 7 : Nat) : Int) M2 → ∃ M', r = some (1, M') ∧ M'.2.2.2.2.1 ≤ M.2.2.2.2.1 + (n + 1) ∧ M'.2.2.2.2.2 ≤ M.2.2.2.2.2 + 6 * (n + 1) := by
        intro r M2 i2 k2 a2 b2 e
        obtain ⟨M', e', p, q⟩ := ih (j + 1) M2 (by omega) (by omega) k2 i2
        exact ⟨M', e.trans e', by omega, by omega⟩
      have go2 : ∀ {r : Option (Int × ZM)}, (∃ M2, zInv (j + 1) M2 ∧ mK M2 = zK0 sl sx ∧ M2.2.2.2.2 = M.2.2.2.2 ∧ r = Lw_law_23 N n 0 0 0 0 ((7 * j + 7 : Nat) : Int) M2) → ∃ M', r = some (1, M') ∧ M'.2.2.2.2.1 ≤ M.2.2.2.2.1 + (n + 1) ∧ M'.2.2.2.2.2 ≤ M.2.2.2.2.2 + 6 * (n + 1) := by
        rintro r ⟨M2, i2, k2, a2, e⟩
        exact go i2 k2 (by rw [a2]; exact Nat.le_succ _) (by rw [a2]; exact Nat.le_add_right _ _) e
      generalize hx : z_and (mKI M 102 0 ((7 * j : Nat) : Int).toNat) 63 = x
      by_cases c1 : x = 0
      · rw [if_pos c1]
        have e := lb_feed (rec := Lw_law_23 N n) hN h64 hb hK hI
        rw [K1.1] at e
        exact go2 e
      rw [if_neg c1]
      by_cases c2 : x = 1
      · rw [if_pos c2]
        have e := lb_park (rec := Lw_law_23 N n) hN h64 hb hK hI
        exact go2 e
      rw [if_neg c2]
      by_cases c3 : x = 2
      · rw [if_pos c3]
        have e := lb_day (rec := Lw_law_23 N n) hN h64 hb hK hI
        exact go2 e
      rw [if_neg c3]
      by_cases c4 : x = 3
      · rw [if_pos c4]
        have e := lb_turbine (rec := Lw_law_23 N n) hN h64 hb hK hI
        rw [K1.1] at e
        exact go2 e
      rw [if_neg c4]
      by_cases c5 : x = 4
      · rw [if_pos c5]
        have e := lb_wind (rec := Lw_law_23 N n) hN h64 hb hK hI
        rw [K1.1] at e
        exact go2 e
      rw [if_neg c5]
      by_cases c6 : x = 5
      · rw [if_pos c6]
        have e := lb_power (rec := Lw_law_23 N n) hN h64 hb hK hI
        rw [K1.1] at e
        exact go2 e
      rw [if_neg c6]
      by_cases c7 : x = 6
      · rw [if_pos c7]
        have e := lb_carried (rec := Lw_law_23 N n) hN h64 hb hK hI
        rw [K1.1] at e
        exact go2 e
      rw [if_neg c7]
      by_cases c8 : x = 7
      · rw [if_pos c8]
        have e := lb_home (rec := Lw_law_23 N n) hN h64 hb hK hI
        exact go2 e
      rw [if_neg c8]
      by_cases c9 : x = 8
      · rw [if_pos c9]
        have e := lb_turn (rec := Lw_law_23 N n) hN h64 hb hK hI
        rw [K1.1] at e
        exact go2 e
      rw [if_neg c9]
      by_cases c10 : x = 9
      · rw [if_pos c10]
        have e := lb_shut (rec := Lw_law_23 N n) hN h64 hb hK hI
        rw [K1.1] at e
        exact go2 e
      rw [if_neg c10]
      by_cases c11 : x = 10
      · rw [if_pos c11]
        have e := lb_open (rec := Lw_law_23 N n) hN h64 hb hK hI
        rw [K1.1] at e
        exact go2 e
      rw [if_neg c11]
      by_cases c12 : x = 11
      · rw [if_pos c12]
        have e := lb_mend (rec := Lw_law_23 N n) hN h64 hb hK hI
        rw [K1.1] at e
        exact go2 e
      rw [if_neg c12]
      by_cases c13 : x = 12
      · rw [if_pos c13]
        have e := lb_step (rec := Lw_law_23 N n) hN h64 hb hK hI
        exact go2 e
      rw [if_neg c13]
      by_cases c14 : x = 13
      · rw [if_pos c14]
        have e := lb_undo (rec := Lw_law_23 N n) hN h64 hb hK hI
        exact go2 e
      rw [if_neg c14]
      by_cases c15 : x = 14
      · rw [if_pos c15]
        have e := lb_judged (rec := Lw_law_23 N n) hN h64 hb hK hI
        rw [K1.1] at e
        exact go2 e
      rw [if_neg c15]
      by_cases c16 : x = 15
      · rw [if_pos c16]
        have e := lb_takes (rec := Lw_law_23 N n) hN h64 hb hK hI
        rw [K1.1] at e
        exact go2 e
      rw [if_neg c16]
      by_cases c17 : x = 16
      · rw [if_pos c17]
        have e := lb_later (rec := Lw_law_23 N n) hN h64 hb hK hI
        rw [K1.1] at e
        exact go2 e
      rw [if_neg c17]
      by_cases c18 : x = 17
      · rw [if_pos c18]
        have e := lb_total (rec := Lw_law_23 N n) hN h64 hb hK hI
        rw [K1.1] at e
        exact go2 e
      rw [if_neg c18]
      by_cases c19 : x = 18
      · rw [if_pos c19]
        have e := lb_breaks (rec := Lw_law_23 N n) hN h64 hb hK hI
        rw [K1.1] at e
        exact go2 e
      rw [if_neg c19]
      by_cases c20 : x = 19
      · rw [if_pos c20]
        have e := lb_lost (rec := Lw_law_23 N n) hN h64 hb hK hI
        exact go2 e
      rw [if_neg c20]
      by_cases c21 : x = 20
      · rw [if_pos c21]
        have e := lb_best (rec := Lw_law_23 N n) hN h64 hb hK hI
        rw [K1.1] at e
        exact go2 e
      rw [if_neg c21]
      by_cases c22 : x = 21
      · rw [if_pos c22]
        have e := lb_alone (rec := Lw_law_23 N n) hN h64 hb hK hI
        rw [K1.1] at e
        exact go2 e
      rw [if_neg c22]
      by_cases c23 : x = 22
      · rw [if_pos c23]
        have e := lb_idle (rec := Lw_law_23 N n) hN h64 hb hK hI
        exact go2 e
      rw [if_neg c23]
      by_cases c24 : x = 23
      · rw [if_pos c24]
        have e := lb_straight (rec := Lw_law_23 N n) hN h64 hb hK hI
        exact go2 e
      rw [if_neg c24]
      by_cases c25 : x = 24
      · rw [if_pos c25]
        have e := lb_full (rec := Lw_law_23 N n) hN h64 hb hK hI
        exact go2 e
      rw [if_neg c25]
      by_cases c26 : x = 25
      · rw [if_pos c26]
        have e := lb_dear (rec := Lw_law_23 N n) hN h64 hb hK hI
        exact go2 e
      rw [if_neg c26]
      by_cases c27 : x = 26
      · rw [if_pos c27]
        have e := lb_fault (rec := Lw_law_23 N n) hN h64 hb hK hI
        rw [K1.1] at e
        exact go2 e
      rw [if_neg c27]
      by_cases c28 : x = 27
      · rw [if_pos c28]
        have e := lb_robbed (rec := Lw_law_23 N n) hN h64 hb hK hI
        rw [K1.1] at e
        exact go2 e
      rw [if_neg c28]
      by_cases c29 : x = 28
      · rw [if_pos c29]
        have e := lb_front (rec := Lw_law_23 N n) hN h64 hb hK hI
        exact go2 e
      rw [if_neg c29]
      by_cases c30 : x = 29
      · rw [if_pos c30]
        have e := lb_shade (rec := Lw_law_23 N n) hN h64 hb hK hI
        rw [K1.1] at e
        exact go2 e
      rw [if_neg c30]
      by_cases c31 : x = 30
      · rw [if_pos c31]
        have e := lb_hops (rec := Lw_law_23 N n) hN h64 hb hK hI
        rw [K1.1] at e
        exact go2 e
      rw [if_neg c31]
      by_cases c32 : x = 31
      · rw [if_pos c32]
        have e := lb_see (rec := Lw_law_23 N n) hN h64 hb hK hI
        rw [K1.1] at e
        exact go2 e
      rw [if_neg c32]
      by_cases c33 : x = 32
      · rw [if_pos c33]
        have e := lb_winds (rec := Lw_law_23 N n) hN h64 hb hK hI
        rw [K1.1] at e
        exact go2 e
      rw [if_neg c33]
      by_cases c34 : x = 33
      · rw [if_pos c34]
        have e := lb_ask (rec := Lw_law_23 N n) hN h64 hb hK hI
        exact go2 e
      rw [if_neg c34]
      by_cases c35 : x = 34
      · rw [if_pos c35]
        have e := lb_chance (rec := Lw_law_23 N n) hN h64 hb hK hI
        rw [K1.1] at e
        exact go2 e
      rw [if_neg c35]
      by_cases c36 : x = 35
      · rw [if_pos c36]
        obtain ⟨M2, i2, k2, a2, b2, e⟩ := lb_rests (rec := Lw_law_23 N n) hN h64 hb hK hI
        rw [K1.1] at e
        exact go i2 k2 a2 b2 e
      rw [if_neg c36]
      by_cases c37 : x = 36
      · rw [if_pos c37]
        have e := lb_days (rec := Lw_law_23 N n) hN h64 hb hK hI
        rw [K1.1] at e
        exact go2 e
      rw [if_neg c37]
      by_cases c38 : x = 37
      · rw [if_pos c38]
        have e := lb_mark (rec := Lw_law_23 N n) hN h64 hb hK hI
        rw [K1.1] at e
        exact go2 e
      rw [if_neg c38]
      by_cases c39 : x = 38
      · rw [if_pos c39]
        have e := lb_count (rec := Lw_law_23 N n) hN h64 hb hK hI
        rw [K1.1] at e
        exact go2 e
      rw [if_neg c39]
      obtain ⟨A, hv, hq, hc, hr⟩ := hI
      rw [zx (j := j) (i := 7) (k := 7) h64 rfl (by omega), zW_e]
      exact go (M2 := M) ⟨A, hv.up (Nat.le_succ j), hq, hc, hr⟩ hK (Nat.le_succ _) (Nat.le_add_right _ _) rfl
end LOOP
