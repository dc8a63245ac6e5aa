section PAIR
variable {N n j sl : Nat} {sx : Nat → Int} {A : AK} {M M' : ZM}
def zInv (c : Nat) (M : ZM) : Prop := ∃ A, VA c A ∧ VQ A ∧ CA A M ∧ RA A M
theorem KK (h : mK M = zK0 sl sx) : mN M 102 0 = sl ∧ ∀ k, mKI M 102 0 k = sx k := ⟨congrArg (fun K : ZK => K.2.1 102 0) h, fun k => congrArg (fun K : ZK => K.2.2.1 102 0 k) h⟩
theorem VQ.e {A' : AK} (h : VQ A) (e : aP A' = aP A) : VQ A' := by
  unfold VQ at h ⊢
  rw [e]
  exact h
theorem zLI_ce {d : Nat} {tab : ZT} {pc : Nat} {ls : ZL} {st : List ZV} {x : Int} {K : ZK} (h : zLI d tab pc ls st M x M' K) (ht : tab.all zn5 = true) (hK : mK M = K) : M'.2.2.2.2 = M.2.2.2.2 ∧ mK M' = K := by
  obtain ⟨⟨n, hn⟩, h2⟩ := h
  exact ⟨zce_k (zex_ce ht hn) (h2.trans hK.symm), h2⟩
theorem zx {i : Int} {k : Nat} (hj : j ≤ 64) (hi : i = (k : Int)) (hk : k ≤ 7) : z32 (((7 * j : Nat) : Int) + i) = ((7 * j + k : Nat) : Int) := by
  subst hi
  rw [zs (by omega)]
  omega
theorem dDo_p {d x a : Int} : aP (dDo A d x a) = aP A := by
  unfold dDo
  split <;> rfl
theorem dTurn_p {x y : Int} : aP (dTurn A x y) = aP A := by
  unfold dTurn
  repeat' split
  all_goals first | rfl | exact dDo_p
theorem dUndo_p : aP (dUndo A) = aP A := by
  unfold dUndo
  split <;> rfl
theorem dSee_p {x y : Int} : aP (dSee A x y) = aP A := by
  unfold dSee
  repeat' split
  all_goals rfl
theorem dMark_p {x y : Int} : aP (dMark A x y) = aP A := by
  unfold dMark
  repeat' split
  all_goals rfl
theorem fP_p {b : Int} : aP (fP A b) = aP A := by
  unfold fP
  repeat' split
  all_goals rfl
theorem dFd_p {y : Int} : ∀ {r : Nat} {A : AK}, aP (dFd y r A) = aP A
  | 0, A => rfl
  | r + 1, A => by
    unfold dFd
    first | exact (dFd_p (r := r)).trans fP_p | exact fP_p.trans (dFd_p (r := r))
theorem dFeed_p {x y z : Int} : aP (dFeed A x y z) = aP A := by
  unfold dFeed
  rw [dFd_p, dFd_p, dFd_p]
theorem dDay_p : aP (dDay A).2 = aP A := by
  unfold dDay
  split <;> rfl
theorem CA.l1 (h : CA A M) (e1 : mK M' = mK M) (e2 : mR M' = mR M) (e3 : ∀ t i k, mI M' t i k = mI M t i k) (e4 : ∀ i k, mL M' 27 i k = mL M 27 i k) : CA A M' := by
  obtain ⟨h1, ⟨p, h2, h3⟩, h4, h5, h6, h7, h8, h9, h10⟩ := h
  exact ⟨h1.k e1, ⟨p, ⟨by rw [e2]; exact h2.1, by rw [e2]; exact h2.2⟩, h3.gg (fun t i k _ => e3 _ _ _) e4⟩, h4.g (fun t k _ => e3 _ _ _), h5.g (fun t k _ => e3 _ _ _), h6.g (fun t k _ => e3 _ _ _), fun m hm => (h7 m hm).g (e3 _ _ _) (fun t k _ => e3 _ _ _) (fun t i k _ _ => e3 _ _ _), h8.g (fun k _ => e3 _ _ _) (fun t i k _ _ _ => e3 _ _ _), h9.g (fun t i k _ => e3 _ _ _), h10.g (fun t i k _ => e3 _ _ _)⟩
theorem lb_feed {rec : Nat → Nat → Nat → Nat → Int → ZM → Option (Int × ZM)} (hN : 20000 ≤ N) (hj : j ≤ 64) (hb : 7 * j + 7 ≤ sl) (hK : mK M = zK0 sl sx) (hI : zInv j M) : ∃ M2, zInv (j + 1) M2 ∧ mK M2 = zK0 sl sx ∧ M2.2.2.2.2 = M.2.2.2.2 ∧ (zI ((0 : Int) ≤ z32 (((7 * j : Nat) : Int) + 1) ∧ z32 (((7 * j : Nat) : Int) + 1) < (mN M 102 0 : Int)) <| zI ((0 : Int) ≤ z32 (((7 * j : Nat) : Int) + 2) ∧ z32 (((7 * j : Nat) : Int) + 2) < (mN M 102 0 : Int)) <| zI ((0 : Int) ≤ z32 (((7 * j : Nat) : Int) + 3) ∧ z32 (((7 * j : Nat) : Int) + 3) < (mN M 102 0 : Int)) <| zI ((0 : Int) ≤ z32 (((7 * j : Nat) : Int) + 4) ∧ z32 (((7 * j : Nat) : Int) + 4) < (mN M 102 0 : Int)) <| zI ((0 : Int) ≤ z32 (((7 * j : Nat) : Int) + 5) ∧ z32 (((7 * j : Nat) : Int) + 5) < (mN M 102 0 : Int)) <| zI ((0 : Int) ≤ z32 (((7 * j : Nat) : Int) + 6) ∧ z32 (((7 * j : Nat) : Int) + 6) < (mN M 102 0 : Int)) <| zB (Wp_feed N 0 (z_lor (z_lshl (mKI M 102 0 (z32 (((7 * j : Nat) : Int) + 1)).toNat) 32) (z_land (mKI M 102 0 (z32 (((7 * j : Nat) : Int) + 2)).toNat) 4294967295)) (z_lor (z_lshl (mKI M 102 0 (z32 (((7 * j : Nat) : Int) + 3)).toNat) 32) (z_land (mKI M 102 0 (z32 (((7 * j : Nat) : Int) + 4)).toNat) 4294967295)) (z_lor (z_lshl (mKI M 102 0 (z32 (((7 * j : Nat) : Int) + 5)).toNat) 32) (z_land (mKI M 102 0 (z32 (((7 * j : Nat) : Int) + 6)).toNat) 4294967295)) M) fun v101 M101 => zI ((0 : Int) ≤ z32 (((7 * j : Nat) : Int) + 1) ∧ z32 (((7 * j : Nat) : Int) + 1) < (mN M101 102 0 : Int)) <| zI ((0 : Int) ≤ z32 (((7 * j : Nat) : Int) + 2) ∧ z32 (((7 * j : Nat) : Int) + 2) < (mN M101 102 0 : Int)) <| zI ((0 : Int) ≤ z32 (((7 * j : Nat) : Int) + 3) ∧ z32 (((7 * j : Nat) : Int) + 3) < (mN M101 102 0 : Int)) <| zI ((0 : Int) ≤ z32 (((7 * j : Nat) : Int) + 4) ∧ z32 (((7 * j : Nat) : Int) + 4) < (mN M101 102 0 : Int)) <| zI ((0 : Int) ≤ z32 (((7 * j : Nat) : Int) + 5) ∧ z32 (((7 * j : Nat) : Int) + 5) < (mN M101 102 0 : Int)) <| zI ((0 : Int) ≤ z32 (((7 * j : Nat) : Int) + 6) ∧ z32 (((7 * j : Nat) : Int) + 6) < (mN M101 102 0 : Int)) <| zB (Mo_feed N 0 (z_lor (z_lshl (mKI M101 102 0 (z32 (((7 * j : Nat) : Int) + 1)).toNat) 32) (z_land (mKI M101 102 0 (z32 (((7 * j : Nat) : Int) + 2)).toNat) 4294967295)) (z_lor (z_lshl (mKI M101 102 0 (z32 (((7 * j : Nat) : Int) + 3)).toNat) 32) (z_land (mKI M101 102 0 (z32 (((7 * j : Nat) : Int) + 4)).toNat) 4294967295)) (z_lor (z_lshl (mKI M101 102 0 (z32 (((7 * j : Nat) : Int) + 5)).toNat) 32) (z_land (mKI M101 102 0 (z32 (((7 * j : Nat) : Int) + 6)).toNat) 4294967295)) M101) fun v102 M102 => if v101 = v102 then zW (z32 (((7 * j : Nat) : Int) + 7)) fun x103 => rec 0 0 0 0 x103 M102 else some (0, M102)) = rec 0 0 0 0 ((7 * j + 7 : Nat) : Int) M2 := by
  obtain ⟨A, hv, hq, hc, hr⟩ := hI
  have K1 := KK hK
  simp only [zx (j := j) (i := 1) (k := 1) hj rfl (by omega), zx (j := j) (i := 2) (k := 2) hj rfl (by omega), zx (j := j) (i := 3) (k := 3) hj rfl (by omega), zx (j := j) (i := 4) (k := 4) hj rfl (by omega), zx (j := j) (i := 5) (k := 5) hj rfl (by omega), zx (j := j) (i := 6) (k := 6) hj rfl (by omega), zx (j := j) (i := 7) (k := 7) hj rfl (by omega), K1.1, K1.2, Int.toNat_natCast]
  rw [zI_t (by omega), zI_t (by omega), zI_t (by omega), zI_t (by omega), zI_t (by omega), zI_t (by omega)]
  obtain ⟨M1, e1, c1, f1⟩ := w_feed (N := N) hc hv (by omega) (z_lor (z_lshl (sx (7 * j + 1)) 32) (z_land (sx (7 * j + 2)) 4294967295)) (z_lor (z_lshl (sx (7 * j + 3)) 32) (z_land (sx (7 * j + 4)) 4294967295)) (z_lor (z_lshl (sx (7 * j + 5)) 32) (z_land (sx (7 * j + 6)) 4294967295))
  have hr1 := hr.cl f1
  have s1 := zLI_ce (L_Wp_feed (d := 0) e1 hK) (zG_5 (mi := 97) rfl) hK
  rw [e1, zB_s]
  obtain ⟨M2, e2, r2, f2⟩ := m_feed (N := N) hr1 hv (by omega) (z_lor (z_lshl (sx (7 * j + 1)) 32) (z_land (sx (7 * j + 2)) 4294967295)) (z_lor (z_lshl (sx (7 * j + 3)) 32) (z_land (sx (7 * j + 4)) 4294967295)) (z_lor (z_lshl (sx (7 * j + 5)) 32) (z_land (sx (7 * j + 6)) 4294967295))
  have s2 := zLI_ce (L_Mo_feed (d := 0) e2 s1.2) (zG_5 (mi := 153) rfl) s1.2
  have K2 := KK s1.2
  simp only [K2.1, K2.2]
  rw [zI_t (by omega), zI_t (by omega), zI_t (by omega), zI_t (by omega), zI_t (by omega), zI_t (by omega)]
  rw [e2, zB_s, if_pos rfl, zW_e]
  exact ⟨M2, ⟨dFeed A (z_lor (z_lshl (sx (7 * j + 1)) 32) (z_land (sx (7 * j + 2)) 4294967295)) (z_lor (z_lshl (sx (7 * j + 3)) 32) (z_land (sx (7 * j + 4)) 4294967295)) (z_lor (z_lshl (sx (7 * j + 5)) 32) (z_land (sx (7 * j + 6)) 4294967295)), dFeed_v hv, hq.e dFeed_p, c1.rl f2, r2⟩, s2.2, s2.1.trans s1.1, rfl⟩
theorem lb_park {rec : Nat → Nat → Nat → Nat → Int → ZM → Option (Int × ZM)} (hN : 20000 ≤ N) (hj : j ≤ 64) (hb : 7 * j + 7 ≤ sl) (hK : mK M = zK0 sl sx) (hI : zInv j M) : ∃ M2, zInv (j + 1) M2 ∧ mK M2 = zK0 sl sx ∧ M2.2.2.2.2 = M.2.2.2.2 ∧ (zB (Wp_park N 0 M) fun v104 M104 => zB (Mo_park N 0 M104) fun v105 M105 => if v104 = v105 then zW (z32 (((7 * j : Nat) : Int) + 7)) fun x106 => rec 0 0 0 0 x106 M105 else some (0, M105)) = rec 0 0 0 0 ((7 * j + 7 : Nat) : Int) M2 := by
  obtain ⟨A, hv, hq, hc, hr⟩ := hI
  have K1 := KK hK
  simp only [zx (j := j) (i := 1) (k := 1) hj rfl (by omega), zx (j := j) (i := 2) (k := 2) hj rfl (by omega), zx (j := j) (i := 3) (k := 3) hj rfl (by omega), zx (j := j) (i := 4) (k := 4) hj rfl (by omega), zx (j := j) (i := 5) (k := 5) hj rfl (by omega), zx (j := j) (i := 6) (k := 6) hj rfl (by omega), zx (j := j) (i := 7) (k := 7) hj rfl (by omega)]
  obtain ⟨M1, e1, c1, f1⟩ := w_park (N := N) hc hv (by omega)
  have hr1 := hr.cl f1
  have s1 := zLI_ce (L_Wp_park (d := 0) e1 hK) (zG_5 (mi := 98) rfl) hK
  rw [e1, zB_s]
  obtain ⟨M2, e2, r2, f2⟩ := m_park (N := N) hr1 hv (by omega)
  have s2 := zLI_ce (L_Mo_park (d := 0) e2 s1.2) (zG_5 (mi := 191) rfl) s1.2
  rw [e2, zB_s, if_pos rfl, zW_e]
  exact ⟨M2, ⟨(dPark A).2, (dPark_v hv hq).1, (dPark_v hv hq).2, c1.rl f2, r2⟩, s2.2, s2.1.trans s1.1, rfl⟩
theorem lb_day {rec : Nat → Nat → Nat → Nat → Int → ZM → Option (Int × ZM)} (hN : 20000 ≤ N) (hj : j ≤ 64) (hb : 7 * j + 7 ≤ sl) (hK : mK M = zK0 sl sx) (hI : zInv j M) : ∃ M2, zInv (j + 1) M2 ∧ mK M2 = zK0 sl sx ∧ M2.2.2.2.2 = M.2.2.2.2 ∧ (zB (Wp_day N 0 M) fun v107 M107 => zB (Mo_day N 0 M107) fun v108 M108 => if v107 = v108 then zW (z32 (((7 * j : Nat) : Int) + 7)) fun x109 => rec 0 0 0 0 x109 M108 else some (0, M108)) = rec 0 0 0 0 ((7 * j + 7 : Nat) : Int) M2 := by
  obtain ⟨A, hv, hq, hc, hr⟩ := hI
  have K1 := KK hK
  simp only [zx (j := j) (i := 1) (k := 1) hj rfl (by omega), zx (j := j) (i := 2) (k := 2) hj rfl (by omega), zx (j := j) (i := 3) (k := 3) hj rfl (by omega), zx (j := j) (i := 4) (k := 4) hj rfl (by omega), zx (j := j) (i := 5) (k := 5) hj rfl (by omega), zx (j := j) (i := 6) (k := 6) hj rfl (by omega), zx (j := j) (i := 7) (k := 7) hj rfl (by omega)]
  obtain ⟨M1, e1, c1, f1⟩ := w_day (N := N) hc hv (by omega)
  have hr1 := hr.cl f1
  have s1 := zLI_ce (L_Wp_day (d := 0) e1 hK) (zG_5 (mi := 99) rfl) hK
  rw [e1, zB_s]
  obtain ⟨M2, e2, r2, f2⟩ := m_day (N := N) hr1 hv hq (by omega)
  have s2 := zLI_ce (L_Mo_day (d := 0) e2 s1.2) (zG_5 (mi := 192) rfl) s1.2
  rw [e2, zB_s, if_pos rfl, zW_e]
  exact ⟨M2, ⟨(dDay A).2, dDay_v hv, hq.e dDay_p, c1.rl f2, r2⟩, s2.2, s2.1.trans s1.1, rfl⟩
theorem lb_turbine {rec : Nat → Nat → Nat → Nat → Int → ZM → Option (Int × ZM)} (hN : 20000 ≤ N) (hj : j ≤ 64) (hb : 7 * j + 7 ≤ sl) (hK : mK M = zK0 sl sx) (hI : zInv j M) : ∃ M2, zInv (j + 1) M2 ∧ mK M2 = zK0 sl sx ∧ M2.2.2.2.2 = M.2.2.2.2 ∧ (zI ((0 : Int) ≤ z32 (((7 * j : Nat) : Int) + 1) ∧ z32 (((7 * j : Nat) : Int) + 1) < (mN M 102 0 : Int)) <| zI ((0 : Int) ≤ z32 (((7 * j : Nat) : Int) + 2) ∧ z32 (((7 * j : Nat) : Int) + 2) < (mN M 102 0 : Int)) <| zB (Wp_turbine N 0 (mKI M 102 0 (z32 (((7 * j : Nat) : Int) + 1)).toNat) (mKI M 102 0 (z32 (((7 * j : Nat) : Int) + 2)).toNat) M) fun v110 M110 => zI ((0 : Int) ≤ z32 (((7 * j : Nat) : Int) + 1) ∧ z32 (((7 * j : Nat) : Int) + 1) < (mN M110 102 0 : Int)) <| zI ((0 : Int) ≤ z32 (((7 * j : Nat) : Int) + 2) ∧ z32 (((7 * j : Nat) : Int) + 2) < (mN M110 102 0 : Int)) <| zB (Mo_turbine N 0 (mKI M110 102 0 (z32 (((7 * j : Nat) : Int) + 1)).toNat) (mKI M110 102 0 (z32 (((7 * j : Nat) : Int) + 2)).toNat) M110) fun v111 M111 => if v110 = v111 then zW (z32 (((7 * j : Nat) : Int) + 7)) fun x112 => rec 0 0 0 0 x112 M111 else some (0, M111)) = rec 0 0 0 0 ((7 * j + 7 : Nat) : Int) M2 := by
  obtain ⟨A, hv, hq, hc, hr⟩ := hI
  have K1 := KK hK
  simp only [zx (j := j) (i := 1) (k := 1) hj rfl (by omega), zx (j := j) (i := 2) (k := 2) hj rfl (by omega), zx (j := j) (i := 3) (k := 3) hj rfl (by omega), zx (j := j) (i := 4) (k := 4) hj rfl (by omega), zx (j := j) (i := 5) (k := 5) hj rfl (by omega), zx (j := j) (i := 6) (k := 6) hj rfl (by omega), zx (j := j) (i := 7) (k := 7) hj rfl (by omega), K1.1, K1.2, Int.toNat_natCast]
  rw [zI_t (by omega), zI_t (by omega)]
  have e1 := w_turbine (N := N) hc hv (sx (7 * j + 1)) (sx (7 * j + 2))
  have hr1 := hr
  have s1 := zLI_ce (L_Wp_turbine (d := 0) e1 hK) (zG_5 (mi := 100) rfl) hK
  have c1 := hc
  rw [e1, zB_s]
  obtain ⟨M2, e2, r2, f2⟩ := m_turbine (N := N) hr1 hv (sx (7 * j + 1)) (sx (7 * j + 2))
  have s2 := zLI_ce (L_Mo_turbine (d := 0) e2 s1.2) (zG_5 (mi := 213) rfl) s1.2
  simp only [K1.1, K1.2]
  rw [zI_t (by omega), zI_t (by omega)]
  rw [e2, zB_s, if_pos rfl, zW_e]
  exact ⟨M2, ⟨A, hv.up (Nat.le_succ j), hq, c1.rl f2, r2⟩, s2.2, s2.1.trans s1.1, rfl⟩
theorem lb_wind {rec : Nat → Nat → Nat → Nat → Int → ZM → Option (Int × ZM)} (hN : 20000 ≤ N) (hj : j ≤ 64) (hb : 7 * j + 7 ≤ sl) (hK : mK M = zK0 sl sx) (hI : zInv j M) : ∃ M2, zInv (j + 1) M2 ∧ mK M2 = zK0 sl sx ∧ M2.2.2.2.2 = M.2.2.2.2 ∧ (zI ((0 : Int) ≤ z32 (((7 * j : Nat) : Int) + 1) ∧ z32 (((7 * j : Nat) : Int) + 1) < (mN M 102 0 : Int)) <| zB (Wp_wind N 0 (mKI M 102 0 (z32 (((7 * j : Nat) : Int) + 1)).toNat) M) fun v113 M113 => zI ((0 : Int) ≤ z32 (((7 * j : Nat) : Int) + 1) ∧ z32 (((7 * j : Nat) : Int) + 1) < (mN M113 102 0 : Int)) <| zB (Mo_wind N 0 (mKI M113 102 0 (z32 (((7 * j : Nat) : Int) + 1)).toNat) M113) fun v114 M114 => if v113 = v114 then zW (z32 (((7 * j : Nat) : Int) + 7)) fun x115 => rec 0 0 0 0 x115 M114 else some (0, M114)) = rec 0 0 0 0 ((7 * j + 7 : Nat) : Int) M2 := by
  obtain ⟨A, hv, hq, hc, hr⟩ := hI
  have K1 := KK hK
  simp only [zx (j := j) (i := 1) (k := 1) hj rfl (by omega), zx (j := j) (i := 2) (k := 2) hj rfl (by omega), zx (j := j) (i := 3) (k := 3) hj rfl (by omega), zx (j := j) (i := 4) (k := 4) hj rfl (by omega), zx (j := j) (i := 5) (k := 5) hj rfl (by omega), zx (j := j) (i := 6) (k := 6) hj rfl (by omega), zx (j := j) (i := 7) (k := 7) hj rfl (by omega), K1.1, K1.2, Int.toNat_natCast]
  rw [zI_t (by omega)]
  obtain ⟨M1, e1, g1⟩ := w_wind (N := N) hc hv (by omega) (sx (7 * j + 1))
  have c1 := hc.fx g1
  have f1 : zCl M M1 := g1.cl fX_rk
  have hr1 := hr.cl f1
  have s1 := zLI_ce (L_Wp_wind (d := 0) e1 hK) (zG_5 (mi := 101) rfl) hK
  rw [e1, zB_s]
  obtain ⟨M2, e2, r2, f2⟩ := m_wind (N := N) hr1 hv (by omega) (sx (7 * j + 1))
  have s2 := zLI_ce (L_Mo_wind (d := 0) e2 s1.2) (zG_5 (mi := 214) rfl) s1.2
  have K2 := KK s1.2
  simp only [K2.1, K2.2]
  rw [zI_t (by omega)]
  rw [e2, zB_s, if_pos rfl, zW_e]
  exact ⟨M2, ⟨A, hv.up (Nat.le_succ j), hq, c1.rl f2, r2⟩, s2.2, s2.1.trans s1.1, rfl⟩
theorem lb_power {rec : Nat → Nat → Nat → Nat → Int → ZM → Option (Int × ZM)} (hN : 20000 ≤ N) (hj : j ≤ 64) (hb : 7 * j + 7 ≤ sl) (hK : mK M = zK0 sl sx) (hI : zInv j M) : ∃ M2, zInv (j + 1) M2 ∧ mK M2 = zK0 sl sx ∧ M2.2.2.2.2 = M.2.2.2.2 ∧ (zI ((0 : Int) ≤ z32 (((7 * j : Nat) : Int) + 1) ∧ z32 (((7 * j : Nat) : Int) + 1) < (mN M 102 0 : Int)) <| zB (Wp_power N 0 (mKI M 102 0 (z32 (((7 * j : Nat) : Int) + 1)).toNat) M) fun v116 M116 => zI ((0 : Int) ≤ z32 (((7 * j : Nat) : Int) + 1) ∧ z32 (((7 * j : Nat) : Int) + 1) < (mN M116 102 0 : Int)) <| zB (Mo_power N 0 (mKI M116 102 0 (z32 (((7 * j : Nat) : Int) + 1)).toNat) M116) fun v117 M117 => if v116 = v117 then zW (z32 (((7 * j : Nat) : Int) + 7)) fun x118 => rec 0 0 0 0 x118 M117 else some (0, M117)) = rec 0 0 0 0 ((7 * j + 7 : Nat) : Int) M2 := by
  obtain ⟨A, hv, hq, hc, hr⟩ := hI
  have K1 := KK hK
  simp only [zx (j := j) (i := 1) (k := 1) hj rfl (by omega), zx (j := j) (i := 2) (k := 2) hj rfl (by omega), zx (j := j) (i := 3) (k := 3) hj rfl (by omega), zx (j := j) (i := 4) (k := 4) hj rfl (by omega), zx (j := j) (i := 5) (k := 5) hj rfl (by omega), zx (j := j) (i := 6) (k := 6) hj rfl (by omega), zx (j := j) (i := 7) (k := 7) hj rfl (by omega), K1.1, K1.2, Int.toNat_natCast]
  rw [zI_t (by omega)]
  obtain ⟨M1, e1, g1⟩ := w_power (N := N) hc hv (by omega) (sx (7 * j + 1))
  have c1 := hc.fx g1
  have f1 : zCl M M1 := g1.cl fX_rk
  have hr1 := hr.cl f1
  have s1 := zLI_ce (L_Wp_power (d := 0) e1 hK) (zG_5 (mi := 102) rfl) hK
  rw [e1, zB_s]
  obtain ⟨M2, e2, r2, f2⟩ := m_power (N := N) hr1 hv (by omega) (sx (7 * j + 1))
  have s2 := zLI_ce (L_Mo_power (d := 0) e2 s1.2) (zG_5 (mi := 215) rfl) s1.2
  have K2 := KK s1.2
  simp only [K2.1, K2.2]
  rw [zI_t (by omega)]
  rw [e2, zB_s, if_pos rfl, zW_e]
  exact ⟨M2, ⟨A, hv.up (Nat.le_succ j), hq, c1.rl f2, r2⟩, s2.2, s2.1.trans s1.1, rfl⟩
theorem lb_carried {rec : Nat → Nat → Nat → Nat → Int → ZM → Option (Int × ZM)} (hN : 20000 ≤ N) (hj : j ≤ 64) (hb : 7 * j + 7 ≤ sl) (hK : mK M = zK0 sl sx) (hI : zInv j M) : ∃ M2, zInv (j + 1) M2 ∧ mK M2 = zK0 sl sx ∧ M2.2.2.2.2 = M.2.2.2.2 ∧ (zI ((0 : Int) ≤ z32 (((7 * j : Nat) : Int) + 1) ∧ z32 (((7 * j : Nat) : Int) + 1) < (mN M 102 0 : Int)) <| zB (Wp_carried N 0 (mKI M 102 0 (z32 (((7 * j : Nat) : Int) + 1)).toNat) M) fun v119 M119 => zI ((0 : Int) ≤ z32 (((7 * j : Nat) : Int) + 1) ∧ z32 (((7 * j : Nat) : Int) + 1) < (mN M119 102 0 : Int)) <| zB (Mo_carried N 0 (mKI M119 102 0 (z32 (((7 * j : Nat) : Int) + 1)).toNat) M119) fun v120 M120 => if v119 = v120 then zW (z32 (((7 * j : Nat) : Int) + 7)) fun x121 => rec 0 0 0 0 x121 M120 else some (0, M120)) = rec 0 0 0 0 ((7 * j + 7 : Nat) : Int) M2 := by
  obtain ⟨A, hv, hq, hc, hr⟩ := hI
  have K1 := KK hK
  simp only [zx (j := j) (i := 1) (k := 1) hj rfl (by omega), zx (j := j) (i := 2) (k := 2) hj rfl (by omega), zx (j := j) (i := 3) (k := 3) hj rfl (by omega), zx (j := j) (i := 4) (k := 4) hj rfl (by omega), zx (j := j) (i := 5) (k := 5) hj rfl (by omega), zx (j := j) (i := 6) (k := 6) hj rfl (by omega), zx (j := j) (i := 7) (k := 7) hj rfl (by omega), K1.1, K1.2, Int.toNat_natCast]
  rw [zI_t (by omega)]
  obtain ⟨M1, e1, g1⟩ := w_carried (N := N) hc hv (by omega) (sx (7 * j + 1))
  have c1 := hc.fx g1
  have f1 : zCl M M1 := g1.cl fX_rk
  have hr1 := hr.cl f1
  have s1 := zLI_ce (L_Wp_carried (d := 0) e1 hK) (zG_5 (mi := 103) rfl) hK
  rw [e1, zB_s]
  obtain ⟨M2, e2, r2, f2⟩ := m_carried (N := N) hr1 hv (by omega) (sx (7 * j + 1))
  have s2 := zLI_ce (L_Mo_carried (d := 0) e2 s1.2) (zG_5 (mi := 216) rfl) s1.2
  have K2 := KK s1.2
  simp only [K2.1, K2.2]
  rw [zI_t (by omega)]
  rw [e2, zB_s, if_pos rfl, zW_e]
  exact ⟨M2, ⟨A, hv.up (Nat.le_succ j), hq, c1.rl f2, r2⟩, s2.2, s2.1.trans s1.1, rfl⟩
theorem lb_home {rec : Nat → Nat → Nat → Nat → Int → ZM → Option (Int × ZM)} (hN : 20000 ≤ N) (hj : j ≤ 64) (hb : 7 * j + 7 ≤ sl) (hK : mK M = zK0 sl sx) (hI : zInv j M) : ∃ M2, zInv (j + 1) M2 ∧ mK M2 = zK0 sl sx ∧ M2.2.2.2.2 = M.2.2.2.2 ∧ (zB (Wp_home N 0 M) fun v122 M122 => zB (Mo_home N 0 M122) fun v123 M123 => if v122 = v123 then zW (z32 (((7 * j : Nat) : Int) + 7)) fun x124 => rec 0 0 0 0 x124 M123 else some (0, M123)) = rec 0 0 0 0 ((7 * j + 7 : Nat) : Int) M2 := by
  obtain ⟨A, hv, hq, hc, hr⟩ := hI
  have K1 := KK hK
  simp only [zx (j := j) (i := 1) (k := 1) hj rfl (by omega), zx (j := j) (i := 2) (k := 2) hj rfl (by omega), zx (j := j) (i := 3) (k := 3) hj rfl (by omega), zx (j := j) (i := 4) (k := 4) hj rfl (by omega), zx (j := j) (i := 5) (k := 5) hj rfl (by omega), zx (j := j) (i := 6) (k := 6) hj rfl (by omega), zx (j := j) (i := 7) (k := 7) hj rfl (by omega)]
  obtain ⟨M1, e1, g1⟩ := w_home (N := N) hc hv (by omega)
  have c1 := hc.fx g1
  have f1 : zCl M M1 := g1.cl fX_rk
  have hr1 := hr.cl f1
  have s1 := zLI_ce (L_Wp_home (d := 0) e1 hK) (zG_5 (mi := 104) rfl) hK
  rw [e1, zB_s]
  obtain ⟨M2, e2, r2, f2⟩ := m_home (N := N) hr1 hv (by omega)
  have s2 := zLI_ce (L_Mo_home (d := 0) e2 s1.2) (zG_5 (mi := 217) rfl) s1.2
  rw [e2, zB_s, if_pos rfl, zW_e]
  exact ⟨M2, ⟨A, hv.up (Nat.le_succ j), hq, c1.rl f2, r2⟩, s2.2, s2.1.trans s1.1, rfl⟩
theorem lb_turn {rec : Nat → Nat → Nat → Nat → Int → ZM → Option (Int × ZM)} (hN : 20000 ≤ N) (hj : j ≤ 64) (hb : 7 * j + 7 ≤ sl) (hK : mK M = zK0 sl sx) (hI : zInv j M) : ∃ M2, zInv (j + 1) M2 ∧ mK M2 = zK0 sl sx ∧ M2.2.2.2.2 = M.2.2.2.2 ∧ (zI ((0 : Int) ≤ z32 (((7 * j : Nat) : Int) + 1) ∧ z32 (((7 * j : Nat) : Int) + 1) < (mN M 102 0 : Int)) <| zI ((0 : Int) ≤ z32 (((7 * j : Nat) : Int) + 2) ∧ z32 (((7 * j : Nat) : Int) + 2) < (mN M 102 0 : Int)) <| zB (Wp_turn N 0 (mKI M 102 0 (z32 (((7 * j : Nat) : Int) + 1)).toNat) (mKI M 102 0 (z32 (((7 * j : Nat) : Int) + 2)).toNat) M) fun v125 M125 => zI ((0 : Int) ≤ z32 (((7 * j : Nat) : Int) + 1) ∧ z32 (((7 * j : Nat) : Int) + 1) < (mN M125 102 0 : Int)) <| zI ((0 : Int) ≤ z32 (((7 * j : Nat) : Int) + 2) ∧ z32 (((7 * j : Nat) : Int) + 2) < (mN M125 102 0 : Int)) <| zB (Mo_turn N 0 (mKI M125 102 0 (z32 (((7 * j : Nat) : Int) + 1)).toNat) (mKI M125 102 0 (z32 (((7 * j : Nat) : Int) + 2)).toNat) M125) fun v126 M126 => if v125 = v126 then zW (z32 (((7 * j : Nat) : Int) + 7)) fun x127 => rec 0 0 0 0 x127 M126 else some (0, M126)) = rec 0 0 0 0 ((7 * j + 7 : Nat) : Int) M2 := by
  obtain ⟨A, hv, hq, hc, hr⟩ := hI
  have K1 := KK hK
  simp only [zx (j := j) (i := 1) (k := 1) hj rfl (by omega), zx (j := j) (i := 2) (k := 2) hj rfl (by omega), zx (j := j) (i := 3) (k := 3) hj rfl (by omega), zx (j := j) (i := 4) (k := 4) hj rfl (by omega), zx (j := j) (i := 5) (k := 5) hj rfl (by omega), zx (j := j) (i := 6) (k := 6) hj rfl (by omega), zx (j := j) (i := 7) (k := 7) hj rfl (by omega), K1.1, K1.2, Int.toNat_natCast]
  rw [zI_t (by omega), zI_t (by omega)]
  obtain ⟨M1, e1, c1, f1⟩ := w_turn (N := N) hc hv (by omega) (sx (7 * j + 1)) (sx (7 * j + 2))
  have hr1 := hr.cl f1
  have s1 := zLI_ce (L_Wp_turn (d := 0) e1 hK) (zG_5 (mi := 105) rfl) hK
  rw [e1, zB_s]
  obtain ⟨M2, e2, r2, f2⟩ := m_turn (N := N) hr1 hv (by omega) (sx (7 * j + 1)) (sx (7 * j + 2))
  have s2 := zLI_ce (L_Mo_turn (d := 0) e2 s1.2) (zG_5 (mi := 219) rfl) s1.2
  have K2 := KK s1.2
  simp only [K2.1, K2.2]
  rw [zI_t (by omega), zI_t (by omega)]
  rw [e2, zB_s, if_pos rfl, zW_e]
  exact ⟨M2, ⟨dTurn A (sx (7 * j + 1)) (sx (7 * j + 2)), dTurn_v hv, hq.e dTurn_p, c1.rl f2, r2⟩, s2.2, s2.1.trans s1.1, rfl⟩
theorem lb_shut {rec : Nat → Nat → Nat → Nat → Int → ZM → Option (Int × ZM)} (hN : 20000 ≤ N) (hj : j ≤ 64) (hb : 7 * j + 7 ≤ sl) (hK : mK M = zK0 sl sx) (hI : zInv j M) : ∃ M2, zInv (j + 1) M2 ∧ mK M2 = zK0 sl sx ∧ M2.2.2.2.2 = M.2.2.2.2 ∧ (zI ((0 : Int) ≤ z32 (((7 * j : Nat) : Int) + 1) ∧ z32 (((7 * j : Nat) : Int) + 1) < (mN M 102 0 : Int)) <| zB (Wp_shut N 0 (mKI M 102 0 (z32 (((7 * j : Nat) : Int) + 1)).toNat) M) fun v128 M128 => zI ((0 : Int) ≤ z32 (((7 * j : Nat) : Int) + 1) ∧ z32 (((7 * j : Nat) : Int) + 1) < (mN M128 102 0 : Int)) <| zB (Mo_shut N 0 (mKI M128 102 0 (z32 (((7 * j : Nat) : Int) + 1)).toNat) M128) fun v129 M129 => if v128 = v129 then zW (z32 (((7 * j : Nat) : Int) + 7)) fun x130 => rec 0 0 0 0 x130 M129 else some (0, M129)) = rec 0 0 0 0 ((7 * j + 7 : Nat) : Int) M2 := by
  obtain ⟨A, hv, hq, hc, hr⟩ := hI
  have K1 := KK hK
  simp only [zx (j := j) (i := 1) (k := 1) hj rfl (by omega), zx (j := j) (i := 2) (k := 2) hj rfl (by omega), zx (j := j) (i := 3) (k := 3) hj rfl (by omega), zx (j := j) (i := 4) (k := 4) hj rfl (by omega), zx (j := j) (i := 5) (k := 5) hj rfl (by omega), zx (j := j) (i := 6) (k := 6) hj rfl (by omega), zx (j := j) (i := 7) (k := 7) hj rfl (by omega), K1.1, K1.2, Int.toNat_natCast]
  rw [zI_t (by omega)]
  obtain ⟨M1, e1, c1, f1⟩ := w_shut (N := N) hc hv (by omega) (sx (7 * j + 1))
  have hr1 := hr.cl f1
  have s1 := zLI_ce (L_Wp_shut (d := 0) e1 hK) (zG_5 (mi := 106) rfl) hK
  rw [e1, zB_s]
  obtain ⟨M2, e2, r2, f2⟩ := m_shut (N := N) hr1 hv (by omega) (sx (7 * j + 1))
  have s2 := zLI_ce (L_Mo_shut (d := 0) e2 s1.2) (zG_5 (mi := 222) rfl) s1.2
  have K2 := KK s1.2
  simp only [K2.1, K2.2]
  rw [zI_t (by omega)]
  rw [e2, zB_s, if_pos rfl, zW_e]
  exact ⟨M2, ⟨dDo A 1 (sx (7 * j + 1)) 0, dDo_v hv (by omega), hq.e dDo_p, c1.rl f2, r2⟩, s2.2, s2.1.trans s1.1, rfl⟩
theorem lb_open {rec : Nat → Nat → Nat → Nat → Int → ZM → Option (Int × ZM)} (hN : 20000 ≤ N) (hj : j ≤ 64) (hb : 7 * j + 7 ≤ sl) (hK : mK M = zK0 sl sx) (hI : zInv j M) : ∃ M2, zInv (j + 1) M2 ∧ mK M2 = zK0 sl sx ∧ M2.2.2.2.2 = M.2.2.2.2 ∧ (zI ((0 : Int) ≤ z32 (((7 * j : Nat) : Int) + 1) ∧ z32 (((7 * j : Nat) : Int) + 1) < (mN M 102 0 : Int)) <| zB (Wp_open N 0 (mKI M 102 0 (z32 (((7 * j : Nat) : Int) + 1)).toNat) M) fun v131 M131 => zI ((0 : Int) ≤ z32 (((7 * j : Nat) : Int) + 1) ∧ z32 (((7 * j : Nat) : Int) + 1) < (mN M131 102 0 : Int)) <| zB (Mo_open N 0 (mKI M131 102 0 (z32 (((7 * j : Nat) : Int) + 1)).toNat) M131) fun v132 M132 => if v131 = v132 then zW (z32 (((7 * j : Nat) : Int) + 7)) fun x133 => rec 0 0 0 0 x133 M132 else some (0, M132)) = rec 0 0 0 0 ((7 * j + 7 : Nat) : Int) M2 := by
  obtain ⟨A, hv, hq, hc, hr⟩ := hI
  have K1 := KK hK
  simp only [zx (j := j) (i := 1) (k := 1) hj rfl (by omega), zx (j := j) (i := 2) (k := 2) hj rfl (by omega), zx (j := j) (i := 3) (k := 3) hj rfl (by omega), zx (j := j) (i := 4) (k := 4) hj rfl (by omega), zx (j := j) (i := 5) (k := 5) hj rfl (by omega), zx (j := j) (i := 6) (k := 6) hj rfl (by omega), zx (j := j) (i := 7) (k := 7) hj rfl (by omega), K1.1, K1.2, Int.toNat_natCast]
  rw [zI_t (by omega)]
  obtain ⟨M1, e1, c1, f1⟩ := w_open (N := N) hc hv (by omega) (sx (7 * j + 1))
  have hr1 := hr.cl f1
  have s1 := zLI_ce (L_Wp_open (d := 0) e1 hK) (zG_5 (mi := 107) rfl) hK
  rw [e1, zB_s]
  obtain ⟨M2, e2, r2, f2⟩ := m_open (N := N) hr1 hv (by omega) (sx (7 * j + 1))
  have s2 := zLI_ce (L_Mo_open (d := 0) e2 s1.2) (zG_5 (mi := 223) rfl) s1.2
  have K2 := KK s1.2
  simp only [K2.1, K2.2]
  rw [zI_t (by omega)]
  rw [e2, zB_s, if_pos rfl, zW_e]
  exact ⟨M2, ⟨dDo A 2 (sx (7 * j + 1)) 0, dDo_v hv (by omega), hq.e dDo_p, c1.rl f2, r2⟩, s2.2, s2.1.trans s1.1, rfl⟩
theorem lb_mend {rec : Nat → Nat → Nat → Nat → Int → ZM → Option (Int × ZM)} (hN : 20000 ≤ N) (hj : j ≤ 64) (hb : 7 * j + 7 ≤ sl) (hK : mK M = zK0 sl sx) (hI : zInv j M) : ∃ M2, zInv (j + 1) M2 ∧ mK M2 = zK0 sl sx ∧ M2.2.2.2.2 = M.2.2.2.2 ∧ (zI ((0 : Int) ≤ z32 (((7 * j : Nat) : Int) + 1) ∧ z32 (((7 * j : Nat) : Int) + 1) < (mN M 102 0 : Int)) <| zB (Wp_mend N 0 (mKI M 102 0 (z32 (((7 * j : Nat) : Int) + 1)).toNat) M) fun v134 M134 => zI ((0 : Int) ≤ z32 (((7 * j : Nat) : Int) + 1) ∧ z32 (((7 * j : Nat) : Int) + 1) < (mN M134 102 0 : Int)) <| zB (Mo_mend N 0 (mKI M134 102 0 (z32 (((7 * j : Nat) : Int) + 1)).toNat) M134) fun v135 M135 => if v134 = v135 then zW (z32 (((7 * j : Nat) : Int) + 7)) fun x136 => rec 0 0 0 0 x136 M135 else some (0, M135)) = rec 0 0 0 0 ((7 * j + 7 : Nat) : Int) M2 := by
  obtain ⟨A, hv, hq, hc, hr⟩ := hI
  have K1 := KK hK
  simp only [zx (j := j) (i := 1) (k := 1) hj rfl (by omega), zx (j := j) (i := 2) (k := 2) hj rfl (by omega), zx (j := j) (i := 3) (k := 3) hj rfl (by omega), zx (j := j) (i := 4) (k := 4) hj rfl (by omega), zx (j := j) (i := 5) (k := 5) hj rfl (by omega), zx (j := j) (i := 6) (k := 6) hj rfl (by omega), zx (j := j) (i := 7) (k := 7) hj rfl (by omega), K1.1, K1.2, Int.toNat_natCast]
  rw [zI_t (by omega)]
  obtain ⟨M1, e1, c1, f1⟩ := w_mend (N := N) hc hv (by omega) (sx (7 * j + 1))
  have hr1 := hr.cl f1
  have s1 := zLI_ce (L_Wp_mend (d := 0) e1 hK) (zG_5 (mi := 108) rfl) hK
  rw [e1, zB_s]
  obtain ⟨M2, e2, r2, f2⟩ := m_mend (N := N) hr1 hv (by omega) (sx (7 * j + 1))
  have s2 := zLI_ce (L_Mo_mend (d := 0) e2 s1.2) (zG_5 (mi := 224) rfl) s1.2
  have K2 := KK s1.2
  simp only [K2.1, K2.2]
  rw [zI_t (by omega)]
  rw [e2, zB_s, if_pos rfl, zW_e]
  exact ⟨M2, ⟨dDo A 3 (sx (7 * j + 1)) 0, dDo_v hv (by omega), hq.e dDo_p, c1.rl f2, r2⟩, s2.2, s2.1.trans s1.1, rfl⟩
theorem lb_step {rec : Nat → Nat → Nat → Nat → Int → ZM → Option (Int × ZM)} (hN : 20000 ≤ N) (hj : j ≤ 64) (hb : 7 * j + 7 ≤ sl) (hK : mK M = zK0 sl sx) (hI : zInv j M) : ∃ M2, zInv (j + 1) M2 ∧ mK M2 = zK0 sl sx ∧ M2.2.2.2.2 = M.2.2.2.2 ∧ (zB (Wp_step N 0 M) fun v137 M137 => zB (Mo_step N 0 M137) fun v138 M138 => if v137 = v138 then zW (z32 (((7 * j : Nat) : Int) + 7)) fun x139 => rec 0 0 0 0 x139 M138 else some (0, M138)) = rec 0 0 0 0 ((7 * j + 7 : Nat) : Int) M2 := by
  obtain ⟨A, hv, hq, hc, hr⟩ := hI
  have K1 := KK hK
  simp only [zx (j := j) (i := 1) (k := 1) hj rfl (by omega), zx (j := j) (i := 2) (k := 2) hj rfl (by omega), zx (j := j) (i := 3) (k := 3) hj rfl (by omega), zx (j := j) (i := 4) (k := 4) hj rfl (by omega), zx (j := j) (i := 5) (k := 5) hj rfl (by omega), zx (j := j) (i := 6) (k := 6) hj rfl (by omega), zx (j := j) (i := 7) (k := 7) hj rfl (by omega)]
  obtain ⟨M1, e1, c1, f1⟩ := w_step (N := N) hc hv (by omega) (by omega)
  have hr1 := hr.cl f1
  have s1 := zLI_ce (L_Wp_step (d := 0) e1 hK) (zG_5 (mi := 109) rfl) hK
  rw [e1, zB_s]
  obtain ⟨M2, e2, r2, f2⟩ := m_step (N := N) hr1 hv (by omega) (by omega)
  have s2 := zLI_ce (L_Mo_step (d := 0) e2 s1.2) (zG_5 (mi := 225) rfl) s1.2
  rw [e2, zB_s, if_pos rfl, zW_e]
  exact ⟨M2, ⟨dStep A, dStep_v hv, hq, c1.rl f2, r2⟩, s2.2, s2.1.trans s1.1, rfl⟩
theorem lb_undo {rec : Nat → Nat → Nat → Nat → Int → ZM → Option (Int × ZM)} (hN : 20000 ≤ N) (hj : j ≤ 64) (hb : 7 * j + 7 ≤ sl) (hK : mK M = zK0 sl sx) (hI : zInv j M) : ∃ M2, zInv (j + 1) M2 ∧ mK M2 = zK0 sl sx ∧ M2.2.2.2.2 = M.2.2.2.2 ∧ (zB (Wp_undo N 0 M) fun v140 M140 => zB (Mo_undo N 0 M140) fun v141 M141 => if v140 = v141 then zW (z32 (((7 * j : Nat) : Int) + 7)) fun x142 => rec 0 0 0 0 x142 M141 else some (0, M141)) = rec 0 0 0 0 ((7 * j + 7 : Nat) : Int) M2 := by
  obtain ⟨A, hv, hq, hc, hr⟩ := hI
  have K1 := KK hK
  simp only [zx (j := j) (i := 1) (k := 1) hj rfl (by omega), zx (j := j) (i := 2) (k := 2) hj rfl (by omega), zx (j := j) (i := 3) (k := 3) hj rfl (by omega), zx (j := j) (i := 4) (k := 4) hj rfl (by omega), zx (j := j) (i := 5) (k := 5) hj rfl (by omega), zx (j := j) (i := 6) (k := 6) hj rfl (by omega), zx (j := j) (i := 7) (k := 7) hj rfl (by omega)]
  obtain ⟨M1, e1, c1, f1⟩ := w_undo (N := N) hc hv (by omega)
  have hr1 := hr.cl f1
  have s1 := zLI_ce (L_Wp_undo (d := 0) e1 hK) (zG_5 (mi := 110) rfl) hK
  rw [e1, zB_s]
  obtain ⟨M2, e2, r2, f2⟩ := m_undo (N := N) hr1 hv (by omega)
  have s2 := zLI_ce (L_Mo_undo (d := 0) e2 s1.2) (zG_5 (mi := 226) rfl) s1.2
  rw [e2, zB_s, if_pos rfl, zW_e]
  exact ⟨M2, ⟨dUndo A, dUndo_v hv, hq.e dUndo_p, c1.rl f2, r2⟩, s2.2, s2.1.trans s1.1, rfl⟩
theorem lb_judged {rec : Nat → Nat → Nat → Nat → Int → ZM → Option (Int × ZM)} (hN : 20000 ≤ N) (hj : j ≤ 64) (hb : 7 * j + 7 ≤ sl) (hK : mK M = zK0 sl sx) (hI : zInv j M) : ∃ M2, zInv (j + 1) M2 ∧ mK M2 = zK0 sl sx ∧ M2.2.2.2.2 = M.2.2.2.2 ∧ (zI ((0 : Int) ≤ z32 (((7 * j : Nat) : Int) + 1) ∧ z32 (((7 * j : Nat) : Int) + 1) < (mN M 102 0 : Int)) <| zB (Wp_judged N 0 (mKI M 102 0 (z32 (((7 * j : Nat) : Int) + 1)).toNat) M) fun v143 M143 => zI ((0 : Int) ≤ z32 (((7 * j : Nat) : Int) + 1) ∧ z32 (((7 * j : Nat) : Int) + 1) < (mN M143 102 0 : Int)) <| zB (Mo_judged N 0 (mKI M143 102 0 (z32 (((7 * j : Nat) : Int) + 1)).toNat) M143) fun v144 M144 => if v143 = v144 then zW (z32 (((7 * j : Nat) : Int) + 7)) fun x145 => rec 0 0 0 0 x145 M144 else some (0, M144)) = rec 0 0 0 0 ((7 * j + 7 : Nat) : Int) M2 := by
  obtain ⟨A, hv, hq, hc, hr⟩ := hI
  have K1 := KK hK
  simp only [zx (j := j) (i := 1) (k := 1) hj rfl (by omega), zx (j := j) (i := 2) (k := 2) hj rfl (by omega), zx (j := j) (i := 3) (k := 3) hj rfl (by omega), zx (j := j) (i := 4) (k := 4) hj rfl (by omega), zx (j := j) (i := 5) (k := 5) hj rfl (by omega), zx (j := j) (i := 6) (k := 6) hj rfl (by omega), zx (j := j) (i := 7) (k := 7) hj rfl (by omega), K1.1, K1.2, Int.toNat_natCast]
  rw [zI_t (by omega)]
  obtain ⟨M1, e1, g1⟩ := w_judged (N := N) hc hv (by omega) (sx (7 * j + 1))
  have c1 := hc.fx g1
  have f1 : zCl M M1 := g1.cl fX_rk
  have hr1 := hr.cl f1
  have s1 := zLI_ce (L_Wp_judged (d := 0) e1 hK) (zG_5 (mi := 111) rfl) hK
  rw [e1, zB_s]
  obtain ⟨M2, e2, r2, f2⟩ := m_judged (N := N) hr1 hv (by omega) (sx (7 * j + 1))
  have s2 := zLI_ce (L_Mo_judged (d := 0) e2 s1.2) (zG_5 (mi := 228) rfl) s1.2
  have K2 := KK s1.2
  simp only [K2.1, K2.2]
  rw [zI_t (by omega)]
  rw [e2, zB_s, if_pos rfl, zW_e]
  exact ⟨M2, ⟨A, hv.up (Nat.le_succ j), hq, c1.rl f2, r2⟩, s2.2, s2.1.trans s1.1, rfl⟩
theorem lb_takes {rec : Nat → Nat → Nat → Nat → Int → ZM → Option (Int × ZM)} (hN : 20000 ≤ N) (hj : j ≤ 64) (hb : 7 * j + 7 ≤ sl) (hK : mK M = zK0 sl sx) (hI : zInv j M) : ∃ M2, zInv (j + 1) M2 ∧ mK M2 = zK0 sl sx ∧ M2.2.2.2.2 = M.2.2.2.2 ∧ (zI ((0 : Int) ≤ z32 (((7 * j : Nat) : Int) + 1) ∧ z32 (((7 * j : Nat) : Int) + 1) < (mN M 102 0 : Int)) <| zI ((0 : Int) ≤ z32 (((7 * j : Nat) : Int) + 2) ∧ z32 (((7 * j : Nat) : Int) + 2) < (mN M 102 0 : Int)) <| zB (Wp_takes N 0 (mKI M 102 0 (z32 (((7 * j : Nat) : Int) + 1)).toNat) (mKI M 102 0 (z32 (((7 * j : Nat) : Int) + 2)).toNat) M) fun v146 M146 => zI ((0 : Int) ≤ z32 (((7 * j : Nat) : Int) + 1) ∧ z32 (((7 * j : Nat) : Int) + 1) < (mN M146 102 0 : Int)) <| zI ((0 : Int) ≤ z32 (((7 * j : Nat) : Int) + 2) ∧ z32 (((7 * j : Nat) : Int) + 2) < (mN M146 102 0 : Int)) <| zB (Mo_takes N 0 (mKI M146 102 0 (z32 (((7 * j : Nat) : Int) + 1)).toNat) (mKI M146 102 0 (z32 (((7 * j : Nat) : Int) + 2)).toNat) M146) fun v147 M147 => if v146 = v147 then zW (z32 (((7 * j : Nat) : Int) + 7)) fun x148 => rec 0 0 0 0 x148 M147 else some (0, M147)) = rec 0 0 0 0 ((7 * j + 7 : Nat) : Int) M2 := by
  obtain ⟨A, hv, hq, hc, hr⟩ := hI
  have K1 := KK hK
  simp only [zx (j := j) (i := 1) (k := 1) hj rfl (by omega), zx (j := j) (i := 2) (k := 2) hj rfl (by omega), zx (j := j) (i := 3) (k := 3) hj rfl (by omega), zx (j := j) (i := 4) (k := 4) hj rfl (by omega), zx (j := j) (i := 5) (k := 5) hj rfl (by omega), zx (j := j) (i := 6) (k := 6) hj rfl (by omega), zx (j := j) (i := 7) (k := 7) hj rfl (by omega), K1.1, K1.2, Int.toNat_natCast]
  rw [zI_t (by omega), zI_t (by omega)]
  have e1 := w_takes (N := N) hc hv (sx (7 * j + 1)) (sx (7 * j + 2))
  have hr1 := hr
  have s1 := zLI_ce (L_Wp_takes (d := 0) e1 hK) (zG_5 (mi := 112) rfl) hK
  have c1 := hc
  rw [e1, zB_s]
  obtain ⟨M2, e2, r2, f2⟩ := m_takes (N := N) hr1 hv (by omega) (sx (7 * j + 1)) (sx (7 * j + 2))
  have s2 := zLI_ce (L_Mo_takes (d := 0) e2 s1.2) (zG_5 (mi := 229) rfl) s1.2
  simp only [K1.1, K1.2]
  rw [zI_t (by omega), zI_t (by omega)]
  rw [e2, zB_s, if_pos rfl, zW_e]
  exact ⟨M2, ⟨A, hv.up (Nat.le_succ j), hq, c1.rl f2, r2⟩, s2.2, s2.1.trans s1.1, rfl⟩
theorem lb_later {rec : Nat → Nat → Nat → Nat → Int → ZM → Option (Int × ZM)} (hN : 20000 ≤ N) (hj : j ≤ 64) (hb : 7 * j + 7 ≤ sl) (hK : mK M = zK0 sl sx) (hI : zInv j M) : ∃ M2, zInv (j + 1) M2 ∧ mK M2 = zK0 sl sx ∧ M2.2.2.2.2 = M.2.2.2.2 ∧ (zI ((0 : Int) ≤ z32 (((7 * j : Nat) : Int) + 1) ∧ z32 (((7 * j : Nat) : Int) + 1) < (mN M 102 0 : Int)) <| zB (Wp_later N 0 (mKI M 102 0 (z32 (((7 * j : Nat) : Int) + 1)).toNat) M) fun v149 M149 => zI ((0 : Int) ≤ z32 (((7 * j : Nat) : Int) + 1) ∧ z32 (((7 * j : Nat) : Int) + 1) < (mN M149 102 0 : Int)) <| zB (Mo_later N 0 (mKI M149 102 0 (z32 (((7 * j : Nat) : Int) + 1)).toNat) M149) fun v150 M150 => if v149 = v150 then zW (z32 (((7 * j : Nat) : Int) + 7)) fun x151 => rec 0 0 0 0 x151 M150 else some (0, M150)) = rec 0 0 0 0 ((7 * j + 7 : Nat) : Int) M2 := by
  obtain ⟨A, hv, hq, hc, hr⟩ := hI
  have K1 := KK hK
  simp only [zx (j := j) (i := 1) (k := 1) hj rfl (by omega), zx (j := j) (i := 2) (k := 2) hj rfl (by omega), zx (j := j) (i := 3) (k := 3) hj rfl (by omega), zx (j := j) (i := 4) (k := 4) hj rfl (by omega), zx (j := j) (i := 5) (k := 5) hj rfl (by omega), zx (j := j) (i := 6) (k := 6) hj rfl (by omega), zx (j := j) (i := 7) (k := 7) hj rfl (by omega), K1.1, K1.2, Int.toNat_natCast]
  rw [zI_t (by omega)]
  obtain ⟨M1, e1, g1⟩ := w_later (N := N) hc hv (by omega) (by omega) (sx (7 * j + 1))
  have c1 := hc.fx g1
  have f1 : zCl M M1 := g1.cl fX_rk
  have hr1 := hr.cl f1
  have s1 := zLI_ce (L_Wp_later (d := 0) e1 hK) (zG_5 (mi := 113) rfl) hK
  rw [e1, zB_s]
  obtain ⟨M2, e2, r2, f2⟩ := m_later (N := N) hr1 hv (by omega) (by omega) (sx (7 * j + 1))
  have s2 := zLI_ce (L_Mo_later (d := 0) e2 s1.2) (zG_5 (mi := 230) rfl) s1.2
  have K2 := KK s1.2
  simp only [K2.1, K2.2]
  rw [zI_t (by omega)]
  rw [e2, zB_s, if_pos rfl, zW_e]
  exact ⟨M2, ⟨A, hv.up (Nat.le_succ j), hq, c1.rl f2, r2⟩, s2.2, s2.1.trans s1.1, rfl⟩
theorem lb_total {rec : Nat → Nat → Nat → Nat → Int → ZM → Option (Int × ZM)} (hN : 20000 ≤ N) (hj : j ≤ 64) (hb : 7 * j + 7 ≤ sl) (hK : mK M = zK0 sl sx) (hI : zInv j M) : ∃ M2, zInv (j + 1) M2 ∧ mK M2 = zK0 sl sx ∧ M2.2.2.2.2 = M.2.2.2.2 ∧ (zI ((0 : Int) ≤ z32 (((7 * j : Nat) : Int) + 1) ∧ z32 (((7 * j : Nat) : Int) + 1) < (mN M 102 0 : Int)) <| zB (Wp_total N 0 (mKI M 102 0 (z32 (((7 * j : Nat) : Int) + 1)).toNat) M) fun v152 M152 => zI ((0 : Int) ≤ z32 (((7 * j : Nat) : Int) + 1) ∧ z32 (((7 * j : Nat) : Int) + 1) < (mN M152 102 0 : Int)) <| zB (Mo_total N 0 (mKI M152 102 0 (z32 (((7 * j : Nat) : Int) + 1)).toNat) M152) fun v153 M153 => if v152 = v153 then zW (z32 (((7 * j : Nat) : Int) + 7)) fun x154 => rec 0 0 0 0 x154 M153 else some (0, M153)) = rec 0 0 0 0 ((7 * j + 7 : Nat) : Int) M2 := by
  obtain ⟨A, hv, hq, hc, hr⟩ := hI
  have K1 := KK hK
  simp only [zx (j := j) (i := 1) (k := 1) hj rfl (by omega), zx (j := j) (i := 2) (k := 2) hj rfl (by omega), zx (j := j) (i := 3) (k := 3) hj rfl (by omega), zx (j := j) (i := 4) (k := 4) hj rfl (by omega), zx (j := j) (i := 5) (k := 5) hj rfl (by omega), zx (j := j) (i := 6) (k := 6) hj rfl (by omega), zx (j := j) (i := 7) (k := 7) hj rfl (by omega), K1.1, K1.2, Int.toNat_natCast]
  rw [zI_t (by omega)]
  obtain ⟨M1, e1, g1⟩ := w_total (N := N) hc hv (by omega) (by omega) (sx (7 * j + 1))
  have c1 := hc.fx g1
  have f1 : zCl M M1 := g1.cl fX_rk
  have hr1 := hr.cl f1
  have s1 := zLI_ce (L_Wp_total (d := 0) e1 hK) (zG_5 (mi := 114) rfl) hK
  rw [e1, zB_s]
  obtain ⟨M2, e2, r2, f2⟩ := m_total (N := N) hr1 hv (by omega) (by omega) (sx (7 * j + 1))
  have s2 := zLI_ce (L_Mo_total (d := 0) e2 s1.2) (zG_5 (mi := 231) rfl) s1.2
  have K2 := KK s1.2
  simp only [K2.1, K2.2]
  rw [zI_t (by omega)]
  rw [e2, zB_s, if_pos rfl, zW_e]
  exact ⟨M2, ⟨A, hv.up (Nat.le_succ j), hq, c1.rl f2, r2⟩, s2.2, s2.1.trans s1.1, rfl⟩
theorem lb_breaks {rec : Nat → Nat → Nat → Nat → Int → ZM → Option (Int × ZM)} (hN : 20000 ≤ N) (hj : j ≤ 64) (hb : 7 * j + 7 ≤ sl) (hK : mK M = zK0 sl sx) (hI : zInv j M) : ∃ M2, zInv (j + 1) M2 ∧ mK M2 = zK0 sl sx ∧ M2.2.2.2.2 = M.2.2.2.2 ∧ (zI ((0 : Int) ≤ z32 (((7 * j : Nat) : Int) + 1) ∧ z32 (((7 * j : Nat) : Int) + 1) < (mN M 102 0 : Int)) <| zB (Wp_breaks N 0 (mKI M 102 0 (z32 (((7 * j : Nat) : Int) + 1)).toNat) M) fun v155 M155 => zI ((0 : Int) ≤ z32 (((7 * j : Nat) : Int) + 1) ∧ z32 (((7 * j : Nat) : Int) + 1) < (mN M155 102 0 : Int)) <| zB (Mo_breaks N 0 (mKI M155 102 0 (z32 (((7 * j : Nat) : Int) + 1)).toNat) M155) fun v156 M156 => if v155 = v156 then zW (z32 (((7 * j : Nat) : Int) + 7)) fun x157 => rec 0 0 0 0 x157 M156 else some (0, M156)) = rec 0 0 0 0 ((7 * j + 7 : Nat) : Int) M2 := by
  obtain ⟨A, hv, hq, hc, hr⟩ := hI
  have K1 := KK hK
  simp only [zx (j := j) (i := 1) (k := 1) hj rfl (by omega), zx (j := j) (i := 2) (k := 2) hj rfl (by omega), zx (j := j) (i := 3) (k := 3) hj rfl (by omega), zx (j := j) (i := 4) (k := 4) hj rfl (by omega), zx (j := j) (i := 5) (k := 5) hj rfl (by omega), zx (j := j) (i := 6) (k := 6) hj rfl (by omega), zx (j := j) (i := 7) (k := 7) hj rfl (by omega), K1.1, K1.2, Int.toNat_natCast]
  rw [zI_t (by omega)]
  obtain ⟨M1, e1, g1⟩ := w_breaks (N := N) hc hv (by omega) (by omega) (sx (7 * j + 1))
  have c1 := hc.fx g1
  have f1 : zCl M M1 := g1.cl fX_rk
  have hr1 := hr.cl f1
  have s1 := zLI_ce (L_Wp_breaks (d := 0) e1 hK) (zG_5 (mi := 115) rfl) hK
  rw [e1, zB_s]
  obtain ⟨M2, e2, r2, f2⟩ := m_breaks (N := N) hr1 hv (by omega) (by omega) (sx (7 * j + 1))
  have s2 := zLI_ce (L_Mo_breaks (d := 0) e2 s1.2) (zG_5 (mi := 232) rfl) s1.2
  have K2 := KK s1.2
  simp only [K2.1, K2.2]
  rw [zI_t (by omega)]
  rw [e2, zB_s, if_pos rfl, zW_e]
  exact ⟨M2, ⟨A, hv.up (Nat.le_succ j), hq, c1.rl f2, r2⟩, s2.2, s2.1.trans s1.1, rfl⟩
theorem lb_lost {rec : Nat → Nat → Nat → Nat → Int → ZM → Option (Int × ZM)} (hN : 20000 ≤ N) (hj : j ≤ 64) (hb : 7 * j + 7 ≤ sl) (hK : mK M = zK0 sl sx) (hI : zInv j M) : ∃ M2, zInv (j + 1) M2 ∧ mK M2 = zK0 sl sx ∧ M2.2.2.2.2 = M.2.2.2.2 ∧ (zB (Wp_lost N 0 M) fun v158 M158 => zB (Mo_lost N 0 M158) fun v159 M159 => if v158 = v159 then zW (z32 (((7 * j : Nat) : Int) + 7)) fun x160 => rec 0 0 0 0 x160 M159 else some (0, M159)) = rec 0 0 0 0 ((7 * j + 7 : Nat) : Int) M2 := by
  obtain ⟨A, hv, hq, hc, hr⟩ := hI
  have K1 := KK hK
  simp only [zx (j := j) (i := 1) (k := 1) hj rfl (by omega), zx (j := j) (i := 2) (k := 2) hj rfl (by omega), zx (j := j) (i := 3) (k := 3) hj rfl (by omega), zx (j := j) (i := 4) (k := 4) hj rfl (by omega), zx (j := j) (i := 5) (k := 5) hj rfl (by omega), zx (j := j) (i := 6) (k := 6) hj rfl (by omega), zx (j := j) (i := 7) (k := 7) hj rfl (by omega)]
  obtain ⟨M1, e1, g1⟩ := w_lost (N := N) hc hv (by omega)
  have c1 := hc.fx g1
  have f1 : zCl M M1 := g1.cl fX_rk
  have hr1 := hr.cl f1
  have s1 := zLI_ce (L_Wp_lost (d := 0) e1 hK) (zG_5 (mi := 116) rfl) hK
  rw [e1, zB_s]
  obtain ⟨M2, e2, r2, f2⟩ := m_lost (N := N) hr1 hv (by omega)
  have s2 := zLI_ce (L_Mo_lost (d := 0) e2 s1.2) (zG_5 (mi := 233) rfl) s1.2
  rw [e2, zB_s, if_pos rfl, zW_e]
  exact ⟨M2, ⟨A, hv.up (Nat.le_succ j), hq, c1.rl f2, r2⟩, s2.2, s2.1.trans s1.1, rfl⟩
theorem lb_best {rec : Nat → Nat → Nat → Nat → Int → ZM → Option (Int × ZM)} (hN : 20000 ≤ N) (hj : j ≤ 64) (hb : 7 * j + 7 ≤ sl) (hK : mK M = zK0 sl sx) (hI : zInv j M) : ∃ M2, zInv (j + 1) M2 ∧ mK M2 = zK0 sl sx ∧ M2.2.2.2.2 = M.2.2.2.2 ∧ (zI ((0 : Int) ≤ z32 (((7 * j : Nat) : Int) + 1) ∧ z32 (((7 * j : Nat) : Int) + 1) < (mN M 102 0 : Int)) <| zB (Wp_best N 0 (mKI M 102 0 (z32 (((7 * j : Nat) : Int) + 1)).toNat) M) fun v161 M161 => zI ((0 : Int) ≤ z32 (((7 * j : Nat) : Int) + 1) ∧ z32 (((7 * j : Nat) : Int) + 1) < (mN M161 102 0 : Int)) <| zB (Mo_best N 0 (mKI M161 102 0 (z32 (((7 * j : Nat) : Int) + 1)).toNat) M161) fun v162 M162 => if v161 = v162 then zW (z32 (((7 * j : Nat) : Int) + 7)) fun x163 => rec 0 0 0 0 x163 M162 else some (0, M162)) = rec 0 0 0 0 ((7 * j + 7 : Nat) : Int) M2 := by
  obtain ⟨A, hv, hq, hc, hr⟩ := hI
  have K1 := KK hK
  simp only [zx (j := j) (i := 1) (k := 1) hj rfl (by omega), zx (j := j) (i := 2) (k := 2) hj rfl (by omega), zx (j := j) (i := 3) (k := 3) hj rfl (by omega), zx (j := j) (i := 4) (k := 4) hj rfl (by omega), zx (j := j) (i := 5) (k := 5) hj rfl (by omega), zx (j := j) (i := 6) (k := 6) hj rfl (by omega), zx (j := j) (i := 7) (k := 7) hj rfl (by omega), K1.1, K1.2, Int.toNat_natCast]
  rw [zI_t (by omega)]
  obtain ⟨M1, e1, c1, f1⟩ := w_best (N := N) hc hv (by omega) (sx (7 * j + 1))
  have hr1 := hr.cl f1
  have s1 := zLI_ce (L_Wp_best (d := 0) e1 hK) (zG_5 (mi := 117) rfl) hK
  rw [e1, zB_s]
  obtain ⟨M2, e2, r2, f2⟩ := m_best (N := N) hr1 hv (by omega) (sx (7 * j + 1))
  have s2 := zLI_ce (L_Mo_best (d := 0) e2 s1.2) (zG_5 (mi := 238) rfl) s1.2
  have K2 := KK s1.2
  simp only [K2.1, K2.2]
  rw [zI_t (by omega)]
  rw [e2, zB_s, if_pos rfl, zW_e]
  exact ⟨M2, ⟨A, hv.up (Nat.le_succ j), hq, c1.rl f2, r2⟩, s2.2, s2.1.trans s1.1, rfl⟩
theorem lb_alone {rec : Nat → Nat → Nat → Nat → Int → ZM → Option (Int × ZM)} (hN : 20000 ≤ N) (hj : j ≤ 64) (hb : 7 * j + 7 ≤ sl) (hK : mK M = zK0 sl sx) (hI : zInv j M) : ∃ M2, zInv (j + 1) M2 ∧ mK M2 = zK0 sl sx ∧ M2.2.2.2.2 = M.2.2.2.2 ∧ (zI ((0 : Int) ≤ z32 (((7 * j : Nat) : Int) + 1) ∧ z32 (((7 * j : Nat) : Int) + 1) < (mN M 102 0 : Int)) <| zI ((0 : Int) ≤ z32 (((7 * j : Nat) : Int) + 2) ∧ z32 (((7 * j : Nat) : Int) + 2) < (mN M 102 0 : Int)) <| zB (Wp_alone N 0 (mKI M 102 0 (z32 (((7 * j : Nat) : Int) + 1)).toNat) (mKI M 102 0 (z32 (((7 * j : Nat) : Int) + 2)).toNat) M) fun v164 M164 => zI ((0 : Int) ≤ z32 (((7 * j : Nat) : Int) + 1) ∧ z32 (((7 * j : Nat) : Int) + 1) < (mN M164 102 0 : Int)) <| zI ((0 : Int) ≤ z32 (((7 * j : Nat) : Int) + 2) ∧ z32 (((7 * j : Nat) : Int) + 2) < (mN M164 102 0 : Int)) <| zB (Mo_alone N 0 (mKI M164 102 0 (z32 (((7 * j : Nat) : Int) + 1)).toNat) (mKI M164 102 0 (z32 (((7 * j : Nat) : Int) + 2)).toNat) M164) fun v165 M165 => if v164 = v165 then zW (z32 (((7 * j : Nat) : Int) + 7)) fun x166 => rec 0 0 0 0 x166 M165 else some (0, M165)) = rec 0 0 0 0 ((7 * j + 7 : Nat) : Int) M2 := by
  obtain ⟨A, hv, hq, hc, hr⟩ := hI
  have K1 := KK hK
  simp only [zx (j := j) (i := 1) (k := 1) hj rfl (by omega), zx (j := j) (i := 2) (k := 2) hj rfl (by omega), zx (j := j) (i := 3) (k := 3) hj rfl (by omega), zx (j := j) (i := 4) (k := 4) hj rfl (by omega), zx (j := j) (i := 5) (k := 5) hj rfl (by omega), zx (j := j) (i := 6) (k := 6) hj rfl (by omega), zx (j := j) (i := 7) (k := 7) hj rfl (by omega), K1.1, K1.2, Int.toNat_natCast]
  rw [zI_t (by omega), zI_t (by omega)]
  obtain ⟨M1, e1, c1, f1⟩ := w_alone (N := N) hc hv (by omega) (sx (7 * j + 1)) (sx (7 * j + 2))
  have hr1 := hr.cl f1
  have s1 := zLI_ce (L_Wp_alone (d := 0) e1 hK) (zG_5 (mi := 118) rfl) hK
  rw [e1, zB_s]
  obtain ⟨M2, e2, r2, f2⟩ := m_alone (N := N) hr1 hv (by omega) (sx (7 * j + 1)) (sx (7 * j + 2))
  have s2 := zLI_ce (L_Mo_alone (d := 0) e2 s1.2) (zG_5 (mi := 239) rfl) s1.2
  have K2 := KK s1.2
  simp only [K2.1, K2.2]
  rw [zI_t (by omega), zI_t (by omega)]
  rw [e2, zB_s, if_pos rfl, zW_e]
  exact ⟨M2, ⟨A, hv.up (Nat.le_succ j), hq, c1.rl f2, r2⟩, s2.2, s2.1.trans s1.1, rfl⟩
theorem lb_idle {rec : Nat → Nat → Nat → Nat → Int → ZM → Option (Int × ZM)} (hN : 20000 ≤ N) (hj : j ≤ 64) (hb : 7 * j + 7 ≤ sl) (hK : mK M = zK0 sl sx) (hI : zInv j M) : ∃ M2, zInv (j + 1) M2 ∧ mK M2 = zK0 sl sx ∧ M2.2.2.2.2 = M.2.2.2.2 ∧ (zB (Wp_idle N 0 M) fun v167 M167 => zB (Mo_idle N 0 M167) fun v168 M168 => if v167 = v168 then zW (z32 (((7 * j : Nat) : Int) + 7)) fun x169 => rec 0 0 0 0 x169 M168 else some (0, M168)) = rec 0 0 0 0 ((7 * j + 7 : Nat) : Int) M2 := by
  obtain ⟨A, hv, hq, hc, hr⟩ := hI
  have K1 := KK hK
  simp only [zx (j := j) (i := 1) (k := 1) hj rfl (by omega), zx (j := j) (i := 2) (k := 2) hj rfl (by omega), zx (j := j) (i := 3) (k := 3) hj rfl (by omega), zx (j := j) (i := 4) (k := 4) hj rfl (by omega), zx (j := j) (i := 5) (k := 5) hj rfl (by omega), zx (j := j) (i := 6) (k := 6) hj rfl (by omega), zx (j := j) (i := 7) (k := 7) hj rfl (by omega)]
  obtain ⟨M1, e1, g1⟩ := w_idle (N := N) hc hv (by omega)
  have c1 := hc.fx g1
  have f1 : zCl M M1 := g1.cl fX_rk
  have hr1 := hr.cl f1
  have s1 := zLI_ce (L_Wp_idle (d := 0) e1 hK) (zG_5 (mi := 119) rfl) hK
  rw [e1, zB_s]
  obtain ⟨M2, e2, r2, f2⟩ := m_idle (N := N) hr1 hv (by omega)
  have s2 := zLI_ce (L_Mo_idle (d := 0) e2 s1.2) (zG_5 (mi := 240) rfl) s1.2
  rw [e2, zB_s, if_pos rfl, zW_e]
  exact ⟨M2, ⟨A, hv.up (Nat.le_succ j), hq, c1.rl f2, r2⟩, s2.2, s2.1.trans s1.1, rfl⟩
theorem lb_straight {rec : Nat → Nat → Nat → Nat → Int → ZM → Option (Int × ZM)} (hN : 20000 ≤ N) (hj : j ≤ 64) (hb : 7 * j + 7 ≤ sl) (hK : mK M = zK0 sl sx) (hI : zInv j M) : ∃ M2, zInv (j + 1) M2 ∧ mK M2 = zK0 sl sx ∧ M2.2.2.2.2 = M.2.2.2.2 ∧ (zB (Wp_straight N 0 M) fun v170 M170 => zB (Mo_straight N 0 M170) fun v171 M171 => if v170 = v171 then zW (z32 (((7 * j : Nat) : Int) + 7)) fun x172 => rec 0 0 0 0 x172 M171 else some (0, M171)) = rec 0 0 0 0 ((7 * j + 7 : Nat) : Int) M2 := by
  obtain ⟨A, hv, hq, hc, hr⟩ := hI
  have K1 := KK hK
  simp only [zx (j := j) (i := 1) (k := 1) hj rfl (by omega), zx (j := j) (i := 2) (k := 2) hj rfl (by omega), zx (j := j) (i := 3) (k := 3) hj rfl (by omega), zx (j := j) (i := 4) (k := 4) hj rfl (by omega), zx (j := j) (i := 5) (k := 5) hj rfl (by omega), zx (j := j) (i := 6) (k := 6) hj rfl (by omega), zx (j := j) (i := 7) (k := 7) hj rfl (by omega)]
  obtain ⟨M1, e1, g1⟩ := w_straight (N := N) hc hv (by omega)
  have c1 := hc.fx g1
  have f1 : zCl M M1 := g1.cl fX_rk
  have hr1 := hr.cl f1
  have s1 := zLI_ce (L_Wp_straight (d := 0) e1 hK) (zG_5 (mi := 120) rfl) hK
  rw [e1, zB_s]
  obtain ⟨M2, e2, r2, f2⟩ := m_straight (N := N) hr1 hv (by omega)
  have s2 := zLI_ce (L_Mo_straight (d := 0) e2 s1.2) (zG_5 (mi := 241) rfl) s1.2
  rw [e2, zB_s, if_pos rfl, zW_e]
  exact ⟨M2, ⟨A, hv.up (Nat.le_succ j), hq, c1.rl f2, r2⟩, s2.2, s2.1.trans s1.1, rfl⟩
theorem lb_full {rec : Nat → Nat → Nat → Nat → Int → ZM → Option (Int × ZM)} (hN : 20000 ≤ N) (hj : j ≤ 64) (hb : 7 * j + 7 ≤ sl) (hK : mK M = zK0 sl sx) (hI : zInv j M) : ∃ M2, zInv (j + 1) M2 ∧ mK M2 = zK0 sl sx ∧ M2.2.2.2.2 = M.2.2.2.2 ∧ (zB (Wp_full N 0 M) fun v173 M173 => zB (Mo_full N 0 M173) fun v174 M174 => if v173 = v174 then zW (z32 (((7 * j : Nat) : Int) + 7)) fun x175 => rec 0 0 0 0 x175 M174 else some (0, M174)) = rec 0 0 0 0 ((7 * j + 7 : Nat) : Int) M2 := by
  obtain ⟨A, hv, hq, hc, hr⟩ := hI
  have K1 := KK hK
  simp only [zx (j := j) (i := 1) (k := 1) hj rfl (by omega), zx (j := j) (i := 2) (k := 2) hj rfl (by omega), zx (j := j) (i := 3) (k := 3) hj rfl (by omega), zx (j := j) (i := 4) (k := 4) hj rfl (by omega), zx (j := j) (i := 5) (k := 5) hj rfl (by omega), zx (j := j) (i := 6) (k := 6) hj rfl (by omega), zx (j := j) (i := 7) (k := 7) hj rfl (by omega)]
  obtain ⟨M1, e1, g1⟩ := w_full (N := N) hc hv (by omega)
  have c1 := hc.fx g1
  have f1 : zCl M M1 := g1.cl fX_rk
  have hr1 := hr.cl f1
  have s1 := zLI_ce (L_Wp_full (d := 0) e1 hK) (zG_5 (mi := 121) rfl) hK
  rw [e1, zB_s]
  obtain ⟨M2, e2, r2, f2⟩ := m_full (N := N) hr1 hv (by omega)
  have s2 := zLI_ce (L_Mo_full (d := 0) e2 s1.2) (zG_5 (mi := 242) rfl) s1.2
  rw [e2, zB_s, if_pos rfl, zW_e]
  exact ⟨M2, ⟨A, hv.up (Nat.le_succ j), hq, c1.rl f2, r2⟩, s2.2, s2.1.trans s1.1, rfl⟩
theorem lb_dear {rec : Nat → Nat → Nat → Nat → Int → ZM → Option (Int × ZM)} (hN : 20000 ≤ N) (hj : j ≤ 64) (hb : 7 * j + 7 ≤ sl) (hK : mK M = zK0 sl sx) (hI : zInv j M) : ∃ M2, zInv (j + 1) M2 ∧ mK M2 = zK0 sl sx ∧ M2.2.2.2.2 = M.2.2.2.2 ∧ (zB (Wp_dear N 0 M) fun v176 M176 => zB (Mo_dear N 0 M176) fun v177 M177 => if v176 = v177 then zW (z32 (((7 * j : Nat) : Int) + 7)) fun x178 => rec 0 0 0 0 x178 M177 else some (0, M177)) = rec 0 0 0 0 ((7 * j + 7 : Nat) : Int) M2 := by
  obtain ⟨A, hv, hq, hc, hr⟩ := hI
  have K1 := KK hK
  simp only [zx (j := j) (i := 1) (k := 1) hj rfl (by omega), zx (j := j) (i := 2) (k := 2) hj rfl (by omega), zx (j := j) (i := 3) (k := 3) hj rfl (by omega), zx (j := j) (i := 4) (k := 4) hj rfl (by omega), zx (j := j) (i := 5) (k := 5) hj rfl (by omega), zx (j := j) (i := 6) (k := 6) hj rfl (by omega), zx (j := j) (i := 7) (k := 7) hj rfl (by omega)]
  obtain ⟨M1, e1, g1⟩ := w_dear (N := N) hc hv (by omega)
  have c1 := hc.fx g1
  have f1 : zCl M M1 := g1.cl fX_rk
  have hr1 := hr.cl f1
  have s1 := zLI_ce (L_Wp_dear (d := 0) e1 hK) (zG_5 (mi := 122) rfl) hK
  rw [e1, zB_s]
  obtain ⟨M2, e2, r2, f2⟩ := m_dear (N := N) hr1 hv (by omega)
  have s2 := zLI_ce (L_Mo_dear (d := 0) e2 s1.2) (zG_5 (mi := 243) rfl) s1.2
  rw [e2, zB_s, if_pos rfl, zW_e]
  exact ⟨M2, ⟨A, hv.up (Nat.le_succ j), hq, c1.rl f2, r2⟩, s2.2, s2.1.trans s1.1, rfl⟩
theorem lb_fault {rec : Nat → Nat → Nat → Nat → Int → ZM → Option (Int × ZM)} (hN : 20000 ≤ N) (hj : j ≤ 64) (hb : 7 * j + 7 ≤ sl) (hK : mK M = zK0 sl sx) (hI : zInv j M) : ∃ M2, zInv (j + 1) M2 ∧ mK M2 = zK0 sl sx ∧ M2.2.2.2.2 = M.2.2.2.2 ∧ (zI ((0 : Int) ≤ z32 (((7 * j : Nat) : Int) + 1) ∧ z32 (((7 * j : Nat) : Int) + 1) < (mN M 102 0 : Int)) <| zB (Wp_fault N 0 (mKI M 102 0 (z32 (((7 * j : Nat) : Int) + 1)).toNat) M) fun v179 M179 => zI ((0 : Int) ≤ z32 (((7 * j : Nat) : Int) + 1) ∧ z32 (((7 * j : Nat) : Int) + 1) < (mN M179 102 0 : Int)) <| zB (Mo_fault N 0 (mKI M179 102 0 (z32 (((7 * j : Nat) : Int) + 1)).toNat) M179) fun v180 M180 => if v179 = v180 then zW (z32 (((7 * j : Nat) : Int) + 7)) fun x181 => rec 0 0 0 0 x181 M180 else some (0, M180)) = rec 0 0 0 0 ((7 * j + 7 : Nat) : Int) M2 := by
  obtain ⟨A, hv, hq, hc, hr⟩ := hI
  have K1 := KK hK
  simp only [zx (j := j) (i := 1) (k := 1) hj rfl (by omega), zx (j := j) (i := 2) (k := 2) hj rfl (by omega), zx (j := j) (i := 3) (k := 3) hj rfl (by omega), zx (j := j) (i := 4) (k := 4) hj rfl (by omega), zx (j := j) (i := 5) (k := 5) hj rfl (by omega), zx (j := j) (i := 6) (k := 6) hj rfl (by omega), zx (j := j) (i := 7) (k := 7) hj rfl (by omega), K1.1, K1.2, Int.toNat_natCast]
  rw [zI_t (by omega)]
  obtain ⟨M1, e1, g1⟩ := w_fault (N := N) hc hv (by omega) (sx (7 * j + 1))
  have c1 := hc.fx g1
  have f1 : zCl M M1 := g1.cl fX_rk
  have hr1 := hr.cl f1
  have s1 := zLI_ce (L_Wp_fault (d := 0) e1 hK) (zG_5 (mi := 123) rfl) hK
  rw [e1, zB_s]
  obtain ⟨M2, e2, r2, f2⟩ := m_fault (N := N) hr1 hv (by omega) (sx (7 * j + 1))
  have s2 := zLI_ce (L_Mo_fault (d := 0) e2 s1.2) (zG_5 (mi := 244) rfl) s1.2
  have K2 := KK s1.2
  simp only [K2.1, K2.2]
  rw [zI_t (by omega)]
  rw [e2, zB_s, if_pos rfl, zW_e]
  exact ⟨M2, ⟨A, hv.up (Nat.le_succ j), hq, c1.rl f2, r2⟩, s2.2, s2.1.trans s1.1, rfl⟩
theorem lb_robbed {rec : Nat → Nat → Nat → Nat → Int → ZM → Option (Int × ZM)} (hN : 20000 ≤ N) (hj : j ≤ 64) (hb : 7 * j + 7 ≤ sl) (hK : mK M = zK0 sl sx) (hI : zInv j M) : ∃ M2, zInv (j + 1) M2 ∧ mK M2 = zK0 sl sx ∧ M2.2.2.2.2 = M.2.2.2.2 ∧ (zI ((0 : Int) ≤ z32 (((7 * j : Nat) : Int) + 1) ∧ z32 (((7 * j : Nat) : Int) + 1) < (mN M 102 0 : Int)) <| zB (Wp_robbed N 0 (mKI M 102 0 (z32 (((7 * j : Nat) : Int) + 1)).toNat) M) fun v182 M182 => zI ((0 : Int) ≤ z32 (((7 * j : Nat) : Int) + 1) ∧ z32 (((7 * j : Nat) : Int) + 1) < (mN M182 102 0 : Int)) <| zB (Mo_robbed N 0 (mKI M182 102 0 (z32 (((7 * j : Nat) : Int) + 1)).toNat) M182) fun v183 M183 => if v182 = v183 then zW (z32 (((7 * j : Nat) : Int) + 7)) fun x184 => rec 0 0 0 0 x184 M183 else some (0, M183)) = rec 0 0 0 0 ((7 * j + 7 : Nat) : Int) M2 := by
  obtain ⟨A, hv, hq, hc, hr⟩ := hI
  have K1 := KK hK
  simp only [zx (j := j) (i := 1) (k := 1) hj rfl (by omega), zx (j := j) (i := 2) (k := 2) hj rfl (by omega), zx (j := j) (i := 3) (k := 3) hj rfl (by omega), zx (j := j) (i := 4) (k := 4) hj rfl (by omega), zx (j := j) (i := 5) (k := 5) hj rfl (by omega), zx (j := j) (i := 6) (k := 6) hj rfl (by omega), zx (j := j) (i := 7) (k := 7) hj rfl (by omega), K1.1, K1.2, Int.toNat_natCast]
  rw [zI_t (by omega)]
  obtain ⟨M1, e1, g1⟩ := w_robbed (N := N) hc hv (by omega) (sx (7 * j + 1))
  have c1 := hc.fx g1
  have f1 : zCl M M1 := g1.cl fX_rk
  have hr1 := hr.cl f1
  have s1 := zLI_ce (L_Wp_robbed (d := 0) e1 hK) (zG_5 (mi := 124) rfl) hK
  rw [e1, zB_s]
  obtain ⟨M2, e2, r2, f2⟩ := m_robbed (N := N) hr1 hv (by omega) (sx (7 * j + 1))
  have s2 := zLI_ce (L_Mo_robbed (d := 0) e2 s1.2) (zG_5 (mi := 247) rfl) s1.2
  have K2 := KK s1.2
  simp only [K2.1, K2.2]
  rw [zI_t (by omega)]
  rw [e2, zB_s, if_pos rfl, zW_e]
  exact ⟨M2, ⟨A, hv.up (Nat.le_succ j), hq, c1.rl f2, r2⟩, s2.2, s2.1.trans s1.1, rfl⟩
theorem lb_front {rec : Nat → Nat → Nat → Nat → Int → ZM → Option (Int × ZM)} (hN : 20000 ≤ N) (hj : j ≤ 64) (hb : 7 * j + 7 ≤ sl) (hK : mK M = zK0 sl sx) (hI : zInv j M) : ∃ M2, zInv (j + 1) M2 ∧ mK M2 = zK0 sl sx ∧ M2.2.2.2.2 = M.2.2.2.2 ∧ (zB (Wp_front N 0 M) fun v185 M185 => zB (Mo_front N 0 M185) fun v186 M186 => if v185 = v186 then zW (z32 (((7 * j : Nat) : Int) + 7)) fun x187 => rec 0 0 0 0 x187 M186 else some (0, M186)) = rec 0 0 0 0 ((7 * j + 7 : Nat) : Int) M2 := by
  obtain ⟨A, hv, hq, hc, hr⟩ := hI
  have K1 := KK hK
  simp only [zx (j := j) (i := 1) (k := 1) hj rfl (by omega), zx (j := j) (i := 2) (k := 2) hj rfl (by omega), zx (j := j) (i := 3) (k := 3) hj rfl (by omega), zx (j := j) (i := 4) (k := 4) hj rfl (by omega), zx (j := j) (i := 5) (k := 5) hj rfl (by omega), zx (j := j) (i := 6) (k := 6) hj rfl (by omega), zx (j := j) (i := 7) (k := 7) hj rfl (by omega)]
  obtain ⟨M1, e1, g1⟩ := w_front (N := N) hc hv (by omega)
  have c1 := hc.fx g1
  have f1 : zCl M M1 := g1.cl fX_rk
  have hr1 := hr.cl f1
  have s1 := zLI_ce (L_Wp_front (d := 0) e1 hK) (zG_5 (mi := 125) rfl) hK
  rw [e1, zB_s]
  obtain ⟨M2, e2, r2, f2⟩ := m_front (N := N) hr1 hv (by omega)
  have s2 := zLI_ce (L_Mo_front (d := 0) e2 s1.2) (zG_5 (mi := 248) rfl) s1.2
  rw [e2, zB_s, if_pos rfl, zW_e]
  exact ⟨M2, ⟨A, hv.up (Nat.le_succ j), hq, c1.rl f2, r2⟩, s2.2, s2.1.trans s1.1, rfl⟩
theorem lb_shade {rec : Nat → Nat → Nat → Nat → Int → ZM → Option (Int × ZM)} (hN : 20000 ≤ N) (hj : j ≤ 64) (hb : 7 * j + 7 ≤ sl) (hK : mK M = zK0 sl sx) (hI : zInv j M) : ∃ M2, zInv (j + 1) M2 ∧ mK M2 = zK0 sl sx ∧ M2.2.2.2.2 = M.2.2.2.2 ∧ (zI ((0 : Int) ≤ z32 (((7 * j : Nat) : Int) + 1) ∧ z32 (((7 * j : Nat) : Int) + 1) < (mN M 102 0 : Int)) <| zB (Wp_shade N 0 (mKI M 102 0 (z32 (((7 * j : Nat) : Int) + 1)).toNat) M) fun v188 M188 => zI ((0 : Int) ≤ z32 (((7 * j : Nat) : Int) + 1) ∧ z32 (((7 * j : Nat) : Int) + 1) < (mN M188 102 0 : Int)) <| zB (Mo_shade N 0 (mKI M188 102 0 (z32 (((7 * j : Nat) : Int) + 1)).toNat) M188) fun v189 M189 => if v188 = v189 then zW (z32 (((7 * j : Nat) : Int) + 7)) fun x190 => rec 0 0 0 0 x190 M189 else some (0, M189)) = rec 0 0 0 0 ((7 * j + 7 : Nat) : Int) M2 := by
  obtain ⟨A, hv, hq, hc, hr⟩ := hI
  have K1 := KK hK
  simp only [zx (j := j) (i := 1) (k := 1) hj rfl (by omega), zx (j := j) (i := 2) (k := 2) hj rfl (by omega), zx (j := j) (i := 3) (k := 3) hj rfl (by omega), zx (j := j) (i := 4) (k := 4) hj rfl (by omega), zx (j := j) (i := 5) (k := 5) hj rfl (by omega), zx (j := j) (i := 6) (k := 6) hj rfl (by omega), zx (j := j) (i := 7) (k := 7) hj rfl (by omega), K1.1, K1.2, Int.toNat_natCast]
  rw [zI_t (by omega)]
  have e1 := w_shade (N := N) hc hv (by omega) (sx (7 * j + 1))
  have hr1 := hr
  have s1 := zLI_ce (L_Wp_shade (d := 0) e1 hK) (zG_5 (mi := 126) rfl) hK
  have c1 := hc
  rw [e1, zB_s]
  obtain ⟨M2, e2, r2, f2⟩ := m_shade (N := N) hr1 hv (by omega) (sx (7 * j + 1))
  have s2 := zLI_ce (L_Mo_shade (d := 0) e2 s1.2) (zG_5 (mi := 249) rfl) s1.2
  simp only [K1.1, K1.2]
  rw [zI_t (by omega)]
  rw [e2, zB_s, if_pos rfl, zW_e]
  exact ⟨M2, ⟨A, hv.up (Nat.le_succ j), hq, c1.rl f2, r2⟩, s2.2, s2.1.trans s1.1, rfl⟩
theorem lb_hops {rec : Nat → Nat → Nat → Nat → Int → ZM → Option (Int × ZM)} (hN : 20000 ≤ N) (hj : j ≤ 64) (hb : 7 * j + 7 ≤ sl) (hK : mK M = zK0 sl sx) (hI : zInv j M) : ∃ M2, zInv (j + 1) M2 ∧ mK M2 = zK0 sl sx ∧ M2.2.2.2.2 = M.2.2.2.2 ∧ (zI ((0 : Int) ≤ z32 (((7 * j : Nat) : Int) + 1) ∧ z32 (((7 * j : Nat) : Int) + 1) < (mN M 102 0 : Int)) <| zB (Wp_hops N 0 (mKI M 102 0 (z32 (((7 * j : Nat) : Int) + 1)).toNat) M) fun v191 M191 => zI ((0 : Int) ≤ z32 (((7 * j : Nat) : Int) + 1) ∧ z32 (((7 * j : Nat) : Int) + 1) < (mN M191 102 0 : Int)) <| zB (Mo_hops N 0 (mKI M191 102 0 (z32 (((7 * j : Nat) : Int) + 1)).toNat) M191) fun v192 M192 => if v191 = v192 then zW (z32 (((7 * j : Nat) : Int) + 7)) fun x193 => rec 0 0 0 0 x193 M192 else some (0, M192)) = rec 0 0 0 0 ((7 * j + 7 : Nat) : Int) M2 := by
  obtain ⟨A, hv, hq, hc, hr⟩ := hI
  have K1 := KK hK
  simp only [zx (j := j) (i := 1) (k := 1) hj rfl (by omega), zx (j := j) (i := 2) (k := 2) hj rfl (by omega), zx (j := j) (i := 3) (k := 3) hj rfl (by omega), zx (j := j) (i := 4) (k := 4) hj rfl (by omega), zx (j := j) (i := 5) (k := 5) hj rfl (by omega), zx (j := j) (i := 6) (k := 6) hj rfl (by omega), zx (j := j) (i := 7) (k := 7) hj rfl (by omega), K1.1, K1.2, Int.toNat_natCast]
  rw [zI_t (by omega)]
  have e1 := w_hops (N := N) hc hv (by omega) (sx (7 * j + 1))
  have hr1 := hr
  have s1 := zLI_ce (L_Wp_hops (d := 0) e1 hK) (zG_5 (mi := 127) rfl) hK
  have c1 := hc
  rw [e1, zB_s]
  obtain ⟨M2, e2, r2, f2⟩ := m_hops (N := N) hr1 hv (by omega) (sx (7 * j + 1))
  have s2 := zLI_ce (L_Mo_hops (d := 0) e2 s1.2) (zG_5 (mi := 245) rfl) s1.2
  simp only [K1.1, K1.2]
  rw [zI_t (by omega)]
  rw [e2, zB_s, if_pos rfl, zW_e]
  exact ⟨M2, ⟨A, hv.up (Nat.le_succ j), hq, c1.rl f2, r2⟩, s2.2, s2.1.trans s1.1, rfl⟩
theorem lb_see {rec : Nat → Nat → Nat → Nat → Int → ZM → Option (Int × ZM)} (hN : 20000 ≤ N) (hj : j ≤ 64) (hb : 7 * j + 7 ≤ sl) (hK : mK M = zK0 sl sx) (hI : zInv j M) : ∃ M2, zInv (j + 1) M2 ∧ mK M2 = zK0 sl sx ∧ M2.2.2.2.2 = M.2.2.2.2 ∧ (zI ((0 : Int) ≤ z32 (((7 * j : Nat) : Int) + 1) ∧ z32 (((7 * j : Nat) : Int) + 1) < (mN M 102 0 : Int)) <| zI ((0 : Int) ≤ z32 (((7 * j : Nat) : Int) + 2) ∧ z32 (((7 * j : Nat) : Int) + 2) < (mN M 102 0 : Int)) <| zB (Wp_see N 0 (mKI M 102 0 (z32 (((7 * j : Nat) : Int) + 1)).toNat) (mKI M 102 0 (z32 (((7 * j : Nat) : Int) + 2)).toNat) M) fun v194 M194 => zI ((0 : Int) ≤ z32 (((7 * j : Nat) : Int) + 1) ∧ z32 (((7 * j : Nat) : Int) + 1) < (mN M194 102 0 : Int)) <| zI ((0 : Int) ≤ z32 (((7 * j : Nat) : Int) + 2) ∧ z32 (((7 * j : Nat) : Int) + 2) < (mN M194 102 0 : Int)) <| zB (Mo_see N 0 (mKI M194 102 0 (z32 (((7 * j : Nat) : Int) + 1)).toNat) (mKI M194 102 0 (z32 (((7 * j : Nat) : Int) + 2)).toNat) M194) fun v195 M195 => if v194 = v195 then zW (z32 (((7 * j : Nat) : Int) + 7)) fun x196 => rec 0 0 0 0 x196 M195 else some (0, M195)) = rec 0 0 0 0 ((7 * j + 7 : Nat) : Int) M2 := by
  obtain ⟨A, hv, hq, hc, hr⟩ := hI
  have K1 := KK hK
  simp only [zx (j := j) (i := 1) (k := 1) hj rfl (by omega), zx (j := j) (i := 2) (k := 2) hj rfl (by omega), zx (j := j) (i := 3) (k := 3) hj rfl (by omega), zx (j := j) (i := 4) (k := 4) hj rfl (by omega), zx (j := j) (i := 5) (k := 5) hj rfl (by omega), zx (j := j) (i := 6) (k := 6) hj rfl (by omega), zx (j := j) (i := 7) (k := 7) hj rfl (by omega), K1.1, K1.2, Int.toNat_natCast]
  rw [zI_t (by omega), zI_t (by omega)]
  obtain ⟨M1, e1, c1, f1⟩ := w_see (N := N) hc hv (sx (7 * j + 1)) (sx (7 * j + 2))
  have hr1 := hr.cl f1
  have s1 := zLI_ce (L_Wp_see (d := 0) e1 hK) (zG_5 (mi := 128) rfl) hK
  rw [e1, zB_s]
  obtain ⟨M2, e2, r2, f2⟩ := m_see (N := N) hr1 hv (sx (7 * j + 1)) (sx (7 * j + 2))
  have s2 := zLI_ce (L_Mo_see (d := 0) e2 s1.2) (zG_5 (mi := 251) rfl) s1.2
  have K2 := KK s1.2
  simp only [K2.1, K2.2]
  rw [zI_t (by omega), zI_t (by omega)]
  rw [e2, zB_s, if_pos rfl, zW_e]
  exact ⟨M2, ⟨dSee A (sx (7 * j + 1)) (sx (7 * j + 2)), dSee_v hv, hq.e dSee_p, c1.rl f2, r2⟩, s2.2, s2.1.trans s1.1, rfl⟩
theorem lb_winds {rec : Nat → Nat → Nat → Nat → Int → ZM → Option (Int × ZM)} (hN : 20000 ≤ N) (hj : j ≤ 64) (hb : 7 * j + 7 ≤ sl) (hK : mK M = zK0 sl sx) (hI : zInv j M) : ∃ M2, zInv (j + 1) M2 ∧ mK M2 = zK0 sl sx ∧ M2.2.2.2.2 = M.2.2.2.2 ∧ (zI ((0 : Int) ≤ z32 (((7 * j : Nat) : Int) + 1) ∧ z32 (((7 * j : Nat) : Int) + 1) < (mN M 102 0 : Int)) <| zB (Wp_winds N 0 (mKI M 102 0 (z32 (((7 * j : Nat) : Int) + 1)).toNat) M) fun v197 M197 => zI ((0 : Int) ≤ z32 (((7 * j : Nat) : Int) + 1) ∧ z32 (((7 * j : Nat) : Int) + 1) < (mN M197 102 0 : Int)) <| zB (Mo_winds N 0 (mKI M197 102 0 (z32 (((7 * j : Nat) : Int) + 1)).toNat) M197) fun v198 M198 => if v197 = v198 then zW (z32 (((7 * j : Nat) : Int) + 7)) fun x199 => rec 0 0 0 0 x199 M198 else some (0, M198)) = rec 0 0 0 0 ((7 * j + 7 : Nat) : Int) M2 := by
  obtain ⟨A, hv, hq, hc, hr⟩ := hI
  have K1 := KK hK
  simp only [zx (j := j) (i := 1) (k := 1) hj rfl (by omega), zx (j := j) (i := 2) (k := 2) hj rfl (by omega), zx (j := j) (i := 3) (k := 3) hj rfl (by omega), zx (j := j) (i := 4) (k := 4) hj rfl (by omega), zx (j := j) (i := 5) (k := 5) hj rfl (by omega), zx (j := j) (i := 6) (k := 6) hj rfl (by omega), zx (j := j) (i := 7) (k := 7) hj rfl (by omega), K1.1, K1.2, Int.toNat_natCast]
  rw [zI_t (by omega)]
  obtain ⟨M1, e1, g1⟩ := w_winds (N := N) hc hv (by omega) (sx (7 * j + 1))
  have c1 := hc.fx g1
  have f1 : zCl M M1 := g1.cl fX_rk
  have hr1 := hr.cl f1
  have s1 := zLI_ce (L_Wp_winds (d := 0) e1 hK) (zG_5 (mi := 129) rfl) hK
  rw [e1, zB_s]
  obtain ⟨M2, e2, r2, f2⟩ := m_winds (N := N) hr1 hv (by omega) (sx (7 * j + 1))
  have s2 := zLI_ce (L_Mo_winds (d := 0) e2 s1.2) (zG_5 (mi := 252) rfl) s1.2
  have K2 := KK s1.2
  simp only [K2.1, K2.2]
  rw [zI_t (by omega)]
  rw [e2, zB_s, if_pos rfl, zW_e]
  exact ⟨M2, ⟨A, hv.up (Nat.le_succ j), hq, c1.rl f2, r2⟩, s2.2, s2.1.trans s1.1, rfl⟩
theorem lb_ask {rec : Nat → Nat → Nat → Nat → Int → ZM → Option (Int × ZM)} (hN : 20000 ≤ N) (hj : j ≤ 64) (hb : 7 * j + 7 ≤ sl) (hK : mK M = zK0 sl sx) (hI : zInv j M) : ∃ M2, zInv (j + 1) M2 ∧ mK M2 = zK0 sl sx ∧ M2.2.2.2.2 = M.2.2.2.2 ∧ (zB (Wp_ask N 0 M) fun v200 M200 => zB (Mo_ask N 0 M200) fun v201 M201 => if v200 = v201 then zW (z32 (((7 * j : Nat) : Int) + 7)) fun x202 => rec 0 0 0 0 x202 M201 else some (0, M201)) = rec 0 0 0 0 ((7 * j + 7 : Nat) : Int) M2 := by
  obtain ⟨A, hv, hq, hc, hr⟩ := hI
  have K1 := KK hK
  simp only [zx (j := j) (i := 1) (k := 1) hj rfl (by omega), zx (j := j) (i := 2) (k := 2) hj rfl (by omega), zx (j := j) (i := 3) (k := 3) hj rfl (by omega), zx (j := j) (i := 4) (k := 4) hj rfl (by omega), zx (j := j) (i := 5) (k := 5) hj rfl (by omega), zx (j := j) (i := 6) (k := 6) hj rfl (by omega), zx (j := j) (i := 7) (k := 7) hj rfl (by omega)]
  obtain ⟨M1, e1, g1⟩ := w_ask (N := N) hc hv (by omega)
  have c1 := hc.fx g1
  have f1 : zCl M M1 := g1.cl fX_rk
  have hr1 := hr.cl f1
  have s1 := zLI_ce (L_Wp_ask (d := 0) e1 hK) (zG_5 (mi := 130) rfl) hK
  rw [e1, zB_s]
  obtain ⟨M2, e2, r2, f2⟩ := m_ask (N := N) hr1 hv (by omega)
  have s2 := zLI_ce (L_Mo_ask (d := 0) e2 s1.2) (zG_5 (mi := 253) rfl) s1.2
  rw [e2, zB_s, if_pos rfl, zW_e]
  exact ⟨M2, ⟨A, hv.up (Nat.le_succ j), hq, c1.rl f2, r2⟩, s2.2, s2.1.trans s1.1, rfl⟩
theorem lb_chance {rec : Nat → Nat → Nat → Nat → Int → ZM → Option (Int × ZM)} (hN : 20000 ≤ N) (hj : j ≤ 64) (hb : 7 * j + 7 ≤ sl) (hK : mK M = zK0 sl sx) (hI : zInv j M) : ∃ M2, zInv (j + 1) M2 ∧ mK M2 = zK0 sl sx ∧ M2.2.2.2.2 = M.2.2.2.2 ∧ (zI ((0 : Int) ≤ z32 (((7 * j : Nat) : Int) + 1) ∧ z32 (((7 * j : Nat) : Int) + 1) < (mN M 102 0 : Int)) <| zI ((0 : Int) ≤ z32 (((7 * j : Nat) : Int) + 2) ∧ z32 (((7 * j : Nat) : Int) + 2) < (mN M 102 0 : Int)) <| zI ((0 : Int) ≤ z32 (((7 * j : Nat) : Int) + 3) ∧ z32 (((7 * j : Nat) : Int) + 3) < (mN M 102 0 : Int)) <| zB (Wp_chance N 0 (mKI M 102 0 (z32 (((7 * j : Nat) : Int) + 1)).toNat) (mKI M 102 0 (z32 (((7 * j : Nat) : Int) + 2)).toNat) (mKI M 102 0 (z32 (((7 * j : Nat) : Int) + 3)).toNat) M) fun v203 M203 => zI ((0 : Int) ≤ z32 (((7 * j : Nat) : Int) + 1) ∧ z32 (((7 * j : Nat) : Int) + 1) < (mN M203 102 0 : Int)) <| zI ((0 : Int) ≤ z32 (((7 * j : Nat) : Int) + 2) ∧ z32 (((7 * j : Nat) : Int) + 2) < (mN M203 102 0 : Int)) <| zI ((0 : Int) ≤ z32 (((7 * j : Nat) : Int) + 3) ∧ z32 (((7 * j : Nat) : Int) + 3) < (mN M203 102 0 : Int)) <| zB (Mo_chance N 0 (mKI M203 102 0 (z32 (((7 * j : Nat) : Int) + 1)).toNat) (mKI M203 102 0 (z32 (((7 * j : Nat) : Int) + 2)).toNat) (mKI M203 102 0 (z32 (((7 * j : Nat) : Int) + 3)).toNat) M203) fun v204 M204 => if v203 = v204 then zW (z32 (((7 * j : Nat) : Int) + 7)) fun x205 => rec 0 0 0 0 x205 M204 else some (0, M204)) = rec 0 0 0 0 ((7 * j + 7 : Nat) : Int) M2 := by
  obtain ⟨A, hv, hq, hc, hr⟩ := hI
  have K1 := KK hK
  simp only [zx (j := j) (i := 1) (k := 1) hj rfl (by omega), zx (j := j) (i := 2) (k := 2) hj rfl (by omega), zx (j := j) (i := 3) (k := 3) hj rfl (by omega), zx (j := j) (i := 4) (k := 4) hj rfl (by omega), zx (j := j) (i := 5) (k := 5) hj rfl (by omega), zx (j := j) (i := 6) (k := 6) hj rfl (by omega), zx (j := j) (i := 7) (k := 7) hj rfl (by omega), K1.1, K1.2, Int.toNat_natCast]
  rw [zI_t (by omega), zI_t (by omega), zI_t (by omega)]
  obtain ⟨M1, e1, g1⟩ := w_chance (N := N) hc hv (by omega) (sx (7 * j + 1)) (sx (7 * j + 2)) (sx (7 * j + 3))
  have c1 := hc.fx g1
  have f1 : zCl M M1 := g1.cl fX_rk
  have hr1 := hr.cl f1
  have s1 := zLI_ce (L_Wp_chance (d := 0) e1 hK) (zG_5 (mi := 131) rfl) hK
  rw [e1, zB_s]
  obtain ⟨M2, e2, r2, f2⟩ := m_chance (N := N) hr1 hv (by omega) (sx (7 * j + 1)) (sx (7 * j + 2)) (sx (7 * j + 3))
  have s2 := zLI_ce (L_Mo_chance (d := 0) e2 s1.2) (zG_5 (mi := 254) rfl) s1.2
  have K2 := KK s1.2
  simp only [K2.1, K2.2]
  rw [zI_t (by omega), zI_t (by omega), zI_t (by omega)]
  rw [e2, zB_s, if_pos rfl, zW_e]
  exact ⟨M2, ⟨A, hv.up (Nat.le_succ j), hq, c1.rl f2, r2⟩, s2.2, s2.1.trans s1.1, rfl⟩
theorem lb_days {rec : Nat → Nat → Nat → Nat → Int → ZM → Option (Int × ZM)} (hN : 20000 ≤ N) (hj : j ≤ 64) (hb : 7 * j + 7 ≤ sl) (hK : mK M = zK0 sl sx) (hI : zInv j M) : ∃ M2, zInv (j + 1) M2 ∧ mK M2 = zK0 sl sx ∧ M2.2.2.2.2 = M.2.2.2.2 ∧ (zI ((0 : Int) ≤ z32 (((7 * j : Nat) : Int) + 1) ∧ z32 (((7 * j : Nat) : Int) + 1) < (mN M 102 0 : Int)) <| zI ((0 : Int) ≤ z32 (((7 * j : Nat) : Int) + 2) ∧ z32 (((7 * j : Nat) : Int) + 2) < (mN M 102 0 : Int)) <| zI ((0 : Int) ≤ z32 (((7 * j : Nat) : Int) + 3) ∧ z32 (((7 * j : Nat) : Int) + 3) < (mN M 102 0 : Int)) <| zB (Wp_days N 0 (mKI M 102 0 (z32 (((7 * j : Nat) : Int) + 1)).toNat) (mKI M 102 0 (z32 (((7 * j : Nat) : Int) + 2)).toNat) (mKI M 102 0 (z32 (((7 * j : Nat) : Int) + 3)).toNat) M) fun v214 M214 => zI ((0 : Int) ≤ z32 (((7 * j : Nat) : Int) + 1) ∧ z32 (((7 * j : Nat) : Int) + 1) < (mN M214 102 0 : Int)) <| zI ((0 : Int) ≤ z32 (((7 * j : Nat) : Int) + 2) ∧ z32 (((7 * j : Nat) : Int) + 2) < (mN M214 102 0 : Int)) <| zI ((0 : Int) ≤ z32 (((7 * j : Nat) : Int) + 3) ∧ z32 (((7 * j : Nat) : Int) + 3) < (mN M214 102 0 : Int)) <| zB (Mo_days N 0 (mKI M214 102 0 (z32 (((7 * j : Nat) : Int) + 1)).toNat) (mKI M214 102 0 (z32 (((7 * j : Nat) : Int) + 2)).toNat) (mKI M214 102 0 (z32 (((7 * j : Nat) : Int) + 3)).toNat) M214) fun v215 M215 => if v214 = v215 then zW (z32 (((7 * j : Nat) : Int) + 7)) fun x216 => rec 0 0 0 0 x216 M215 else some (0, M215)) = rec 0 0 0 0 ((7 * j + 7 : Nat) : Int) M2 := by
  obtain ⟨A, hv, hq, hc, hr⟩ := hI
  have K1 := KK hK
  simp only [zx (j := j) (i := 1) (k := 1) hj rfl (by omega), zx (j := j) (i := 2) (k := 2) hj rfl (by omega), zx (j := j) (i := 3) (k := 3) hj rfl (by omega), zx (j := j) (i := 4) (k := 4) hj rfl (by omega), zx (j := j) (i := 5) (k := 5) hj rfl (by omega), zx (j := j) (i := 6) (k := 6) hj rfl (by omega), zx (j := j) (i := 7) (k := 7) hj rfl (by omega), K1.1, K1.2, Int.toNat_natCast]
  rw [zI_t (by omega), zI_t (by omega), zI_t (by omega)]
  obtain ⟨M1, e1, g1⟩ := w_days (N := N) hc hv (by omega) (by omega) (sx (7 * j + 1)) (sx (7 * j + 2)) (sx (7 * j + 3))
  have c1 := hc.fx g1
  have f1 : zCl M M1 := g1.cl fX_rk
  have hr1 := hr.cl f1
  have s1 := zLI_ce (L_Wp_days (d := 0) e1 hK) (zG_5 (mi := 133) rfl) hK
  rw [e1, zB_s]
  obtain ⟨M2, e2, r2, f2⟩ := m_days (N := N) hr1 hv (by omega) (by omega) (sx (7 * j + 1)) (sx (7 * j + 2)) (sx (7 * j + 3))
  have s2 := zLI_ce (L_Mo_days (d := 0) e2 s1.2) (zG_5 (mi := 259) rfl) s1.2
  have K2 := KK s1.2
  simp only [K2.1, K2.2]
  rw [zI_t (by omega), zI_t (by omega), zI_t (by omega)]
  rw [e2, zB_s, if_pos rfl, zW_e]
  exact ⟨M2, ⟨A, hv.up (Nat.le_succ j), hq, c1.rl f2, r2⟩, s2.2, s2.1.trans s1.1, rfl⟩
theorem lb_count {rec : Nat → Nat → Nat → Nat → Int → ZM → Option (Int × ZM)} (hN : 20000 ≤ N) (hj : j ≤ 64) (hb : 7 * j + 7 ≤ sl) (hK : mK M = zK0 sl sx) (hI : zInv j M) : ∃ M2, zInv (j + 1) M2 ∧ mK M2 = zK0 sl sx ∧ M2.2.2.2.2 = M.2.2.2.2 ∧ (zI ((0 : Int) ≤ z32 (((7 * j : Nat) : Int) + 1) ∧ z32 (((7 * j : Nat) : Int) + 1) < (mN M 102 0 : Int)) <| zB (Wp_count N 0 (mKI M 102 0 (z32 (((7 * j : Nat) : Int) + 1)).toNat) M) fun v217 M217 => zI ((0 : Int) ≤ z32 (((7 * j : Nat) : Int) + 1) ∧ z32 (((7 * j : Nat) : Int) + 1) < (mN M217 102 0 : Int)) <| zB (Mo_count N 0 (mKI M217 102 0 (z32 (((7 * j : Nat) : Int) + 1)).toNat) M217) fun v218 M218 => if v217 = v218 then zW (z32 (((7 * j : Nat) : Int) + 7)) fun x219 => rec 0 0 0 0 x219 M218 else some (0, M218)) = rec 0 0 0 0 ((7 * j + 7 : Nat) : Int) M2 := by
  obtain ⟨A, hv, hq, hc, hr⟩ := hI
  have K1 := KK hK
  simp only [zx (j := j) (i := 1) (k := 1) hj rfl (by omega), zx (j := j) (i := 2) (k := 2) hj rfl (by omega), zx (j := j) (i := 3) (k := 3) hj rfl (by omega), zx (j := j) (i := 4) (k := 4) hj rfl (by omega), zx (j := j) (i := 5) (k := 5) hj rfl (by omega), zx (j := j) (i := 6) (k := 6) hj rfl (by omega), zx (j := j) (i := 7) (k := 7) hj rfl (by omega), K1.1, K1.2, Int.toNat_natCast]
  rw [zI_t (by omega)]
  obtain ⟨M1, e1, g1⟩ := w_count (N := N) hc hv (by omega) (sx (7 * j + 1))
  have c1 := hc.fx g1
  have f1 : zCl M M1 := g1.cl fX_rk
  have hr1 := hr.cl f1
  have s1 := zLI_ce (L_Wp_count (d := 0) e1 hK) (zG_5 (mi := 135) rfl) hK
  rw [e1, zB_s]
  obtain ⟨M2, e2, r2, f2⟩ := m_count (N := N) hr1 hv (by omega) (sx (7 * j + 1))
  have s2 := zLI_ce (L_Mo_count (d := 0) e2 s1.2) (zG_5 (mi := 261) rfl) s1.2
  have K2 := KK s1.2
  simp only [K2.1, K2.2]
  rw [zI_t (by omega)]
  rw [e2, zB_s, if_pos rfl, zW_e]
  exact ⟨M2, ⟨A, hv.up (Nat.le_succ j), hq, c1.rl f2, r2⟩, s2.2, s2.1.trans s1.1, rfl⟩
theorem lb_mark {rec : Nat → Nat → Nat → Nat → Int → ZM → Option (Int × ZM)} (hN : 20000 ≤ N) (hj : j ≤ 64) (hb : 7 * j + 7 ≤ sl) (hK : mK M = zK0 sl sx) (hI : zInv j M) : ∃ M2, zInv (j + 1) M2 ∧ mK M2 = zK0 sl sx ∧ M2.2.2.2.2 = M.2.2.2.2 ∧ (zI ((0 : Int) ≤ z32 (((7 * j : Nat) : Int) + 1) ∧ z32 (((7 * j : Nat) : Int) + 1) < (mN M 102 0 : Int)) <| zI ((0 : Int) ≤ z32 (((7 * j : Nat) : Int) + 2) ∧ z32 (((7 * j : Nat) : Int) + 2) < (mN M 102 0 : Int)) <| if mKI M 102 0 (z32 (((7 * j : Nat) : Int) + 2)).toNat = 0 then Lw_law_1311 N rec 0 0 0 0 ((7 * j : Nat) : Int) 0 (mKI M 102 0 (z32 (((7 * j : Nat) : Int) + 1)).toNat) 0 M else Lw_law_1311 N rec 0 0 0 0 ((7 * j : Nat) : Int) 0 (mKI M 102 0 (z32 (((7 * j : Nat) : Int) + 1)).toNat) 1 M) = rec 0 0 0 0 ((7 * j + 7 : Nat) : Int) M2 := by
  obtain ⟨A, hv, hq, hc, hr⟩ := hI
  have K1 := KK hK
  have key : ∀ y : Int, (if sx (7 * j + 2) = 0 then (0 : Int) else 1) = y → ∃ M2, zInv (j + 1) M2 ∧ mK M2 = zK0 sl sx ∧ M2.2.2.2.2 = M.2.2.2.2 ∧ Lw_law_1311 N rec 0 0 0 0 ((7 * j : Nat) : Int) 0 (sx (7 * j + 1)) y M = rec 0 0 0 0 ((7 * j + 7 : Nat) : Int) M2 := by
    intro y hy
    obtain ⟨M1, e1, c1, f1⟩ := w_mark (N := N) hc hv (by omega) (sx (7 * j + 1)) y
    have hr1 := hr.cl f1
    have s1 := zLI_ce (L_Wp_mark (d := 0) e1 hK) (zG_5 (mi := 134) rfl) hK
    obtain ⟨M2, e2, r2, f2⟩ := m_mark (N := N) hr1 hv (by omega) (sx (7 * j + 1)) y
    have s2 := zLI_ce (L_Mo_mark (d := 0) e2 s1.2) (zG_5 (mi := 260) rfl) s1.2
    have K2 := KK s1.2
    unfold Lw_law_1311 Lw_law_1335
    rw [e1, zB_s]
    simp only [zx (j := j) (i := 1) (k := 1) hj rfl (by omega), zx (j := j) (i := 2) (k := 2) hj rfl (by omega), zx (j := j) (i := 3) (k := 3) hj rfl (by omega), zx (j := j) (i := 4) (k := 4) hj rfl (by omega), zx (j := j) (i := 5) (k := 5) hj rfl (by omega), zx (j := j) (i := 6) (k := 6) hj rfl (by omega), zx (j := j) (i := 7) (k := 7) hj rfl (by omega), K2.1, K2.2, Int.toNat_natCast]
    rw [zI_t (by omega), zI_t (by omega)]
    refine ⟨M2, ⟨dMark A (sx (7 * j + 1)) y, dMark_v hv, hq.e dMark_p, c1.rl f2, r2⟩, s2.2, s2.1.trans s1.1, ?_⟩
    by_cases c0 : sx (7 * j + 2) = 0
    · rw [if_pos c0] at hy ⊢
      subst hy
      rw [e2, zB_s, if_pos rfl, zW_e]
    · rw [if_neg c0] at hy ⊢
      subst hy
      rw [e2, zB_s, if_pos rfl, zW_e]
  simp only [zx (j := j) (i := 1) (k := 1) hj rfl (by omega), zx (j := j) (i := 2) (k := 2) hj rfl (by omega), zx (j := j) (i := 3) (k := 3) hj rfl (by omega), zx (j := j) (i := 4) (k := 4) hj rfl (by omega), zx (j := j) (i := 5) (k := 5) hj rfl (by omega), zx (j := j) (i := 6) (k := 6) hj rfl (by omega), zx (j := j) (i := 7) (k := 7) hj rfl (by omega), K1.1, K1.2, Int.toNat_natCast]
  rw [zI_t (by omega), zI_t (by omega)]
  by_cases c0 : sx (7 * j + 2) = 0
  · rw [if_pos c0]
    exact key 0 (if_pos c0)
  · rw [if_neg c0]
    exact key 1 (if_neg c0)
theorem lb_rests {rec : Nat → Nat → Nat → Nat → Int → ZM → Option (Int × ZM)} (hN : 20000 ≤ N) (hj : j ≤ 64) (hb : 7 * j + 7 ≤ sl) (hK : mK M = zK0 sl sx) (hI : zInv j M) : ∃ M2, zInv (j + 1) M2 ∧ mK M2 = zK0 sl sx ∧ M2.2.2.2.2.1 ≤ M.2.2.2.2.1 + 1 ∧ M2.2.2.2.2.2 ≤ M.2.2.2.2.2 + 6 ∧ (zI ((0 : Int) ≤ z32 (((7 * j : Nat) : Int) + 1) ∧ z32 (((7 * j : Nat) : Int) + 1) < (mN M 102 0 : Int)) <| zI ((0 : Int) ≤ z32 (((7 * j : Nat) : Int) + 2) ∧ z32 (((7 * j : Nat) : Int) + 2) < (mN M 102 0 : Int)) <| zI ((0 : Int) ≤ z32 (((7 * j : Nat) : Int) + 3) ∧ z32 (((7 * j : Nat) : Int) + 3) < (mN M 102 0 : Int)) <| zI ((0 : Int) ≤ z32 (((7 * j : Nat) : Int) + 4) ∧ z32 (((7 * j : Nat) : Int) + 4) < (mN M 102 0 : Int)) <| if zrt (mKI M 102 0 (z32 (((7 * j : Nat) : Int) + 1)).toNat) (mKI M 102 0 (z32 (((7 * j : Nat) : Int) + 2)).toNat) (mKI M 102 0 (z32 (((7 * j : Nat) : Int) + 3)).toNat) (mKI M 102 0 (z32 (((7 * j : Nat) : Int) + 4)).toNat) = 1 then zW (pCe M 6) fun M206 => zI ((0 : Int) ≤ z32 (((7 * j : Nat) : Int) + 1) ∧ z32 (((7 * j : Nat) : Int) + 1) < (mN M206 102 0 : Int)) <| zI ((0 : Int) ≤ z32 (((7 * j : Nat) : Int) + 2) ∧ z32 (((7 * j : Nat) : Int) + 2) < (mN M206 102 0 : Int)) <| zI ((0 : Int) ≤ z32 (((7 * j : Nat) : Int) + 3) ∧ z32 (((7 * j : Nat) : Int) + 3) < (mN M206 102 0 : Int)) <| zI ((0 : Int) ≤ z32 (((7 * j : Nat) : Int) + 4) ∧ z32 (((7 * j : Nat) : Int) + 4) < (mN M206 102 0 : Int)) <| zB (Mo_rests N 0 (mKI M206 102 0 (z32 (((7 * j : Nat) : Int) + 1)).toNat) (mKI M206 102 0 (z32 (((7 * j : Nat) : Int) + 2)).toNat) (mKI M206 102 0 (z32 (((7 * j : Nat) : Int) + 3)).toNat) (mKI M206 102 0 (z32 (((7 * j : Nat) : Int) + 4)).toNat) M206) fun v208 M208 => zB (Mo_thrown N 0 M208) fun v209 M209 => if v209 = 1 then zW (z32 (((7 * j : Nat) : Int) + 7)) fun x210 => rec 0 0 0 0 x210 M209 else some (0, M209) else zW (pL M 103 0 0 (zrv (mKI M 102 0 (z32 (((7 * j : Nat) : Int) + 1)).toNat) (mKI M 102 0 (z32 (((7 * j : Nat) : Int) + 2)).toNat) (mKI M 102 0 (z32 (((7 * j : Nat) : Int) + 3)).toNat) (mKI M 102 0 (z32 (((7 * j : Nat) : Int) + 4)).toNat))) fun M207 => zI ((0 : Int) ≤ z32 (((7 * j : Nat) : Int) + 1) ∧ z32 (((7 * j : Nat) : Int) + 1) < (mN M207 102 0 : Int)) <| zI ((0 : Int) ≤ z32 (((7 * j : Nat) : Int) + 2) ∧ z32 (((7 * j : Nat) : Int) + 2) < (mN M207 102 0 : Int)) <| zI ((0 : Int) ≤ z32 (((7 * j : Nat) : Int) + 3) ∧ z32 (((7 * j : Nat) : Int) + 3) < (mN M207 102 0 : Int)) <| zI ((0 : Int) ≤ z32 (((7 * j : Nat) : Int) + 4) ∧ z32 (((7 * j : Nat) : Int) + 4) < (mN M207 102 0 : Int)) <| zB (Mo_rests N 0 (mKI M207 102 0 (z32 (((7 * j : Nat) : Int) + 1)).toNat) (mKI M207 102 0 (z32 (((7 * j : Nat) : Int) + 2)).toNat) (mKI M207 102 0 (z32 (((7 * j : Nat) : Int) + 3)).toNat) (mKI M207 102 0 (z32 (((7 * j : Nat) : Int) + 4)).toNat) M207) fun v211 M211 => zB (Mo_thrown N 0 M211) fun v212 M212 => if v212 = 0 then if z_lcmp (mL M212 103 0 0) v211 = 0 then zW (z32 (((7 * j : Nat) : Int) + 7)) fun x213 => rec 0 0 0 0 x213 M212 else some (0, M212) else some (0, M212)) = rec 0 0 0 0 ((7 * j + 7 : Nat) : Int) M2 := by
  obtain ⟨A, hv, hq, hc, hr⟩ := hI
  have K1 := KK hK
  simp only [zx (j := j) (i := 1) (k := 1) hj rfl (by omega), zx (j := j) (i := 2) (k := 2) hj rfl (by omega), zx (j := j) (i := 3) (k := 3) hj rfl (by omega), zx (j := j) (i := 4) (k := 4) hj rfl (by omega), zx (j := j) (i := 5) (k := 5) hj rfl (by omega), zx (j := j) (i := 6) (k := 6) hj rfl (by omega), zx (j := j) (i := 7) (k := 7) hj rfl (by omega), K1.1, K1.2, Int.toNat_natCast]
  rw [zI_t (by omega), zI_t (by omega), zI_t (by omega), zI_t (by omega)]
  by_cases c0 : zrt (sx (7 * j + 1)) (sx (7 * j + 2)) (sx (7 * j + 3)) (sx (7 * j + 4)) = 1
  · rw [if_pos c0, zW_e]
    have f0 : zRl M (pCe M 6) := ⟨rfl, rfl, fun _ _ _ _ => rfl, fun _ _ _ _ => rfl⟩
    have f0' : zCl M (pCe M 6) := ⟨rfl, fun _ _ _ _ => rfl, fun _ _ _ _ => rfl⟩
    have hr1 := hr.cl f0'
    have hc1 := hc.rl f0
    obtain ⟨M2, e2, t2, r2, f2⟩ := m_rests (N := N) hr1 (by omega) (sx (7 * j + 1)) (sx (7 * j + 2)) (sx (7 * j + 3)) (sx (7 * j + 4))
    have hK1 : mK (pCe M 6) = zK0 sl sx := hK
    have s2 := zLI_ce (L_Mo_rests (d := 0) e2 hK1) (zG_5 (mi := 256) rfl) hK1
    have K2 := KK hK1
    simp only [K2.1, K2.2]
    rw [zI_t (by omega), zI_t (by omega), zI_t (by omega), zI_t (by omega), e2, zB_s]
    unfold Mo_thrown
    rw [zB_s, t2, if_pos c0, zW_e]
    refine ⟨M2, ⟨A, hv.up (Nat.le_succ j), hq, hc1.rl f2, r2⟩, s2.2, ?_, ?_, rfl⟩
    · rw [s2.1]; exact Nat.le_refl _
    · rw [s2.1]; exact Nat.le_refl _
  · rw [if_neg c0, zW_e]
    generalize hM1 : pL M 103 0 0 (zrv (sx (7 * j + 1)) (sx (7 * j + 2)) (sx (7 * j + 3)) (sx (7 * j + 4))) = M1
    have L1 : ∀ t i k, t ≠ 103 → mL M1 t i k = mL M t i k := fun t i k ht => by
      rw [← hM1]
      exact if_neg (fun q => ht q.1)
    have hK1 : mK M1 = zK0 sl sx := by rw [← hM1]; exact hK
    have f0' : zCl M M1 := ⟨by rw [← hM1]; rfl, fun _ _ _ _ => by rw [← hM1]; rfl, fun t i k h => L1 t i k (fun q => by rw [q] at h; cases h)⟩
    have hr1 := hr.cl f0'
    have hc1 : CA A M1 := hc.l1 (by rw [← hM1]; rfl) (by rw [← hM1]; rfl) (fun t i k => by rw [← hM1]; rfl) (fun i k => L1 _ _ _ (by omega))
    have l103 : mL M1 103 0 0 = zrv (sx (7 * j + 1)) (sx (7 * j + 2)) (sx (7 * j + 3)) (sx (7 * j + 4)) := by rw [← hM1, mL_pL, if_pos ⟨rfl, rfl, rfl⟩]
    have cc : M1.2.2.2.2 = M.2.2.2.2 := by rw [← hM1]; rfl
    obtain ⟨M2, e2, t2, r2, f2⟩ := m_rests (N := N) hr1 (by omega) (sx (7 * j + 1)) (sx (7 * j + 2)) (sx (7 * j + 3)) (sx (7 * j + 4))
    have s2 := zLI_ce (L_Mo_rests (d := 0) e2 hK1) (zG_5 (mi := 256) rfl) hK1
    have K2 := KK hK1
    simp only [K2.1, K2.2]
    rw [zI_t (by omega), zI_t (by omega), zI_t (by omega), zI_t (by omega), e2, zB_s]
    unfold Mo_thrown
    have z0 : zrt (sx (7 * j + 1)) (sx (7 * j + 2)) (sx (7 * j + 3)) (sx (7 * j + 4)) = 0 := by
      unfold zrt at c0 ⊢
      split
      · next h => rw [h] at c0; exact absurd rfl c0
      · rfl
    have l2 : mL M2 103 0 0 = zrv (sx (7 * j + 1)) (sx (7 * j + 2)) (sx (7 * j + 3)) (sx (7 * j + 4)) := (f2.2.2.2 _ _ _ rfl).trans l103
    rw [zB_s, t2, z0, if_pos rfl, l2, if_pos (z_lcmp0.2 rfl), zW_e]
    refine ⟨M2, ⟨A, hv.up (Nat.le_succ j), hq, hc1.rl f2, r2⟩, s2.2, ?_, ?_, rfl⟩
    · rw [s2.1, cc]; exact Nat.le_succ _
    · rw [s2.1, cc]; exact Nat.le_add_right _ _
end PAIR
