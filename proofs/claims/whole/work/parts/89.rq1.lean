/-! Questions, the reference. -/
theorem zor_0n {b : Nat} (h : b < 64) : z_or (b : Int) 0 = (b : Int) := by
  have := zor_n b h 0 (by decide)
  rw [Nat.or_zero] at this
  exact this
section RQ
variable {N c : Nat} {A : AK} {M M' : ZM}
theorem RA.k (h : RA A M) : KM M := h.1
theorem RA.p (h : RA A M) : RP (aP A) M := h.2.1
theorem RA.s (h : RA A M) : R0 (qN (aP A)) (aS A) M := h.2.2.1
theorem r_within (x l m : Int) : Mo_within N x l m M = some (if l ≤ x ∧ x ≤ m then 1 else 0, M) := by
  unfold Mo_within
  by_cases b1 : x < l
  · rw [if_pos b1, if_neg (by omega)]
  · rw [if_neg b1]
    by_cases b2 : m < x
    · rw [if_pos b2, if_neg (by omega)]
    · rw [if_neg b2, if_pos (by omega)]
theorem r_isTurbine {P : PK} (h : RP P M) (x : Int) : Mo_isTurbine N 0 x M = some (if 0 ≤ x ∧ x < qN P then 1 else 0, M) := by
  unfold Mo_isTurbine
  rw [h.n]
  by_cases b1 : x < 0
  · rw [if_pos b1, if_neg (by omega)]
  · rw [if_neg b1]
    by_cases b2 : x < qN P
    · rw [if_pos b2, if_pos (by omega)]
    · rw [if_neg b2, if_neg (by omega)]
theorem RA.q (h : RA A M) (f : zfr fQ M M') (s : R0 (qN (aP A)) (aS A) M') : RA A M' ∧ zRl M M' := ⟨h.fq f s, f.rl fQ_rk⟩
theorem RA.qr (h : RA A M) (f : zfr fr M M') : RA A M' ∧ zRl M M' := h.q (f.mo fr_Q) (h.s.fr f (fun k _ _ => fr_s (by omega) k))
theorem f0Q {M : ZM} {x : Int} : zfr fQ M (pI M 11 0 0 x) := (zfr.rf M).pI (by simp [fQ])
theorem R0.z {n : Nat} {S : SK} (h : R0 n S M) (x : Int) : R0 n S (pI M 11 0 0 x) := by
  obtain ⟨q1, q2, q3, q4, q5⟩ := h
  exact ⟨fun k hk => ⟨(mI_pI_ne (by omega)).trans (q1 k hk).1, (mI_pI_ne (by omega)).trans (q1 k hk).2⟩, (mI_pI_ne (by omega)).trans q2, (mI_pI_ne (by omega)).trans q3, (mI_pI_ne (by omega)).trans q4, (mI_pI_ne (by omega)).trans q5⟩
theorem RA.z (h : RA A M) (x : Int) : RA A (pI M 11 0 0 x) := h.fq f0Q (R0.z h.s x)
theorem zRl.z (x : Int) : zRl M (pI M 11 0 0 x) := f0Q.rl fQ_rk
/-- what each of them ends with -/
theorem RA.e0 (h : RA A M) {v w : Int} (hw : v = w) : ∃ M', some (v, pI M 11 0 0 0) = some (w, M') ∧ RA A M' ∧ zRl M M' := ⟨_, by rw [hw], h.z 0, zRl.z 0⟩
theorem RA.e1 (h : RA A M) {M1 : ZM} (f : zfr fr (pI M 11 0 0 0) M1) {v w : Int} (hw : v = w) : ∃ M', some (v, M1) = some (w, M') ∧ RA A M' ∧ zRl M M' := by
  obtain ⟨a, b⟩ := (h.z 0).qr f
  exact ⟨_, by rw [hw], a, (zRl.z 0).tr b⟩
theorem m_turbine (h : RA A M) (hv : VA c A) (x w : Int) : ∃ M', Mo_turbine N 0 x w M = some (qTurbine A x w, M') ∧ RA A M' ∧ zRl M M' := by
  have h6 := hv.p.n
  have h0 := h.z 0
  have hp := h0.p
  have hs := h0.s
  unfold Mo_turbine qTurbine
  simp only [zW_e]
  rw [r_isTurbine hp, zB_s]
  by_cases b : 0 ≤ x ∧ x < qN (aP A)
  · obtain ⟨k, rfl⟩ : ∃ k : Nat, x = k := ⟨x.toNat, by omega⟩
    have hk : k < qN (aP A) := by omega
    rw [if_pos b, if_neg (by decide), if_pos b, r_within, zB_s]
    by_cases b2 : 0 ≤ w ∧ w ≤ 8
    · rw [if_pos b2, if_neg (by decide), r_isShut hv.p hs hk, r_isBroken hs (hv.s.b hv.p) (by omega), zB_s, zB_s]
      have e4 : z32 (4 + (k : Int)) = ((4 + k : Nat) : Int) := by rw [zs (by omega)]; omega
      have e10 : z32 (10 + (k : Int)) = ((10 + k : Nat) : Int) := by rw [zs (by omega)]; omega
      rw [e4, e10]
      clear e4 e10
      have i12 : (0 : Int) ≤ (k : Int) ∧ (k : Int) < 12 := by omega
      have i16 : (0 : Int) ≤ ((4 + k : Nat) : Int) ∧ ((4 + k : Nat) : Int) < 16 := by omega
      have i17 : (0 : Int) ≤ ((10 + k : Nat) : Int) ∧ ((10 + k : Nat) : Int) < 16 := by omega
      rw [zI_t i12, zI_t i12, zI_t i12, zI_t i16, zI_t i17, zI_t i12, zI_t i12, Int.toNat_natCast, Int.toNat_natCast, Int.toNat_natCast, hp.k hk, hp.o hk, hp.c hk, hs.a (by omega), hs.w (by omega), hp.g hk, hp.h hk]
      have c9 : w = 0 ∨ w = 1 ∨ w = 2 ∨ w = 3 ∨ w = 4 ∨ w = 5 ∨ w = 6 ∨ w = 7 ∨ w = 8 := by omega
      rcases c9 with rfl | rfl | rfl | rfl | rfl | rfl | rfl | rfl | rfl
      · exact h.e0 rfl
      · exact h.e0 rfl
      · exact h.e0 rfl
      · exact h.e0 rfl
      · simp only [show ¬ ((4 : Int) < 3) by decide, show ((4 : Int) < 6) by decide, show ¬ ((4 : Int) = 3) by decide, if_true, if_false]
        cases zbt (sO (aS A)) k
        · exact h.e0 rfl
        · exact h.e0 rfl
      · simp only [show ¬ ((5 : Int) < 3) by decide, show ((5 : Int) < 6) by decide, show ¬ ((5 : Int) = 3) by decide, show ¬ ((5 : Int) = 4) by decide, if_true, if_false]
        cases zbt (sB (aS A)) k
        · exact h.e0 rfl
        · exact h.e0 rfl
      · exact h.e0 rfl
      · exact h.e0 rfl
      · exact h.e0 rfl
    · rw [if_neg b2, if_pos rfl, if_neg (by omega), if_neg (by omega), if_neg (by omega), if_neg (by omega), if_neg (by omega), if_neg (by omega), if_neg (by omega), if_neg (by omega), if_neg (by omega)]
      exact h.e0 rfl
  · rw [if_neg b, if_pos rfl, if_neg b]
    exact h.e0 rfl
theorem m_wind (h : RA A M) (hv : VA c A) (hN : 2000 ≤ N) (x : Int) : ∃ M', Mo_wind N 0 x M = some (qWind A x, M') ∧ RA A M' ∧ zRl M M' := by
  have h0 := h.z 0
  unfold Mo_wind qWind
  simp only [zW_e]
  obtain ⟨M1, e1, f1, g1, g2⟩ := r_looks (N := N) hv.p h0.p h0.s hv.s.t
  have h1 := (h0.qr f1).1
  rw [e1, zBv_s, r_isTurbine h1.p, zB_s]
  by_cases b : 0 ≤ x ∧ x < qN (aP A)
  · obtain ⟨k, rfl⟩ : ∃ k : Nat, x = k := ⟨x.toNat, by omega⟩
    rw [if_pos b, if_neg (by decide), if_pos b, r_windOf hv.p h1.p h1.s hv.s hN g2 (hv.p.fr hv.s.t) g1 (hv.p.bl hv.s.t) (by omega), zB_s, Int.toNat_natCast]
    exact h.e1 f1 rfl
  · rw [if_neg b, if_pos rfl, if_neg b]
    exact h.e1 f1 rfl
theorem m_power (h : RA A M) (hv : VA c A) (hN : 2000 ≤ N) (x : Int) : ∃ M', Mo_power N 0 x M = some (qPower A x, M') ∧ RA A M' ∧ zRl M M' := by
  have h0 := h.z 0
  unfold Mo_power qPower
  simp only [zW_e]
  obtain ⟨M1, e1, f1, g1, g2⟩ := r_looks (N := N) hv.p h0.p h0.s hv.s.t
  have h1 := (h0.qr f1).1
  rw [e1, zBv_s, r_isTurbine h1.p, zB_s]
  by_cases b : 0 ≤ x ∧ x < qN (aP A)
  · obtain ⟨k, rfl⟩ : ∃ k : Nat, x = k := ⟨x.toNat, by omega⟩
    obtain ⟨M2, e2, f2⟩ := r_powerOf (N := N) hv.p h1.p h1.s hv.s hN g2 (hv.p.fr hv.s.t) g1 (hv.p.bl hv.s.t) (t := k) (by omega)
    rw [if_pos b, if_neg (by decide), if_pos b, e2, zB_s, Int.toNat_natCast]
    exact h.e1 (f1.tr (f2.mo fw_r)) rfl
  · rw [if_neg b, if_pos rfl, if_neg b]
    exact h.e1 f1 rfl
theorem mLd_no {P : PK} (hv : VP P) {pw : Nat → Int} {f : Int} {t : Nat} (ht : t < qN P) (hg : qT P 4 t = -1) : mLd P pw f t = 0 := mBr_out (fun h => (hv.mem t ht).1 h hg)
theorem m_carried (h : RA A M) (hv : VA c A) (hN : 2000 ≤ N) (x : Int) : ∃ M', Mo_carried N 0 x M = some (qCarried A x, M') ∧ RA A M' ∧ zRl M M' := by
  have h0 := h.z 0
  have h6 := hv.p.n
  unfold Mo_carried qCarried
  simp only [zW_e]
  rw [r_isTurbine h0.p, zB_s]
  by_cases b : 0 ≤ x ∧ x < qN (aP A)
  · obtain ⟨k, rfl⟩ : ∃ k : Nat, x = k := ⟨x.toNat, by omega⟩
    obtain ⟨M1, e1, f1, _, g1, _⟩ := r_homeNow (N := N) hv.p hv.s hN h0.p h0.s
    have hg := hv.p.g (k := k) (by omega)
    rw [if_pos b, if_neg (by decide), if_pos b, e1, zB_s, zI_t (by omega), Int.toNat_natCast, (h0.p.fr f1 fr_p).g (by omega)]
    by_cases b2 : qT (aP A) 4 k < 0
    · rw [if_pos b2]
      exact h.e1 f1 (mLd_no hv.p (by omega) (by omega)).symm
    · rw [if_neg b2, zI_t (by omega), g1 k (by omega) (by omega)]
      exact h.e1 f1 rfl
  · rw [if_neg b, if_pos rfl, if_neg b]
    exact h.e0 rfl
theorem m_home (h : RA A M) (hv : VA c A) (hN : 2000 ≤ N) : ∃ M', Mo_home N 0 M = some (qHome A, M') ∧ RA A M' ∧ zRl M M' := by
  have h0 := h.z 0
  unfold Mo_home qHome
  simp only [zW_e]
  obtain ⟨M1, e1, f1, _⟩ := r_homeNow (N := N) hv.p hv.s hN h0.p h0.s
  rw [e1, zB_s]
  exact h.e1 f1 rfl
theorem m_takes (h : RA A M) (hv : VA c A) (hN : 2000 ≤ N) (x y : Int) : ∃ M', Mo_takes N 0 x y M = some (qTakes A x y, M') ∧ RA A M' ∧ zRl M M' := by
  have h0 := h.z 0
  unfold Mo_takes qTakes
  simp only [zW_e]
  obtain ⟨M1, e1, f1, g1, g2⟩ := r_looks (N := N) hv.p h0.p h0.s hv.s.t
  have h1 := (h0.qr f1).1
  rw [e1, zBv_s, r_isTurbine h1.p, zB_s]
  by_cases b : 0 ≤ x ∧ x < qN (aP A)
  · rw [if_pos b, if_neg (by decide), r_isTurbine h1.p, zB_s]
    by_cases b2 : 0 ≤ y ∧ y < qN (aP A)
    · rw [if_pos b2, if_neg (by decide)]
      by_cases b3 : x = y
      · rw [if_pos b3, if_neg (fun h => h.2.2 b3)]
        exact h.e1 f1 rfl
      · rw [if_neg b3, if_pos ⟨b, b2, b3⟩]
        obtain ⟨k, rfl⟩ : ∃ k : Nat, x = k := ⟨x.toNat, by omega⟩
        obtain ⟨j, rfl⟩ : ∃ j : Nat, y = j := ⟨y.toNat, by omega⟩
        rw [r_takesOf hv.p h1.p h1.s hv.s hN g2 (hv.p.fr hv.s.t) (by omega) (by omega), zB_s, Int.toNat_natCast, Int.toNat_natCast]
        exact h.e1 f1 rfl
    · rw [if_neg b2, if_pos rfl, if_neg (fun h => b2 h.2.1)]
      exact h.e1 f1 rfl
  · rw [if_neg b, if_pos rfl, if_neg (fun h => b h.1)]
    exact h.e1 f1 rfl
theorem m_lost (h : RA A M) (hv : VA c A) (hN : 2000 ≤ N) : ∃ M', Mo_lost N 0 M = some (qLost A, M') ∧ RA A M' ∧ zRl M M' := by
  have h0 := h.z 0
  have h6 := hv.p.n
  unfold Mo_lost qLost
  simp only [zW_e]
  obtain ⟨M1, e1, f1, g1⟩ := r_powersNow (N := N) hv.p hv.s hN h0.p h0.s
  rw [e1, zB_s]
  obtain ⟨M2, e2, f2, _⟩ := r_homeBy (N := N) (x := -1) (pw := mPow (aP A) (aS A) (mFr (aP A) (aS A)) (mBl (aP A) (aS A))) hv.p hN (h0.p.fr f1 fr_p) (fun t _ => mPow_b) g1
  have b1 := zsum_ge (f := mPow (aP A) (aS A) (mFr (aP A) (aS A)) (mBl (aP A) (aS A))) (n := qN (aP A)) (a := 0) (fun _ _ => mPow_b.1)
  have b2 := zsum_le (f := mPow (aP A) (aS A) (mFr (aP A) (aS A)) (mBl (aP A) (aS A))) (n := qN (aP A)) (a := 99) (fun _ _ => mPow_b.2)
  have b3 := mHome_b hv.p (S := aS A)
  rw [e2, zB_s, zs (by unfold mHome at b3; omega)]
  exact h.e1 (f1.tr (f2.mo fc_r)) rfl
theorem r_full14 (hv : VA c A) (hp : RP (aP A) M) {ld : Nat → Int} (hl : ∀ o, o < qN (aP A) → qT (aP A) 4 o ≠ -1 → mI M 88 0 o = ld o) : ∀ (n k : Nat), k ≤ qN (aP A) → qN (aP A) - k < n → Mo_full_14 N n 0 (zbts (fun t => decide (qT (aP A) 4 t ≠ -1 ∧ ld t = qT (aP A) 5 t)) k : Nat) k M = some (((zbts (fun t => decide (qT (aP A) 4 t ≠ -1 ∧ ld t = qT (aP A) 5 t)) (qN (aP A)) : Nat) : Int), M) := by
  intro n
  induction n with
  | zero => intros; omega
  | succ n ih =>
    intro k hk hn
    have h6 := hv.p.n
    have hb64 : zbts (fun t => decide (qT (aP A) 4 t ≠ -1 ∧ ld t = qT (aP A) 5 t)) k < 64 := pow64 (n := k) (by omega) zbts_lt
    have hi := ih (k + 1)
    unfold Mo_full_14
    rw [hp.n]
    by_cases b : k = qN (aP A)
    · subst b
      rw [if_neg (by omega)]
    · have hkN : k < qN (aP A) := by omega
      have hg := hv.p.g hkN
      have z0 : z_or ((zbts (fun t => decide (qT (aP A) 4 t ≠ -1 ∧ ld t = qT (aP A) 5 t)) k : Nat) : Int) 0 = ((zbts (fun t => decide (qT (aP A) 4 t ≠ -1 ∧ ld t = qT (aP A) 5 t)) k : Nat) : Int) := by
        exact zor_0n hb64
      rw [if_pos (by omega), zI_t (by omega), Int.toNat_natCast, hp.g hkN]
      simp only [zW_e]
      rw [zsucc (by omega), z0]
      rw [zbts] at hi
      by_cases b2 : qT (aP A) 4 k < 0
      · rw [if_pos b2]
        rw [if_neg (by simp; omega), Nat.or_zero] at hi
        exact hi (by omega) (by omega)
      · have b2' : qT (aP A) 4 k ≠ -1 := by omega
        rw [if_neg b2, zI_t (by omega), zI_t (by omega), hl k hkN b2', hp.h hkN]
        by_cases b3 : ld k = qT (aP A) 5 k
        · rw [if_pos b3, zsh_n k (by omega), zor_n _ hb64 _ (p2_64 (by omega))]
          rw [if_pos (by simp [b2', b3])] at hi
          exact hi (by omega) (by omega)
        · rw [if_neg b3]
          rw [if_neg (by simp [b3]), Nat.or_zero] at hi
          exact hi (by omega) (by omega)
theorem m_full (h : RA A M) (hv : VA c A) (hN : 2000 ≤ N) : ∃ M', Mo_full N 0 M = some (qFull A, M') ∧ RA A M' ∧ zRl M M' := by
  have h0 := h.z 0
  have h6 := hv.p.n
  unfold Mo_full qFull
  simp only [zW_e]
  obtain ⟨M1, e1, f1, _, g1, _⟩ := r_homeNow (N := N) hv.p hv.s hN h0.p h0.s
  rw [e1, zB_s]
  have := r_full14 (N := N) hv (h0.p.fr f1 fr_p) g1 N 0 (by omega) (by omega)
  rw [show ((zbts (fun t => decide (qT (aP A) 4 t ≠ -1 ∧ mLd (aP A) (mPow (aP A) (aS A) (mFr (aP A) (aS A)) (mBl (aP A) (aS A))) (-1) t = qT (aP A) 5 t)) 0 : Nat) : Int) = 0 from rfl, show ((0 : Nat) : Int) = 0 from rfl] at this
  rw [this]
  exact h.e1 f1 rfl
theorem r_dear16 (hv : VA c A) (hN : 2000 ≤ N) {pw : Nat → Int} (hpw : ∀ t, t < qN (aP A) → 0 ≤ pw t ∧ pw t ≤ 99) : ∀ (n k : Nat) (M : ZM), RP (aP A) M → (∀ t, t < qN (aP A) → mI M 87 0 t = pw t) → k ≤ qN (aP A) → qN (aP A) - k < n → ((mDr2 (aP A) pw k).1 = -1 ∨ 0 ≤ (mDr2 (aP A) pw k).1) → ∃ M', Mo_dear_16 N n 0 (mDr2 (aP A) pw k).1 (mDr2 (aP A) pw k).2 k M = some ((mDr2 (aP A) pw (qN (aP A))).1, M') ∧ zfr fc M M' := by
  intro n
  induction n with
  | zero => intros; omega
  | succ n ih =>
    intro k M hp h87 hk hn hsg
    have h6 := hv.p.n
    have hi := ih (k + 1)
    unfold Mo_dear_16
    rw [hp.n]
    by_cases b : k = qN (aP A)
    · subst b
      rw [if_neg (by omega)]
      exact ⟨M, rfl, zfr.rf M⟩
    · have hkN : k < qN (aP A) := by omega
      have hg := hv.p.g hkN
      rw [if_pos (by omega), zI_t (by omega), Int.toNat_natCast, hp.g hkN]
      simp only [zW_e]
      rw [zsucc (by omega)]
      rw [mDr2] at hi
      by_cases b2 : qT (aP A) 4 k < 0
      · rw [if_pos b2]
        rw [if_neg (fun h => h.1 (by omega))] at hi
        exact hi M hp h87 (by omega) (by omega) hsg
      · have b2' : qT (aP A) 4 k ≠ -1 := by omega
        rw [if_neg b2]
        obtain ⟨M1, e1, f1, _⟩ := r_homeBy (N := N) (x := (k : Int)) hv.p hN hp hpw h87
        rw [e1, zB_s]
        have hp1 := hp.fr f1 fc_p
        have h871 : ∀ t, t < qN (aP A) → mI M1 87 0 t = pw t := fun t ht => by rw [f1.2 _ _ _ (by simp [fc]), h87 t ht]
        by_cases b3 : (mDr2 (aP A) pw k).1 < 0
        · have b3' : (mDr2 (aP A) pw k).1 = -1 := by omega
          rw [if_pos b3]
          rw [if_pos ⟨b2', .inl b3'⟩] at hi
          obtain ⟨M', e2, f2⟩ := hi M1 hp1 h871 (by omega) (by omega) (.inr (by show (0 : Int) ≤ (k : Int); omega))
          exact ⟨M', e2, f1.tr f2⟩
        · rw [if_neg b3]
          by_cases b4 : mHm (aP A) pw k < (mDr2 (aP A) pw k).2
          · rw [if_pos b4]
            rw [if_pos ⟨b2', .inr b4⟩] at hi
            obtain ⟨M', e2, f2⟩ := hi M1 hp1 h871 (by omega) (by omega) (.inr (by show (0 : Int) ≤ (k : Int); omega))
            exact ⟨M', e2, f1.tr f2⟩
          · rw [if_neg b4]
            rw [if_neg (fun h => h.2.elim (by omega) b4)] at hi
            obtain ⟨M', e2, f2⟩ := hi M1 hp1 h871 (by omega) (by omega) hsg
            exact ⟨M', e2, f1.tr f2⟩
theorem m_dear (h : RA A M) (hv : VA c A) (hN : 2000 ≤ N) : ∃ M', Mo_dear N 0 M = some (qDear A, M') ∧ RA A M' ∧ zRl M M' := by
  have h0 := h.z 0
  have h6 := hv.p.n
  unfold Mo_dear qDear
  simp only [zW_e]
  obtain ⟨M1, e1, f1, g1, _⟩ := r_homeNow (N := N) hv.p hv.s hN h0.p h0.s
  rw [e1, zB_s]
  obtain ⟨M2, e2, f2⟩ := r_dear16 (N := N) hv hN (pw := aPw A) (fun t _ => mPow_b) N 0 M1 (h0.p.fr f1 fr_p) g1 (by omega) (by omega) (.inl rfl)
  rw [show (mDr2 (aP A) (aPw A) 0).1 = -1 from rfl, show (mDr2 (aP A) (aPw A) 0).2 = 0 from rfl, show ((0 : Nat) : Int) = 0 from rfl] at e2
  rw [e2]
  exact h.e1 (f1.tr (f2.mo fc_r)) rfl
theorem m_fault (h : RA A M) (hv : VA c A) (hN : 2000 ≤ N) (x : Int) : ∃ M', Mo_fault N 0 x M = some (qFault A x, M') ∧ RA A M' ∧ zRl M M' := by
  have h0 := h.z 0
  have h6 := hv.p.n
  unfold Mo_fault qFault
  simp only [zW_e]
  rw [r_isTurbine h0.p, zB_s]
  by_cases b : 0 ≤ x ∧ x < qN (aP A)
  · obtain ⟨k, rfl⟩ : ∃ k : Nat, x = k := ⟨x.toNat, by omega⟩
    have hg := hv.p.g (k := k) (by omega)
    rw [if_pos b, if_neg (by decide), zI_t (by omega), Int.toNat_natCast, h0.p.g (by omega)]
    by_cases b2 : qT (aP A) 4 k < 0
    · rw [if_pos b2, if_neg (fun h => h.2 (by omega))]
      exact h.e0 rfl
    · rw [if_neg b2, if_pos ⟨b, by omega⟩]
      obtain ⟨M1, e1, f1, g1, _⟩ := r_homeNow (N := N) hv.p hv.s hN h0.p h0.s
      rw [e1, zB_s]
      obtain ⟨M2, e2, f2, _⟩ := r_homeBy (N := N) (x := (k : Int)) hv.p hN (h0.p.fr f1 fr_p) (fun t _ => mPow_b) g1
      rw [e2, zB_s]
      exact h.e1 (f1.tr (f2.mo fc_r)) rfl
  · rw [if_neg b, if_pos rfl, if_neg (fun h => b h.1)]
    exact h.e0 rfl
theorem r_front13 (hv : VA c A) (hp : RP (aP A) M) (hs : R0 (qN (aP A)) (aS A) M) (hN : 2000 ≤ N) (hf : mI M 11 0 51 = mFr (aP A) (aS A)) : ∀ (n k : Nat), k ≤ qN (aP A) → qN (aP A) - k < n → Mo_front_13 N n 0 (zbts (fun t => decide (aTk A t = 0)) k : Nat) k M = some (((zbts (fun t => decide (aTk A t = 0)) (qN (aP A)) : Nat) : Int), M) := by
  intro n
  induction n with
  | zero => intros; omega
  | succ n ih =>
    intro k hk hn
    have h6 := hv.p.n
    have hb64 : zbts (fun t => decide (aTk A t = 0)) k < 64 := pow64 (n := k) (by omega) zbts_lt
    have hi := ih (k + 1)
    unfold Mo_front_13
    rw [hp.n]
    by_cases b : k = qN (aP A)
    · subst b
      rw [if_neg (by omega)]
    · have hkN : k < qN (aP A) := by omega
      have z0 : z_or ((zbts (fun t => decide (aTk A t = 0)) k : Nat) : Int) 0 = ((zbts (fun t => decide (aTk A t = 0)) k : Nat) : Int) := by
        exact zor_0n hb64
      rw [if_pos (by omega), r_takenOf hv.p hp hs hv.s hN hf (hv.p.fr hv.s.t) hkN, zB_s]
      simp only [zW_e]
      rw [zsucc (by omega), z0]
      rw [zbts] at hi
      by_cases b3 : mTkn (aP A) (sA (aS A)) (mRun (aS A)) (mFr (aP A) (aS A)) k = 0
      · rw [if_pos b3, zsh_n k (by omega), zor_n _ hb64 _ (p2_64 (by omega))]
        rw [if_pos (by simp [b3])] at hi
        exact hi (by omega) (by omega)
      · rw [if_neg b3]
        rw [if_neg (by simp [b3]), Nat.or_zero] at hi
        exact hi (by omega) (by omega)
theorem m_front (h : RA A M) (hv : VA c A) (hN : 2000 ≤ N) : ∃ M', Mo_front N 0 M = some (qFront A, M') ∧ RA A M' ∧ zRl M M' := by
  have h0 := h.z 0
  have h6 := hv.p.n
  unfold Mo_front qFront
  simp only [zW_e]
  obtain ⟨M1, e1, f1, g1, g2⟩ := r_looks (N := N) hv.p h0.p h0.s hv.s.t
  have h1 := (h0.qr f1).1
  rw [e1, zBv_s]
  have := r_front13 (N := N) hv h1.p h1.s hN g2 N 0 (by omega) (by omega)
  rw [show ((zbts (fun t => decide (aTk A t = 0)) 0 : Nat) : Int) = 0 from rfl, show ((0 : Nat) : Int) = 0 from rfl] at this
  rw [this]
  exact h.e1 f1 rfl
theorem r_shade23 (hv : VA c A) (hp : RP (aP A) M) (hs : R0 (qN (aP A)) (aS A) M) (hN : 2000 ≤ N) (hf : mI M 11 0 51 = mFr (aP A) (aS A)) {t : Nat} (ht : t < qN (aP A)) : ∀ (n k : Nat), k ≤ qN (aP A) → qN (aP A) - k < n → Mo_shade_23 N n 0 t (zbts (fun o => decide (0 < mTs (aP A) (sA (aS A)) (mRun (aS A)) (mFr (aP A) (aS A)) o t)) k : Nat) k M = some (((zbts (fun o => decide (0 < mTs (aP A) (sA (aS A)) (mRun (aS A)) (mFr (aP A) (aS A)) o t)) (qN (aP A)) : Nat) : Int), M) := by
  intro n
  induction n with
  | zero => intros; omega
  | succ n ih =>
    intro k hk hn
    have h6 := hv.p.n
    have hb64 : zbts (fun o => decide (0 < mTs (aP A) (sA (aS A)) (mRun (aS A)) (mFr (aP A) (aS A)) o t)) k < 64 := pow64 (n := k) (by omega) zbts_lt
    have hi := ih (k + 1)
    unfold Mo_shade_23
    rw [hp.n]
    by_cases b : k = qN (aP A)
    · subst b
      rw [if_neg (by omega)]
    · have hkN : k < qN (aP A) := by omega
      have z0 : z_or ((zbts (fun o => decide (0 < mTs (aP A) (sA (aS A)) (mRun (aS A)) (mFr (aP A) (aS A)) o t)) k : Nat) : Int) 0 = ((zbts (fun o => decide (0 < mTs (aP A) (sA (aS A)) (mRun (aS A)) (mFr (aP A) (aS A)) o t)) k : Nat) : Int) := by
        exact zor_0n hb64
      rw [if_pos (by omega), r_takesOf hv.p hp hs hv.s hN hf (hv.p.fr hv.s.t) ht hkN, zB_s]
      simp only [zW_e]
      rw [zsucc (by omega), z0]
      rw [zbts] at hi
      by_cases b3 : 0 < mTs (aP A) (sA (aS A)) (mRun (aS A)) (mFr (aP A) (aS A)) k t
      · rw [if_pos b3, zsh_n k (by omega), zor_n _ hb64 _ (p2_64 (by omega))]
        rw [if_pos (by simp [b3])] at hi
        exact hi (by omega) (by omega)
      · rw [if_neg b3]
        rw [if_neg (by simp only [b3, decide_false]; decide), Nat.or_zero] at hi
        exact hi (by omega) (by omega)
theorem m_shade (h : RA A M) (hv : VA c A) (hN : 2000 ≤ N) (x : Int) : ∃ M', Mo_shade N 0 x M = some (qShade A x, M') ∧ RA A M' ∧ zRl M M' := by
  have h0 := h.z 0
  have h6 := hv.p.n
  unfold Mo_shade qShade
  simp only [zW_e]
  rw [r_isTurbine h0.p, zB_s]
  by_cases b : 0 ≤ x ∧ x < qN (aP A)
  · obtain ⟨k, rfl⟩ : ∃ k : Nat, x = k := ⟨x.toNat, by omega⟩
    obtain ⟨M1, e1, f1, g1, g2⟩ := r_looks (N := N) hv.p h0.p h0.s hv.s.t
    have h1 := (h0.qr f1).1
    rw [if_pos b, if_neg (by decide), if_pos b, Int.toNat_natCast, e1, zBv_s]
    have := r_shade23 (N := N) hv h1.p h1.s hN g2 (t := k) (by omega) N 0 (by omega) (by omega)
    rw [show ((zbts (fun o => decide (0 < mTs (aP A) (sA (aS A)) (mRun (aS A)) (mFr (aP A) (aS A)) o k)) 0 : Nat) : Int) = 0 from rfl, show ((0 : Nat) : Int) = 0 from rfl] at this
    rw [this]
    exact h.e1 f1 rfl
  · rw [if_neg b, if_pos rfl, if_neg b]
    exact h.e0 rfl
theorem m_hops (h : RA A M) (hv : VA c A) (hN : 2000 ≤ N) (x : Int) : ∃ M', Mo_hops N 0 x M = some (qHops A x, M') ∧ RA A M' ∧ zRl M M' := by
  have h0 := h.z 0
  unfold Mo_hops qHops
  simp only [zW_e]
  rw [r_isTurbine h0.p, zB_s]
  by_cases b : 0 ≤ x ∧ x < qN (aP A)
  · obtain ⟨k, rfl⟩ : ∃ k : Nat, x = k := ⟨x.toNat, by omega⟩
    rw [if_pos b, if_neg (by decide), if_pos b, r_hopsOf hv.p h0.p hN (by omega), zB_s, Int.toNat_natCast]
    exact h.e0 rfl
  · rw [if_neg b, if_pos rfl, if_neg b]
    exact h.e0 rfl
end RQ
