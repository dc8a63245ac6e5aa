/-! Questions, the class. -/
def mSt (P : PK) (S : SK) : Nat → SK
  | 0 => S
  | n + 1 => mStep P (mSt P S n)
theorem mSt_v {c : Nat} {P : PK} {S : SK} (h : VS c P S) : ∀ n, VS (c + n) P (mSt P S n)
  | 0 => h
  | n + 1 => (mSt_v h n).step
def qStd (A : AK) (x : Int) : Prop := 0 ≤ x ∧ x < qN (aP A)
theorem VA.p {c : Nat} {A : AK} (h : VA c A) : VP (aP A) := h.1
theorem VA.s {c : Nat} {A : AK} (h : VA c A) : VS c (aP A) (aS A) := h.2.1
def qTurbine (A : AK) (x w : Int) : Int := if 0 ≤ x ∧ x < qN (aP A) then (if w = 0 then qT (aP A) 1 x.toNat else if w = 1 then qT (aP A) 2 x.toNat else if w = 2 then qT (aP A) 3 x.toNat else if w = 3 then sA (aS A) x.toNat else if w = 4 then (if zbt (sO (aS A)) x.toNat then 1 else 0) else if w = 5 then (if zbt (sB (aS A)) x.toNat then 1 else 0) else if w = 6 then sW (aS A) x.toNat else if w = 7 then qT (aP A) 4 x.toNat else if w = 8 then qT (aP A) 5 x.toNat else -2) else -2
abbrev aPw (A : AK) : Nat → Int := mPow (aP A) (aS A) (mFr (aP A) (aS A)) (mBl (aP A) (aS A))
abbrev aTk (A : AK) (o : Nat) : Int := mTkn (aP A) (sA (aS A)) (mRun (aS A)) (mFr (aP A) (aS A)) o
def qWind (A : AK) (x : Int) : Int := if 0 ≤ x ∧ x < qN (aP A) then mWnd (mBl (aP A) (aS A)) (aTk A x.toNat) else -1
def qPower (A : AK) (x : Int) : Int := if 0 ≤ x ∧ x < qN (aP A) then aPw A x.toNat else -1
def qCarried (A : AK) (x : Int) : Int := if 0 ≤ x ∧ x < qN (aP A) then mLd (aP A) (aPw A) (-1) x.toNat else -1
def qHome (A : AK) : Int := mHome (aP A) (aS A)
def qTakes (A : AK) (x y : Int) : Int := if (0 ≤ x ∧ x < qN (aP A)) ∧ (0 ≤ y ∧ y < qN (aP A)) ∧ x ≠ y then mTs (aP A) (sA (aS A)) (mRun (aS A)) (mFr (aP A) (aS A)) y.toNat x.toNat else -1
def qLater (A : AK) (x : Int) : Int := if 0 ≤ x ∧ x ≤ 60 then mHome (aP A) (mSt (aP A) (aS A) x.toNat) else -1
def qTotal (A : AK) (x : Int) : Int := if 1 ≤ x ∧ x ≤ 60 then zsum (fun j => mSold (aP A) (mSt (aP A) (aS A) j)) x.toNat else -1000000
def mBf (P : PK) (S : SK) (t : Nat) : Nat → Nat → Int
  | 0, _ => -1
  | m + 1, n => if zbt (sB (mSt P S n)) t then (n : Int) else mBf P S t m (n + 1)
def qBreaks (A : AK) (x : Int) : Int := if 0 ≤ x ∧ x < qN (aP A) then (if zbt (sB (aS A)) x.toNat then -1 else mBf (aP A) (aS A) x.toNat 100 1) else -1
def qLost (A : AK) : Int := zsum (aPw A) (qN (aP A)) - mHome (aP A) (aS A)
def qStraight (A : AK) : Int := mSold (aP A) (sWA (aS A) (fun _ => 2)) - mSold (aP A) (aS A)
def qFull (A : AK) : Int := (zbts (fun t => decide (qT (aP A) 4 t ≠ -1 ∧ mLd (aP A) (aPw A) (-1) t = qT (aP A) 5 t)) (qN (aP A)) : Nat)
def mDr2 (P : PK) (pw : Nat → Int) : Nat → Int × Int
  | 0 => (-1, 0)
  | k + 1 => if qT P 4 k ≠ -1 ∧ ((mDr2 P pw k).1 = -1 ∨ mHm P pw k < (mDr2 P pw k).2) then ((k : Int), mHm P pw k) else mDr2 P pw k
def qDear (A : AK) : Int := (mDr2 (aP A) (aPw A) (qN (aP A))).1
def qFault (A : AK) (x : Int) : Int := if (0 ≤ x ∧ x < qN (aP A)) ∧ qT (aP A) 4 x.toNat ≠ -1 then mHm (aP A) (aPw A) x else -1
def qFront (A : AK) : Int := (zbts (fun t => decide (aTk A t = 0)) (qN (aP A)) : Nat)
def qShade (A : AK) (x : Int) : Int := if 0 ≤ x ∧ x < qN (aP A) then ((zbts (fun t => decide (0 < mTs (aP A) (sA (aS A)) (mRun (aS A)) (mFr (aP A) (aS A)) t x.toNat)) (qN (aP A)) : Nat) : Int) else -1
def qHops (A : AK) (x : Int) : Int := if 0 ≤ x ∧ x < qN (aP A) then (mHop (aP A) x.toNat : Int) else -1
section CQ
variable {N c : Nat} {A : AK} {M : ZM}
theorem CA.k (h : CA A M) : KM M := h.1
theorem CA.s (h : CA A M) : CS 0 (aS A) M := h.2.2.1
theorem c_stands {p : Nat} (hr : CR p M) (hp : CP p (aP A) M) (x : Int) : Wp_stands N 0 x M = some (if 0 ≤ x ∧ x < qN (aP A) then 1 else 0, M) := by
  unfold Wp_stands
  rw [hr.1, zO_s, hp.n]
  by_cases b1 : x < 0
  · rw [if_pos b1, if_neg (by omega)]
  · rw [if_neg b1]
    by_cases b2 : x < qN (aP A)
    · rw [if_pos b2, if_pos (by omega)]
    · rw [if_neg b2, if_neg (by omega)]
theorem w_turbine (h : CA A M) (hv : VA c A) (x w : Int) : Wp_turbine N 0 x w M = some (qTurbine A x w, M) := by
  obtain ⟨p, hr, hp⟩ := h.2.1
  have hs := h.s
  have h6 := hv.p.n
  unfold Wp_turbine qTurbine
  rw [c_stands hr hp, zB_s]
  by_cases b : 0 ≤ x ∧ x < qN (aP A)
  · obtain ⟨k, rfl⟩ : ∃ k : Nat, x = k := ⟨x.toNat, by omega⟩
    have hk : k < qN (aP A) := by omega
    rw [if_pos b, if_neg (by decide), if_pos b, hr.1]
    simp only [zO_s, Int.toNat_natCast]
    have i6 : (0 : Int) ≤ (k : Int) ∧ (k : Int) < 6 := by omega
    simp only [zI_t i6, hp.k hk, hp.o hk, hp.c hk, hp.g hk, hp.h hk, hs.a (k := k) (by omega), hs.w (k := k) (by omega), c_isOpen hs (hv.s.o hv.p) (t := k) (by omega), c_isBroken hs (hv.s.b hv.p) (t := k) (by omega), zB_s]
    repeat' split
    all_goals simp_all
  · rw [if_neg b, if_pos rfl, if_neg b]
theorem w_wind (h : CA A M) (hv : VA c A) (hN : 2000 ≤ N) (x : Int) : ∃ M', Wp_wind N 0 x M = some (qWind A x, M') ∧ zfr fX M M' := by
  obtain ⟨p, hr, hp⟩ := h.2.1
  have h6 := hv.p.n
  unfold Wp_wind qWind
  rw [c_stands hr hp, zB_s]
  by_cases b : 0 ≤ x ∧ x < qN (aP A)
  · obtain ⟨k, rfl⟩ : ∃ k : Nat, x = k := ⟨x.toNat, by omega⟩
    rw [if_pos b, if_neg (by decide), if_pos b, hr.1, zO_s]
    obtain ⟨M1, e1, f1, g1, _⟩ := c_measure (N := N) (a := 0) hv.p hv.s h.k hp h.s hN
    rw [e1, zBv_s, zI_t (by omega), Int.toNat_natCast, (g1 k (by omega)).2.1]
    exact ⟨M1, rfl, f1.mo fF_X⟩
  · rw [if_neg b, if_pos rfl, if_neg b]
    exact ⟨M, rfl, zfr.rf M⟩
theorem w_power (h : CA A M) (hv : VA c A) (hN : 2000 ≤ N) (x : Int) : ∃ M', Wp_power N 0 x M = some (qPower A x, M') ∧ zfr fX M M' := by
  obtain ⟨p, hr, hp⟩ := h.2.1
  have h6 := hv.p.n
  unfold Wp_power qPower
  rw [c_stands hr hp, zB_s]
  by_cases b : 0 ≤ x ∧ x < qN (aP A)
  · obtain ⟨k, rfl⟩ : ∃ k : Nat, x = k := ⟨x.toNat, by omega⟩
    rw [if_pos b, if_neg (by decide), if_pos b, hr.1, zO_s]
    obtain ⟨M1, e1, f1, g1, _⟩ := c_measure (N := N) (a := 0) hv.p hv.s h.k hp h.s hN
    rw [e1, zBv_s, zI_t (by omega), Int.toNat_natCast, (g1 k (by omega)).2.2]
    exact ⟨M1, rfl, f1.mo fF_X⟩
  · rw [if_neg b, if_pos rfl, if_neg b]
    exact ⟨M, rfl, zfr.rf M⟩
theorem w_carried (h : CA A M) (hv : VA c A) (hN : 2000 ≤ N) (x : Int) : ∃ M', Wp_carried N 0 x M = some (qCarried A x, M') ∧ zfr fX M M' := by
  obtain ⟨p, hr, hp⟩ := h.2.1
  have h6 := hv.p.n
  unfold Wp_carried qCarried
  rw [c_stands hr hp, zB_s]
  by_cases b : 0 ≤ x ∧ x < qN (aP A)
  · obtain ⟨k, rfl⟩ : ∃ k : Nat, x = k := ⟨x.toNat, by omega⟩
    rw [if_pos b, if_neg (by decide), if_pos b, hr.1, zO_s]
    obtain ⟨M1, e1, f1, _, g1, _⟩ := c_measure (N := N) (a := 0) hv.p hv.s h.k hp h.s hN
    rw [e1, zBv_s, zI_t (by omega), Int.toNat_natCast, g1 k (by omega)]
    exact ⟨M1, rfl, f1.mo fF_X⟩
  · rw [if_neg b, if_pos rfl, if_neg b]
    exact ⟨M, rfl, zfr.rf M⟩
theorem w_home (h : CA A M) (hv : VA c A) (hN : 2000 ≤ N) : ∃ M', Wp_home N 0 M = some (qHome A, M') ∧ zfr fX M M' := by
  obtain ⟨p, hr, hp⟩ := h.2.1
  unfold Wp_home qHome
  rw [hr.1, zO_s]
  obtain ⟨M1, e1, f1, _, _, _, g1⟩ := c_measure (N := N) (a := 0) hv.p hv.s h.k hp h.s hN
  rw [e1, zBv_s, g1]
  exact ⟨M1, rfl, f1.mo fF_X⟩
theorem w_lost (h : CA A M) (hv : VA c A) (hN : 2000 ≤ N) : ∃ M', Wp_lost N 0 M = some (qLost A, M') ∧ zfr fX M M' := by
  obtain ⟨p, hr, hp⟩ := h.2.1
  have h6 := hv.p.n
  unfold Wp_lost qLost
  rw [hr.1, zO_s]
  obtain ⟨M1, e1, f1, _, _, g0, g1⟩ := c_measure (N := N) (a := 0) hv.p hv.s h.k hp h.s hN
  have b1 := zsum_ge (f := mPow (aP A) (aS A) (mFr (aP A) (aS A)) (mBl (aP A) (aS A))) (n := qN (aP A)) (a := 0) (fun _ _ => mPow_b.1)
  have b2 := zsum_le (f := mPow (aP A) (aS A) (mFr (aP A) (aS A)) (mBl (aP A) (aS A))) (n := qN (aP A)) (a := 99) (fun _ _ => mPow_b.2)
  have b3 := mHome_b hv.p (S := aS A)
  rw [e1, zBv_s, g0, g1, zs (by omega)]
  exact ⟨M1, rfl, f1.mo fF_X⟩
theorem c_takenNow {p : Nat} (hr : CR p M) (hp : CP p (aP A) M) (hs : CS 0 (aS A) M) (hv : VA c A) {t o : Nat} (ht : t < qN (aP A)) (ho : o < qN (aP A)) (hne : t ≠ o) : Wp_takenNow N 0 t o M = some (mTs (aP A) (sA (aS A)) (mRun (aS A)) (mFr (aP A) (aS A)) o t, M) := by
  have h6 := hv.p.n
  unfold Wp_takenNow mTs
  rw [c_runs hs (hv.s.o hv.p) (hv.s.b hv.p) (by omega), zB_s, if_neg hne]
  by_cases b : mRun (aS A) t = true
  · rw [if_pos b, if_neg (by decide), if_pos b, zI_t (by omega), hr.1, zO_s, hs.t, c_round (j := 1) hv.p hp (by omega) (by omega) hv.s.t, zB_s, Int.toNat_natCast, hs.a (by omega), c_tenths hv.p hp ht ho (hv.s.a (by omega)) (hv.p.fr hv.s.t), zB_s]
    rfl
  · rw [if_neg b, if_pos rfl, if_neg b]
theorem w_takes (h : CA A M) (hv : VA c A) (x y : Int) : Wp_takes N 0 x y M = some (qTakes A x y, M) := by
  obtain ⟨p, hr, hp⟩ := h.2.1
  unfold Wp_takes qTakes
  rw [c_stands hr hp, zB_s]
  by_cases b : 0 ≤ x ∧ x < qN (aP A)
  · rw [if_pos b, if_neg (by decide), c_stands hr hp, zB_s]
    by_cases b2 : 0 ≤ y ∧ y < qN (aP A)
    · rw [if_pos b2, if_neg (by decide)]
      by_cases b3 : x = y
      · rw [if_pos b3, if_neg (fun h => h.2.2 b3)]
      · rw [if_neg b3, if_pos ⟨b, b2, b3⟩]
        obtain ⟨k, rfl⟩ : ∃ k : Nat, x = k := ⟨x.toNat, by omega⟩
        obtain ⟨j, rfl⟩ : ∃ j : Nat, y = j := ⟨y.toNat, by omega⟩
        rw [c_takenNow hr hp h.s hv (by omega) (by omega) (by omega), zB_s, Int.toNat_natCast, Int.toNat_natCast]
    · rw [if_neg b2, if_pos rfl, if_neg (fun h => b2 h.2.1)]
  · rw [if_neg b, if_pos rfl, if_neg (fun h => b h.1)]
/-- steps of the trial -/
theorem c_trial (hv : VA c A) (hc : c < 1000) {p : Nat} (hN : 2000 ≤ N) {j : Nat} (hj : j < 1000) (hk : KM M) (hp : CP p (aP A) M) (hs : CS 1 (mSt (aP A) (aS A) j) M) : ∃ M', Fl_runStep N 0 p 1 M = some (mSold (aP A) (mSt (aP A) (aS A) j), M') ∧ zfr fX M M' ∧ KM M' ∧ CP p (aP A) M' ∧ CS 1 (mSt (aP A) (aS A) (j + 1)) M' := by
  obtain ⟨M1, e1, f1, g1⟩ := c_runStep (N := N) hv.p (mSt_v hv.s j) (by omega) hk hp hs hN
  exact ⟨M1, e1, f1.mo fG_X, hk.e f1.1, hp.fr f1 fG_p, g1⟩
theorem CR.e {p : Nat} {M M' : ZM} (h : CR p M) (e : M'.2 = M.2) : CR p M' := by
  unfold CR; rw [mR_2 e]; exact h
theorem w_later25 (hv : VA c A) (hc : c < 1000) (hN : 2000 ≤ N) {p m : Nat} (hm : m ≤ 60) : ∀ (n j : Nat) (M : ZM), KM M → CR p M → CP p (aP A) M → CS 1 (mSt (aP A) (aS A) j) M → j ≤ m → m - j < n → ∃ M', Wp_later_25 N n 0 m j M = some (mHome (aP A) (mSt (aP A) (aS A) m), M') ∧ zfr fX M M' := by
  intro n
  induction n with
  | zero => intros; omega
  | succ n ih =>
    intro j M hk hr hp hs hj hn
    unfold Wp_later_25
    rw [hr.1]
    simp only [zO_s]
    by_cases b : j = m
    · subst b
      rw [if_neg (by omega)]
      obtain ⟨M1, e1, f1, _, _, _, g1⟩ := c_measure (N := N) (a := 0) hv.p (mSt_v hv.s j) hk hp hs hN
      rw [e1, zBv_s, g1]
      exact ⟨M1, rfl, f1.mo fF_X⟩
    · rw [if_pos (by omega)]
      obtain ⟨M1, e1, f1, k1, p1, s1⟩ := c_trial (N := N) hv hc hN (j := j) (by omega) hk hp hs
      rw [e1, zB_s]
      simp only [zW_e]
      rw [zsucc (by omega)]
      obtain ⟨M', e2, f2⟩ := ih (j + 1) M1 k1 (hr.e f1.1) p1 s1 (by omega) (by omega)
      exact ⟨M', e2, f1.tr f2⟩
/-- the trial is as it is now -/
theorem c_try (h : CA A M) : ∃ M', St_copy N 1 0 M = some M' ∧ zfr fX M M' ∧ CS 1 (aS A) M' := by
  obtain ⟨M1, e1, f1, g1⟩ := c_copy (N := N) (a := 1) (b := 0) (by decide) h.s
  exact ⟨M1, e1, f1.mo fS_X, g1⟩
theorem w_later (h : CA A M) (hv : VA c A) (hc : c < 1000) (hN : 2000 ≤ N) (x : Int) : ∃ M', Wp_later N 0 x M = some (qLater A x, M') ∧ zfr fX M M' := by
  unfold Wp_later qLater
  by_cases b1 : x < 0
  · rw [if_pos b1, if_neg (by omega)]; exact ⟨M, rfl, zfr.rf M⟩
  · by_cases b2 : 60 < x
    · rw [if_neg b1, if_pos b2, if_neg (by omega)]; exact ⟨M, rfl, zfr.rf M⟩
    · rw [if_neg b1, if_neg b2, if_pos (by omega)]
      obtain ⟨k, rfl⟩ : ∃ k : Nat, x = k := ⟨x.toNat, by omega⟩
      obtain ⟨M1, e1, f1, g1⟩ := c_try (N := N) h
      rw [e1, zBv_s, Int.toNat_natCast]
      have h1 := h.fx f1
      obtain ⟨p, hr, hp⟩ := h1.2.1
      obtain ⟨M', e2, f2⟩ := w_later25 (N := N) hv hc hN (p := p) (m := k) (by omega) N 0 M1 h1.k hr hp g1 (by omega) (by omega)
      exact ⟨M', e2, f1.tr f2⟩
theorem w_total29 (hv : VA c A) (hc : c < 1000) (hN : 2000 ≤ N) {p m : Nat} (hm : m ≤ 60) : ∀ (n j : Nat) (M : ZM), KM M → CR p M → CP p (aP A) M → CS 1 (mSt (aP A) (aS A) j) M → j ≤ m → m - j < n → ∃ M', Wp_total_29 N n 0 m (zsum (fun j => mSold (aP A) (mSt (aP A) (aS A) j)) j) j M = some (zsum (fun j => mSold (aP A) (mSt (aP A) (aS A) j)) m, M') ∧ zfr fX M M' := by
  intro n
  induction n with
  | zero => intros; omega
  | succ n ih =>
    intro j M hk hr hp hs hj hn
    unfold Wp_total_29
    rw [hr.1]
    simp only [zO_s]
    by_cases b : j = m
    · subst b
      rw [if_neg (by omega)]
      exact ⟨M, rfl, zfr.rf M⟩
    · rw [if_pos (by omega)]
      obtain ⟨M1, e1, f1, k1, p1, s1⟩ := c_trial (N := N) hv hc hN (j := j) (by omega) hk hp hs
      rw [e1, zB_s]
      simp only [zW_e]
      have a1 := zsum_ge (f := fun j => mSold (aP A) (mSt (aP A) (aS A) j)) (n := j) (a := -12000) (fun k _ => (mSold_b hv.p (mSt_v hv.s k)).1)
      have a2 := zsum_le (f := fun j => mSold (aP A) (mSt (aP A) (aS A) j)) (n := j) (a := 12000) (fun k _ => (mSold_b hv.p (mSt_v hv.s k)).2)
      have a3 := mSold_b hv.p (mSt_v hv.s j)
      rw [zsucc (by omega), zs (by omega)]
      obtain ⟨M', e2, f2⟩ := ih (j + 1) M1 k1 (hr.e f1.1) p1 s1 (by omega) (by omega)
      exact ⟨M', e2, f1.tr f2⟩
theorem w_total (h : CA A M) (hv : VA c A) (hc : c < 1000) (hN : 2000 ≤ N) (x : Int) : ∃ M', Wp_total N 0 x M = some (qTotal A x, M') ∧ zfr fX M M' := by
  unfold Wp_total qTotal
  by_cases b1 : x < 1
  · rw [if_pos b1, if_neg (by omega)]; exact ⟨M, rfl, zfr.rf M⟩
  · by_cases b2 : 60 < x
    · rw [if_neg b1, if_pos b2, if_neg (by omega)]; exact ⟨M, rfl, zfr.rf M⟩
    · rw [if_neg b1, if_neg b2, if_pos (by omega)]
      obtain ⟨k, rfl⟩ : ∃ k : Nat, x = k := ⟨x.toNat, by omega⟩
      obtain ⟨M1, e1, f1, g1⟩ := c_try (N := N) h
      rw [e1, zBv_s, Int.toNat_natCast]
      have h1 := h.fx f1
      obtain ⟨p, hr, hp⟩ := h1.2.1
      obtain ⟨M', e2, f2⟩ := w_total29 (N := N) hv hc hN (p := p) (m := k) (by omega) N 0 M1 h1.k hr hp g1 (by omega) (by omega)
      exact ⟨M', e2, f1.tr f2⟩
theorem w_breaks34 (hv : VA c A) (hc : c < 1000) (hN : 2000 ≤ N) {p t : Nat} (ht : t < 6) : ∀ (m n j : Nat) (M : ZM), KM M → CR p M → CP p (aP A) M → CS 1 (mSt (aP A) (aS A) j) M → m + j = 100 → m < n → ∃ M', Wp_breaks_34 N n 0 t ((j + 1 : Nat) : Int) M = some (mBf (aP A) (aS A) t m (j + 1), M') ∧ zfr fX M M' := by
  intro m
  induction m with
  | zero =>
    intro n j M hk hr hp hs hj hn
    cases n with
    | zero => omega
    | succ n =>
      unfold Wp_breaks_34
      rw [if_pos (by omega)]
      exact ⟨M, rfl, zfr.rf M⟩
  | succ m ih =>
    intro n j M hk hr hp hs hj hn
    cases n with
    | zero => omega
    | succ n =>
      unfold Wp_breaks_34
      rw [if_neg (by omega), hr.1, zO_s]
      obtain ⟨M1, e1, f1, k1, p1, s1⟩ := c_trial (N := N) hv hc hN (j := j) (by omega) hk hp hs
      rw [e1, zB_s, c_isBroken s1 ((mSt_v hv.s (j + 1)).b hv.p) ht, zB_s, mBf]
      by_cases b : zbt (sB (mSt (aP A) (aS A) (j + 1))) t = true
      · rw [if_pos b, if_neg (by decide), if_pos b]
        exact ⟨M1, rfl, f1⟩
      · rw [if_neg b, if_pos rfl, if_neg b]
        simp only [zW_e]
        rw [zsucc (by omega)]
        obtain ⟨M', e2, f2⟩ := ih n (j + 1) M1 k1 (hr.e f1.1) p1 s1 (by omega) (by omega)
        exact ⟨M', e2, f1.tr f2⟩
theorem w_breaks (h : CA A M) (hv : VA c A) (hc : c < 1000) (hN : 2000 ≤ N) (x : Int) : ∃ M', Wp_breaks N 0 x M = some (qBreaks A x, M') ∧ zfr fX M M' := by
  have h6 := hv.p.n
  obtain ⟨p, hr, hp⟩ := h.2.1
  unfold Wp_breaks qBreaks
  rw [c_stands hr hp, zB_s]
  by_cases b : 0 ≤ x ∧ x < qN (aP A)
  · obtain ⟨k, rfl⟩ : ∃ k : Nat, x = k := ⟨x.toNat, by omega⟩
    rw [if_pos b, if_neg (by decide), if_pos b, c_isBroken h.s (hv.s.b hv.p) (by omega), zB_s, Int.toNat_natCast]
    by_cases b2 : zbt (sB (aS A)) k = true
    · rw [if_pos b2, if_neg (by decide), if_pos b2]
      exact ⟨M, rfl, zfr.rf M⟩
    · rw [if_neg b2, if_pos rfl, if_neg b2]
      obtain ⟨M1, e1, f1, g1⟩ := c_try (N := N) h
      rw [e1, zBv_s]
      have h1 := h.fx f1
      obtain ⟨p, hr, hp⟩ := h1.2.1
      obtain ⟨M', e2, f2⟩ := w_breaks34 (N := N) hv hc hN (p := p) (t := k) (by omega) 100 N 0 M1 h1.k hr hp g1 (by omega) (by omega)
      exact ⟨M', e2, f1.tr f2⟩
  · rw [if_neg b, if_pos rfl, if_neg b]
    exact ⟨M, rfl, zfr.rf M⟩
end CQ
