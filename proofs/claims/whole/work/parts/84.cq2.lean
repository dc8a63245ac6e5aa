theorem ext64 {a b : Nat} (ha : a < 64) (hb : b < 64) (h : ∀ t, t < 6 → zbt a t = zbt b t) : a = b := by
  apply Nat.eq_of_testBit_eq
  intro t
  by_cases e : t < 6
  · exact h t e
  · have h2 : 64 ≤ 2 ^ t := Nat.pow_le_pow_right (n := 2) (i := 6) (by decide) (by omega)
    rw [Nat.testBit_lt_two_pow (by omega), Nat.testBit_lt_two_pow (by omega)]
theorem zbt_p2 {k t : Nat} : zbt (2 ^ k) t = decide (k = t) := Nat.testBit_two_pow
theorem zbt_hi {n b t : Nat} (hb : b < 2 ^ n) (ht : n ≤ t) : zbt b t = false := Nat.testBit_lt_two_pow (Nat.lt_of_lt_of_le hb (Nat.pow_le_pow_right (by decide) ht))
theorem zbts_id {n b : Nat} (hn : n ≤ 6) (hb : b < 2 ^ n) : zbts (zbt b) n = b := ext64 (pow64 hn zbts_lt) (pow64 hn hb) (fun t _ => by
  rw [zbts_t]
  by_cases e : t < n
  · simp [e]
  · simp [e, zbt_hi hb (Nat.le_of_not_lt e)])
theorem zdif_lt {a b : Nat} : zdif a b ≤ a := Nat.and_le_left
def sWO (S : SK) (o : Nat) : SK := (sA S, sW S, o, sB S, sT S, sS S)
/-- the wind of one's own that run -/
def mOw (P : PK) (S : SK) (o : Int) : Int := zsum (fun t => if qT P 2 t = o ∧ mRun S t = true then mWnd (mBl P S) (mTkn P (sA S) (mRun S) (mFr P S) t) else 0) (qN P)
def mRb (P : PK) (S : SK) (o : Int) (k : Nat) : SK := sWO S (zbts (fun t => zbt (sO S) t && (decide (k ≤ t) || decide (qT P 2 t = o))) (qN P))
def qRobbed (A : AK) (x : Int) : Int := if 1 ≤ x ∧ x ≤ 2 then mOw (aP A) (mRb (aP A) (aS A) x (qN (aP A))) x - mOw (aP A) (aS A) x else -1
/-- fortieths -/
def mCh (A : AK) (t : Nat) (pw odds : Int) : Nat → Int
  | 0 => 0
  | f + 1 => mCh A t pw odds f + (if pw ≤ mPow (aP A) (aS A) f (mBl (aP A) (aS A)) t then odds else 0) + (if pw ≤ mPow (aP A) (aS A) f ((mBl (aP A) (aS A)).tdiv 2) t then 10 - odds else 0)
def qChance (A : AK) (x y z : Int) : Int := if (0 ≤ x ∧ x < qN (aP A)) ∧ (1 ≤ y ∧ y ≤ 99) ∧ (0 ≤ z ∧ z ≤ 10) then mCh A x.toNat y z 4 * 25000 else -1
def qCount (A : AK) (x : Int) : Int := if x = 0 then (qN (aP A) : Int) else if x = 1 then sT (aS A) else if x = 2 then mBl (aP A) (aS A) else if x = 3 then mFr (aP A) (aS A) else if x = 4 then mPr (aP A) (aS A) else if x = 5 then zsum (aPw A) (qN (aP A)) else if x = 6 then sS (aS A) else if x = 7 then (sO (aS A) : Int) else if x = 8 then (sB (aS A) : Int) else if x = 9 then ((aL A).length : Int) else if x = 10 then ((aV A).length : Int) else if x = 11 then ((aH A).length : Int) else if x = 12 then (aT A : Int) else -1000000
section CQ2
variable {N c : Nat} {A : AK} {M : ZM}
theorem w_straight (h : CA A M) (hv : VA c A) (hN : 2000 ≤ N) : ∃ M', Wp_straight N 0 M = some (qStraight A, M') ∧ zfr fX M M' := by
  unfold Wp_straight qStraight
  obtain ⟨M1, e1, f1, g1⟩ := c_try (N := N) h
  rw [e1, zBv_s]
  have h1 := h.fx f1
  obtain ⟨M2, e2, k2, a2, b2⟩ := c_fill (N := N) (M := M1) (t := 40) (a := 1) (x := 2) (m := 6) (by omega) hN (h1.k.n 6 (fun _ => rfl))
  rw [e2, zBv_s]
  have f2 : zfr fX M1 M2 := ⟨k2, fun t i k ht => b2 t i k (by simp [fX, fS] at ht; omega)⟩
  have h2 := h1.fx f2
  obtain ⟨p, hr, hp⟩ := h2.2.1
  rw [hr.1, zO_s]
  have s2 : CS 1 (sWA (aS A) (fun _ => 2)) M2 := by
    obtain ⟨q1, q2, q3, q4, q5⟩ := g1
    refine ⟨fun k hk => ⟨a2 k hk, (b2 _ _ _ (by omega)).trans (q1 k hk).2⟩, (b2 _ _ _ (by omega)).trans q2, (b2 _ _ _ (by omega)).trans q3, (b2 _ _ _ (by omega)).trans q4, (b2 _ _ _ (by omega)).trans q5⟩
  have v2 : VS c (aP A) (sWA (aS A) (fun _ => 2)) := ⟨hv.s.1, hv.s.2.1, fun k _ => by show (0 : Int) ≤ 2 ∧ (2 : Int) ≤ 4; omega, hv.s.2.2.2.1, hv.s.2.2.2.2⟩
  obtain ⟨M3, e3, f3⟩ := c_sold (N := N) hv.p v2 h2.k hp s2 hN
  rw [e3, zB_s]
  have h3 := h2.fx (f3.mo fF_X)
  obtain ⟨p', hr', hp'⟩ := h3.2.1
  rw [hr'.1, zO_s]
  obtain ⟨M4, e4, f4⟩ := c_sold (N := N) hv.p hv.s h3.k hp' h3.s hN
  have b1 := mSold_b hv.p v2
  have b2 := mSold_b hv.p hv.s
  rw [e4, zB_s, zs (by omega)]
  exact ⟨M4, rfl, ((f1.tr f2).tr (f3.mo fF_X)).tr (f4.mo fF_X)⟩
theorem w_full19 {p : Nat} (hv : VA c A) (hr : CR p M) (hp : CP p (aP A) M) {ld : Nat → Int} (hl : ∀ o, o < 6 → mI M 23 0 o = ld o) : ∀ (n k : Nat), k ≤ qN (aP A) → qN (aP A) - k < n → Wp_full_19 N n 0 (zbts (fun t => decide (qT (aP A) 4 t ≠ -1 ∧ ld t = qT (aP A) 5 t)) k : Nat) k M = some (((zbts (fun t => decide (qT (aP A) 4 t ≠ -1 ∧ ld t = qT (aP A) 5 t)) (qN (aP A)) : Nat) : Int), M) := by
  intro n
  induction n with
  | zero => intros; omega
  | succ n ih =>
    intro k hk hn
    have h6 := hv.p.n
    have hb64 : zbts (fun t => decide (qT (aP A) 4 t ≠ -1 ∧ ld t = qT (aP A) 5 t)) k < 64 := pow64 (n := k) (by omega) zbts_lt
    have hi := ih (k + 1)
    unfold Wp_full_19
    rw [hr.1, zO_s, hp.n]
    by_cases b : k = qN (aP A)
    · subst b
      rw [if_neg (by omega)]
    · have hkN : k < qN (aP A) := by omega
      rw [if_pos (by omega), zI_t (by omega), Int.toNat_natCast, hp.g hkN]
      simp only [zW_e]
      rw [zsucc (by omega)]
      rw [zbts] at hi
      by_cases b2 : qT (aP A) 4 k = -1
      · rw [if_pos b2]
        rw [if_neg (by simp [b2]), Nat.or_zero] at hi
        exact hi (by omega) (by omega)
      · rw [if_neg b2, zI_t (by omega), zI_t (by omega), hl k (by omega), hp.h hkN]
        by_cases b3 : ld k = qT (aP A) 5 k
        · rw [if_pos b3, zsh_n k (by omega), zor_n _ hb64 _ (p2_64 (by omega))]
          rw [if_pos (by simp [b2, b3])] at hi
          exact hi (by omega) (by omega)
        · rw [if_neg b3]
          rw [if_neg (by simp [b3]), Nat.or_zero] at hi
          exact hi (by omega) (by omega)
theorem w_full (h : CA A M) (hv : VA c A) (hN : 2000 ≤ N) : ∃ M', Wp_full N 0 M = some (qFull A, M') ∧ zfr fX M M' := by
  obtain ⟨p, hr, hp⟩ := h.2.1
  have h6 := hv.p.n
  unfold Wp_full qFull
  rw [hr.1, zO_s]
  obtain ⟨M1, e1, f1, _, g1, _⟩ := c_measure (N := N) (a := 0) hv.p hv.s h.k hp h.s hN
  rw [e1, zBv_s]
  have := w_full19 (N := N) hv (hr.e f1.1) (hp.fr f1 fF_p) g1 N 0 (by omega) (by omega)
  exact ⟨M1, this, f1.mo fF_X⟩
theorem w_dear21 {p : Nat} (hv : VA c A) (hN : 2000 ≤ N) {pw : Nat → Int} (hpw : ∀ t, t < qN (aP A) → 0 ≤ pw t ∧ pw t ≤ 99) : ∀ (n k : Nat) (M : ZM), KM M → CR p M → CP p (aP A) M → (∀ t, t < qN (aP A) → mI M 22 0 t = pw t) → k ≤ qN (aP A) → qN (aP A) - k < n → ∃ M', Wp_dear_21 N n 0 (mDr2 (aP A) pw k).1 (mDr2 (aP A) pw k).2 k M = some ((mDr2 (aP A) pw (qN (aP A))).1, M') ∧ zfr fF M M' := by
  intro n
  induction n with
  | zero => intros; omega
  | succ n ih =>
    intro k M hk' hr hp h22 hk hn
    have h6 := hv.p.n
    have hi := ih (k + 1)
    unfold Wp_dear_21
    rw [hr.1, zO_s, hp.n]
    by_cases b : k = qN (aP A)
    · subst b
      rw [if_neg (by omega)]
      exact ⟨M, rfl, zfr.rf M⟩
    · have hkN : k < qN (aP A) := by omega
      rw [if_pos (by omega), zI_t (by omega), Int.toNat_natCast, hp.g hkN]
      simp only [zW_e]
      rw [zsucc (by omega)]
      rw [mDr2] at hi
      by_cases b2 : qT (aP A) 4 k = -1
      · rw [if_pos b2]
        rw [if_neg (fun h => h.1 b2)] at hi
        exact hi M hk' hr hp h22 (by omega) (by omega)
      · rw [if_neg b2]
        obtain ⟨M1, e1, f1, _, g2⟩ := c_bring (N := N) (f := (k : Int)) (a := 0) hv.p hk' hp hN hpw h22
        have hh := hi M1 (hk'.e f1.1) (hr.e f1.1) (hp.fr (f1.mo fB_F) fF_p) (fun t ht => by rw [f1.2 _ _ _ (by simp [fB]), h22 t ht]) (by omega) (by omega)
        rw [e1, zBv_s, g2]
        by_cases b3 : (mDr2 (aP A) pw k).1 = -1
        · rw [if_pos b3]
          rw [if_pos ⟨b2, .inl b3⟩] at hh
          obtain ⟨M', e2, f2⟩ := hh
          exact ⟨M', e2, (f1.mo fB_F).tr f2⟩
        · rw [if_neg b3]
          by_cases b4 : mHm (aP A) pw k < (mDr2 (aP A) pw k).2
          · rw [if_pos b4]
            rw [if_pos ⟨b2, .inr b4⟩] at hh
            obtain ⟨M', e2, f2⟩ := hh
            exact ⟨M', e2, (f1.mo fB_F).tr f2⟩
          · rw [if_neg b4]
            rw [if_neg (fun h => h.2.elim b3 b4)] at hh
            obtain ⟨M', e2, f2⟩ := hh
            exact ⟨M', e2, (f1.mo fB_F).tr f2⟩
theorem w_dear (h : CA A M) (hv : VA c A) (hN : 2000 ≤ N) : ∃ M', Wp_dear N 0 M = some (qDear A, M') ∧ zfr fX M M' := by
  obtain ⟨p, hr, hp⟩ := h.2.1
  have h6 := hv.p.n
  unfold Wp_dear qDear
  rw [hr.1, zO_s]
  obtain ⟨M1, e1, f1, g1, _⟩ := c_measure (N := N) (a := 0) hv.p hv.s h.k hp h.s hN
  rw [e1, zBv_s]
  obtain ⟨M', e2, f2⟩ := w_dear21 (N := N) hv hN (pw := aPw A) (fun t _ => mPow_b) N 0 M1 (h.k.e f1.1) (hr.e f1.1) (hp.fr f1 fF_p) (fun t ht => (g1 t ht).2.2) (by omega) (by omega)
  exact ⟨M', e2, (f1.tr f2).mo fF_X⟩
theorem w_fault (h : CA A M) (hv : VA c A) (hN : 2000 ≤ N) (x : Int) : ∃ M', Wp_fault N 0 x M = some (qFault A x, M') ∧ zfr fX M M' := by
  obtain ⟨p, hr, hp⟩ := h.2.1
  have h6 := hv.p.n
  unfold Wp_fault qFault
  rw [c_stands hr hp, zB_s]
  by_cases b : 0 ≤ x ∧ x < qN (aP A)
  · obtain ⟨k, rfl⟩ : ∃ k : Nat, x = k := ⟨x.toNat, by omega⟩
    rw [if_pos b, if_neg (by decide), hr.1, zO_s, zI_t (by omega), Int.toNat_natCast, hp.g (by omega)]
    by_cases b2 : qT (aP A) 4 k = -1
    · rw [if_pos b2, if_neg (fun h => h.2 b2)]; exact ⟨M, rfl, zfr.rf M⟩
    · rw [if_neg b2, if_pos ⟨b, b2⟩]
      obtain ⟨M1, e1, f1, g1, _⟩ := c_measure (N := N) (a := 0) hv.p hv.s h.k hp h.s hN
      rw [e1, zBv_s, (hr.e f1.1).1, zO_s]
      obtain ⟨M2, e2, f2, _, g2⟩ := c_bring (N := N) (f := (k : Int)) (a := 0) (pw := aPw A) hv.p (h.k.e f1.1) (hp.fr f1 fF_p) hN (fun t _ => mPow_b) (fun t ht => (g1 t ht).2.2)
      rw [e2, zBv_s, g2]
      exact ⟨M2, rfl, (f1.tr (f2.mo fB_F)).mo fF_X⟩
  · rw [if_neg b, if_pos rfl, if_neg (fun h => b h.1)]
    exact ⟨M, rfl, zfr.rf M⟩
theorem w_front17 {p : Nat} (hv : VA c A) (hr : CR p M) (hp : CP p (aP A) M) {tk : Nat → Int} (hl : ∀ o, o < qN (aP A) → mI M 20 0 o = tk o) : ∀ (n k : Nat), k ≤ qN (aP A) → qN (aP A) - k < n → Wp_front_19 N n 0 (zbts (fun t => decide (tk t = 0)) k : Nat) k M = some (((zbts (fun t => decide (tk t = 0)) (qN (aP A)) : Nat) : Int), M) := by
  intro n
  induction n with
  | zero => intros; omega
  | succ n ih =>
    intro k hk hn
    have h6 := hv.p.n
    have hb64 : zbts (fun t => decide (tk t = 0)) k < 64 := pow64 (n := k) (by omega) zbts_lt
    have hi := ih (k + 1)
    unfold Wp_front_19
    rw [hr.1, zO_s, hp.n]
    by_cases b : k = qN (aP A)
    · subst b
      rw [if_neg (by omega)]
    · have hkN : k < qN (aP A) := by omega
      rw [if_pos (by omega), zI_t (by omega), Int.toNat_natCast, hl k hkN]
      simp only [zW_e]
      rw [zsucc (by omega)]
      rw [zbts] at hi
      by_cases b3 : tk k = 0
      · rw [if_pos b3, zsh_n k (by omega), zor_n _ hb64 _ (p2_64 (by omega))]
        rw [if_pos (by simp [b3])] at hi
        exact hi (by omega) (by omega)
      · rw [if_neg b3]
        rw [if_neg (by simp [b3]), Nat.or_zero] at hi
        exact hi (by omega) (by omega)
theorem w_front (h : CA A M) (hv : VA c A) (hN : 2000 ≤ N) : ∃ M', Wp_front N 0 M = some (qFront A, M') ∧ zfr fX M M' := by
  obtain ⟨p, hr, hp⟩ := h.2.1
  have h6 := hv.p.n
  unfold Wp_front qFront
  rw [hr.1, zO_s]
  obtain ⟨M1, e1, f1, g1, _⟩ := c_measure (N := N) (a := 0) hv.p hv.s h.k hp h.s hN
  rw [e1, zBv_s]
  have := w_front17 (N := N) hv (hr.e f1.1) (hp.fr f1 fF_p) (fun o ho => (g1 o ho).1) N 0 (by omega) (by omega)
  exact ⟨M1, this, f1.mo fF_X⟩
end CQ2
