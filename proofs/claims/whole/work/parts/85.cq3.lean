section CQ3
variable {N c : Nat} {A : AK} {M : ZM}
theorem w_shade14 {p : Nat} (hv : VA c A) (hr : CR p M) (hp : CP p (aP A) M) (hs : CS 0 (aS A) M) {t : Nat} (ht : t < qN (aP A)) : ∀ (n k : Nat), k ≤ qN (aP A) → qN (aP A) - k < n → Wp_shade_14 N n 0 t (zbts (fun o => decide (0 < mTs (aP A) (sA (aS A)) (mRun (aS A)) (mFr (aP A) (aS A)) o t)) k : Nat) k M = some (((zbts (fun o => decide (0 < mTs (aP A) (sA (aS A)) (mRun (aS A)) (mFr (aP A) (aS A)) o t)) (qN (aP A)) : Nat) : Int), M) := by
  intro n
  induction n with
  | zero => intros; omega
  | succ n ih =>
    intro k hk hn
    have h6 := hv.p.n
    have hb64 : zbts (fun o => decide (0 < mTs (aP A) (sA (aS A)) (mRun (aS A)) (mFr (aP A) (aS A)) o t)) k < 64 := pow64 (n := k) (by omega) zbts_lt
    have hi := ih (k + 1)
    unfold Wp_shade_14
    rw [hr.1, zO_s, hp.n]
    by_cases b : k = qN (aP A)
    · subst b
      rw [if_neg (by omega)]
    · rw [if_pos (by omega)]
      simp only [zW_e]
      rw [zsucc (by omega)]
      rw [zbts] at hi
      by_cases b2 : k = t
      · rw [if_pos (by omega)]
        rw [if_neg (by simp [mTs, b2]), Nat.or_zero] at hi
        exact hi (by omega) (by omega)
      · rw [if_neg (by omega), c_takenNow hr hp hs hv ht (by omega) (by omega), zB_s]
        by_cases b3 : 0 < mTs (aP A) (sA (aS A)) (mRun (aS A)) (mFr (aP A) (aS A)) k t
        · rw [if_pos b3, zsh_n k (by omega), zor_n _ hb64 _ (p2_64 (by omega))]
          rw [if_pos (by simp [b3])] at hi
          exact hi (by omega) (by omega)
        · rw [if_neg b3]
          rw [if_neg (by simp only [b3, decide_false]; decide), Nat.or_zero] at hi
          exact hi (by omega) (by omega)
theorem w_shade (h : CA A M) (hv : VA c A) (hN : 2000 ≤ N) (x : Int) : Wp_shade N 0 x M = some (qShade A x, M) := by
  obtain ⟨p, hr, hp⟩ := h.2.1
  have h6 := hv.p.n
  unfold Wp_shade qShade
  rw [c_stands hr hp, zB_s]
  by_cases b : 0 ≤ x ∧ x < qN (aP A)
  · obtain ⟨k, rfl⟩ : ∃ k : Nat, x = k := ⟨x.toNat, by omega⟩
    rw [if_pos b, if_neg (by decide), if_pos b, Int.toNat_natCast]
    exact w_shade14 (N := N) hv hr hp h.s (by omega) N 0 (by omega) (by omega)
  · rw [if_neg b, if_pos rfl, if_neg b]
theorem w_hops17 {p : Nat} (hv : VA c A) (hr : CR p M) (hp : CP p (aP A) M) : ∀ (m n i : Nat) (k : Int), (k = 6 ∨ (0 ≤ k ∧ k < qN (aP A))) → i + m ≤ 6 → mHp (aP A) (m + 1) k ≤ m → m + 1 ≤ n → Wp_hops_17 N n 0 k i i M = some (((i + mHp (aP A) (m + 1) k : Nat) : Int), M) := by
  intro m
  induction m with
  | zero =>
    intro n i k hk hi hm hn
    have h6 := hv.p.n
    cases n with
    | zero => omega
    | succ n =>
      unfold Wp_hops_17
      have e0 : mHp (aP A) (0 + 1) k = 0 := by omega
      rw [e0, c_stands hr hp, zB_s]
      by_cases b1 : (i : Int) < 6
      · rw [if_pos b1]
        by_cases b2 : 0 ≤ k ∧ k < qN (aP A)
        · rw [if_pos b2, if_neg (by decide), hr.1, zO_s, zI_t (by omega), hp.g (by omega)]
          have e1 : qT (aP A) 4 k.toNat = -1 := by
            unfold mHp at e0
            have hg := hv.p.g (k := k.toNat) (by omega)
            by_cases b3 : k = 6 ∨ qT (aP A) 4 k.toNat < 0
            · omega
            · rw [if_neg b3] at e0; omega
          rw [if_pos e1]; rfl
        · rw [if_neg b2, if_pos rfl]; rfl
      · rw [if_neg b1]; rfl
  | succ m ih =>
    intro n i k hk hi hm hn
    have h6 := hv.p.n
    cases n with
    | zero => omega
    | succ n =>
      unfold Wp_hops_17
      rw [if_pos (by omega), c_stands hr hp, zB_s]
      rw [mHp] at hm ⊢
      by_cases b2 : 0 ≤ k ∧ k < qN (aP A)
      · rw [if_pos b2, if_neg (by decide), hr.1, zO_s, zI_t (by omega), hp.g (by omega)]
        have hg := hv.p.g (k := k.toNat) (by omega)
        by_cases b3 : qT (aP A) 4 k.toNat = -1
        · rw [if_pos b3, if_pos (by omega)]; rfl
        · rw [if_neg (by omega)] at hm
          rw [if_neg b3, if_neg (by omega)]
          simp only [zW_e]
          rw [zsucc (by omega), zI_t (by omega), ih n (i + 1) _ (by omega) (by omega) (by omega) (by omega)]
          congr 3
          omega
      · have hk6 : k = 6 := by omega
        rw [if_neg b2, if_pos rfl, if_pos (.inl hk6)]; rfl
theorem w_hops (h : CA A M) (hv : VA c A) (hN : 2000 ≤ N) (x : Int) : Wp_hops N 0 x M = some (qHops A x, M) := by
  obtain ⟨p, hr, hp⟩ := h.2.1
  have h6 := hv.p.n
  unfold Wp_hops qHops
  rw [c_stands hr hp, zB_s]
  by_cases b : 0 ≤ x ∧ x < qN (aP A)
  · obtain ⟨k, rfl⟩ : ∃ k : Nat, x = k := ⟨x.toNat, by omega⟩
    rw [if_pos b, if_neg (by decide), if_pos b, Int.toNat_natCast]
    have hb := mHop_b hv.p (t := k) (by omega)
    have h7 : mHp (aP A) (6 + 1) k ≤ 6 := by
      by_cases b : qT (aP A) 4 k = -1
      · have := hb.1 b; unfold mHop at this; rw [this]; omega
      · have := hb.2.1 b; unfold mHop at this; exact this.2
    have := w_hops17 (N := N) hv hr hp 6 N 0 k (.inr b) (by omega) h7 (by omega)
    rw [Nat.zero_add] at this
    exact this
  · rw [if_neg b, if_pos rfl, if_neg b]
theorem w_own17 {p i : Nat} {S : SK} (hv : VP (aP A)) (hz : VS c (aP A) S) (hr : CR p M) (hp : CP p (aP A) M) (hs : CS i S M) {o : Int} {w : Nat → Int} (hw : ∀ t, t < qN (aP A) → mI M 21 0 t = w t ∧ 0 ≤ w t ∧ w t ≤ 30) : ∀ (n k : Nat), k ≤ qN (aP A) → qN (aP A) - k < n → Wp_ownWind_17 N n 0 i o (zsum (fun t => if qT (aP A) 2 t = o ∧ mRun S t = true then w t else 0) k) k M = some (zsum (fun t => if qT (aP A) 2 t = o ∧ mRun S t = true then w t else 0) (qN (aP A)), M) := by
  intro n
  induction n with
  | zero => intros; omega
  | succ n ih =>
    intro k hk hn
    have h6 := hv.n
    have hi := ih (k + 1)
    unfold Wp_ownWind_17
    rw [hr.1, zO_s, hp.n]
    by_cases b : k = qN (aP A)
    · subst b
      rw [if_neg (by omega)]
    · have hkN : k < qN (aP A) := by omega
      have a1 := zsum_ge (f := fun t => if qT (aP A) 2 t = o ∧ mRun S t = true then w t else 0) (n := k) (a := 0) (fun t ht => by
        have := hw t (by omega)
        split <;> omega)
      have a2 := zsum_le (f := fun t => if qT (aP A) 2 t = o ∧ mRun S t = true then w t else 0) (n := k) (a := 30) (fun t ht => by
        have := hw t (by omega)
        split <;> omega)
      have a3 := hw k hkN
      rw [if_pos (by omega), zI_t (by omega), Int.toNat_natCast, hp.o hkN]
      simp only [zW_e]
      rw [zsucc (by omega)]
      rw [zsum] at hi
      by_cases b2 : qT (aP A) 2 k = o
      · rw [if_pos b2, c_runs hs (hz.o hv) (hz.b hv) (by omega), zB_s]
        by_cases b3 : mRun S k = true
        · rw [if_pos b3, if_neg (by decide), zI_t (by omega), a3.1, zs (by omega)]
          rw [if_pos ⟨b2, b3⟩] at hi
          exact hi (by omega) (by omega)
        · rw [if_neg b3, if_pos rfl]
          rw [if_neg (fun h => b3 h.2), Int.add_zero] at hi
          exact hi (by omega) (by omega)
      · rw [if_neg b2]
        rw [if_neg (fun h => b2 h.1), Int.add_zero] at hi
        exact hi (by omega) (by omega)
theorem w_own {p i : Nat} {S : SK} (hv : VP (aP A)) (hz : VS c (aP A) S) (hk : KM M) (hr : CR p M) (hp : CP p (aP A) M) (hs : CS i S M) (hN : 2000 ≤ N) {o : Int} : ∃ M', Wp_ownWind N 0 i o M = some (mOw (aP A) S o, M') ∧ zfr fF M M' := by
  have h6 := hv.n
  unfold Wp_ownWind
  rw [hr.1, zO_s]
  obtain ⟨M1, e1, f1, g1, _⟩ := c_measure (N := N) (a := 0) hv hz hk hp hs hN
  rw [e1, zBv_s]
  have := w_own17 (N := N) hv hz (hr.e f1.1) (hp.fr f1 fF_p) (hs.fr f1 (fun t k h => fF_s t i k h)) (o := o) (w := fun t => mWnd (mBl (aP A) S) (mTkn (aP A) (sA S) (mRun S) (mFr (aP A) S) t)) (fun t ht => ⟨(g1 t ht).2.1, mWnd_b (hv.bl hz.t) (mTkn_b hv)⟩) N 0 (by omega) (by omega)
  exact ⟨M1, this, f1⟩
theorem mRb_0 {P : PK} {S : SK} {o : Int} (hv : VP P) (hz : sO S < 2 ^ qN P) : mRb P S o 0 = S := by
  unfold mRb
  have : (fun t => zbt (sO S) t && (decide (0 ≤ t) || decide (qT P 2 t = o))) = zbt (sO S) := by
    funext t; simp
  rw [this, zbts_id hv.n hz]
  rfl
theorem mRb_v {c : Nat} {P : PK} {S : SK} {o : Int} {k : Nat} (h : VS c P S) : VS c P (mRb P S o k) := ⟨zbts_lt, h.2.1, h.2.2.1, h.2.2.2.1, h.2.2.2.2⟩
theorem mOw_b {P : PK} {S : SK} {o : Int} {c : Nat} (hv : VP P) (hz : VS c P S) : 0 ≤ mOw P S o ∧ mOw P S o ≤ 180 := by
  have h6 := hv.n
  have hb : ∀ t, 0 ≤ (if qT P 2 t = o ∧ mRun S t = true then mWnd (mBl P S) (mTkn P (sA S) (mRun S) (mFr P S) t) else 0) ∧ (if qT P 2 t = o ∧ mRun S t = true then mWnd (mBl P S) (mTkn P (sA S) (mRun S) (mFr P S) t) else 0) ≤ 30 := fun t => by
    have := mWnd_b (hv.bl hz.t) (mTkn_b hv (A := sA S) (R := mRun S) (fr := mFr P S) (o := t))
    unfold mBl
    split <;> omega
  have a1 := zsum_ge (f := fun t => if qT P 2 t = o ∧ mRun S t = true then mWnd (mBl P S) (mTkn P (sA S) (mRun S) (mFr P S) t) else 0) (n := qN P) (a := 0) (fun t _ => (hb t).1)
  have a2 := zsum_le (f := fun t => if qT P 2 t = o ∧ mRun S t = true then mWnd (mBl P S) (mTkn P (sA S) (mRun S) (mFr P S) t) else 0) (n := qN P) (a := 30) (fun t _ => (hb t).2)
  unfold mOw
  omega
theorem w_rob35 {p : Nat} (hv : VA c A) (hN : 2000 ≤ N) {o l : Int} (hl : l = mOw (aP A) (aS A) o) : ∀ (n k : Nat) (M : ZM), KM M → CR p M → CP p (aP A) M → CS 1 (mRb (aP A) (aS A) o k) M → k ≤ qN (aP A) → qN (aP A) - k < n → ∃ M', Wp_robbed_35 N n 0 o l k M = some (mOw (aP A) (mRb (aP A) (aS A) o (qN (aP A))) o - mOw (aP A) (aS A) o, M') ∧ zfr fX M M' := by
  intro n
  induction n with
  | zero => intros; omega
  | succ n ih =>
    intro k M hk' hr hp hs hk hn
    have h6 := hv.p.n
    unfold Wp_robbed_35
    rw [hr.1, zO_s, hp.n]
    by_cases b : k = qN (aP A)
    · subst b
      rw [if_neg (by omega)]
      obtain ⟨M1, e1, f1⟩ := w_own (N := N) (c := c) hv.p (mRb_v hv.s) hk' hr hp hs hN (o := o)
      have b1 := mOw_b (o := o) hv.p (mRb_v (o := o) (k := qN (aP A)) hv.s)
      have b2 := mOw_b (o := o) hv.p hv.s
      rw [e1, zB_s, hl, zs (by omega)]
      exact ⟨M1, rfl, f1.mo fF_X⟩
    · have hkN : k < qN (aP A) := by omega
      rw [if_pos (by omega), zI_t (by omega), Int.toNat_natCast, hp.o hkN]
      simp only [zW_e]
      rw [zsucc (by omega)]
      by_cases b2 : qT (aP A) 2 k = o
      · rw [if_pos b2]
        refine ih (k + 1) M hk' hr hp ?_ (by omega) (by omega)
        have e : mRb (aP A) (aS A) o (k + 1) = mRb (aP A) (aS A) o k := by
          unfold mRb
          congr 1
          refine zbts_cg fun t _ => ?_
          by_cases e : t = k
          · subst e; simp [b2]
          · have : decide (k + 1 ≤ t) = decide (k ≤ t) := by apply decide_eq_decide.2; omega
            rw [this]
        rw [e]; exact hs
      · rw [if_neg b2, hs.o, zsh_n k (by omega)]
        have h64 : sO (mRb (aP A) (aS A) o k) < 64 := pow64 hv.p.n zbts_lt
        rw [zdif_n _ h64 _ (p2_64 (by omega))]
        have e : zdif (sO (mRb (aP A) (aS A) o k)) (2 ^ k) = sO (mRb (aP A) (aS A) o (k + 1)) := by
          refine ext64 (Nat.lt_of_le_of_lt zdif_lt h64) (pow64 hv.p.n zbts_lt) fun t ht => ?_
          rw [zdif_t _ h64 _ (p2_64 (by omega)) t ht]
          show (zbt (zbts _ _) t && _) = zbt (zbts _ _) t
          rw [zbts_t, zbts_t, zbt_p2]
          by_cases e : k = t
          · subst e; simp [b2]
          · have : decide (k + 1 ≤ t) = decide (k ≤ t) := by apply decide_eq_decide.2; omega
            rw [this]; simp [e]
        rw [e]
        have f1 : zfr (fS 1) M (pI M 7 1 2 (sO (mRb (aP A) (aS A) o (k + 1)) : Int)) := (zfr.rf M).pI (by simp [fS])
        have s1 : CS 1 (mRb (aP A) (aS A) o (k + 1)) (pI M 7 1 2 (sO (mRb (aP A) (aS A) o (k + 1)) : Int)) := by
          obtain ⟨q1, q2, q3, q4, q5⟩ := hs
          exact ⟨fun j hj => ⟨(mI_pI_ne (by omega)).trans (q1 j hj).1, (mI_pI_ne (by omega)).trans (q1 j hj).2⟩, mI_pI_eq, (mI_pI_ne (by omega)).trans q3, (mI_pI_ne (by omega)).trans q4, (mI_pI_ne (by omega)).trans q5⟩
        obtain ⟨M', e2, f2⟩ := ih (k + 1) _ (hk'.e f1.1) (hr.e f1.1) (hp.fr f1 fS_p) s1 (by omega) (by omega)
        exact ⟨M', e2, (f1.mo fS_X).tr f2⟩
theorem w_robbed (h : CA A M) (hv : VA c A) (hN : 2000 ≤ N) (x : Int) : ∃ M', Wp_robbed N 0 x M = some (qRobbed A x, M') ∧ zfr fX M M' := by
  unfold Wp_robbed qRobbed
  have h6 := hv.p.n
  by_cases b1 : x < 1
  · rw [if_pos b1, if_neg (by omega)]; exact ⟨M, rfl, zfr.rf M⟩
  · by_cases b2 : 2 < x
    · rw [if_neg b1, if_pos b2, if_neg (by omega)]; exact ⟨M, rfl, zfr.rf M⟩
    · rw [if_neg b1, if_neg b2, if_pos (by omega)]
      obtain ⟨p, hr, hp⟩ := h.2.1
      obtain ⟨M1, e1, f1⟩ := w_own (N := N) (c := c) hv.p hv.s h.k hr hp h.s hN (o := x)
      rw [e1, zB_s]
      have h1 := h.fx (f1.mo fF_X)
      obtain ⟨M2, e2, f2, g2⟩ := c_try (N := N) h1
      rw [e2, zBv_s]
      have h2 := h1.fx f2
      obtain ⟨p', hr', hp'⟩ := h2.2.1
      obtain ⟨M', e3, f3⟩ := w_rob35 (N := N) hv hN (o := x) rfl N 0 M2 h2.k hr' hp' (by rw [mRb_0 hv.p hv.s.1]; exact g2) (by omega) (by omega)
      exact ⟨M', e3, ((f1.mo fF_X).tr f2).tr f3⟩
theorem mCh_b {t : Nat} {pw odds : Int} (ho : 0 ≤ odds ∧ odds ≤ 10) : ∀ f : Nat, 0 ≤ mCh A t pw odds f ∧ mCh A t pw odds f ≤ 10 * f
  | 0 => by simp [mCh]
  | f + 1 => by
    have := mCh_b (t := t) (pw := pw) ho f
    unfold mCh
    split <;> split <;> omega
theorem w_ch56 {p : Nat} (hv : VA c A) (hN : 2000 ≤ N) {t : Nat} (ht : t < qN (aP A)) {pw odds : Int} (ho : 0 ≤ odds ∧ odds ≤ 10) : ∀ (n f : Nat) (M : ZM), KM M → CR p M → CP p (aP A) M → CS 0 (aS A) M → f ≤ 4 → 4 - f < n → ∃ M', Wp_chance_56 N n 0 t pw odds (mBl (aP A) (aS A)) (mCh A t pw odds f) f M = some (mCh A t pw odds 4 * 25000, M') ∧ zfr fF M M' := by
  intro n
  induction n with
  | zero => intros; omega
  | succ n ih =>
    intro f M hk hr hp hs hf hn
    have h6 := hv.p.n
    have hb := mCh_b (A := A) (t := t) (pw := pw) ho f
    have hbl := hv.p.bl hv.s.t
    unfold Wp_chance_56
    by_cases b : f = 4
    · subst b
      rw [if_neg (by omega), zs (by omega)]
      exact ⟨M, rfl, zfr.rf M⟩
    · rw [if_pos (by omega), hr.1, zO_s]
      obtain ⟨M1, e1, f1, g1⟩ := c_take (N := N) (a := 0) hv.p hv.s hp hs hN (fr := (f : Int)) (by omega)
      have hp1 := hp.fr f1 fF_p
      have hs1 := hs.fr f1 (fun t k h => fF_s t 0 k h)
      rw [e1, zBv_s, (hr.e f1.1).1, zO_s]
      obtain ⟨M2, e2, f2, g2, _, g3⟩ := c_give (N := N) (a := 0) (fr := (f : Int)) (bl := mBl (aP A) (aS A)) hv.p hv.s hp1 hs1 hN hbl g1
      have hp2 := hp1.fr f2 fF_p
      have hs2 := hs1.fr f2 (fun t k h => fF_s t 0 k h)
      rw [e2, zBv_s, zI_t (by omega), Int.toNat_natCast, (g2 t ht).2]
      have hhb : (mBl (aP A) (aS A)).tdiv 2 = mBl (aP A) (aS A) / 2 := Int.tdiv_eq_ediv_of_nonneg hbl.1
      have hh : 0 ≤ (mBl (aP A) (aS A)).tdiv 2 ∧ (mBl (aP A) (aS A)).tdiv 2 ≤ 30 := by
        rw [hhb]
        unfold mBl at hhb ⊢
        omega
      obtain ⟨M3, e3, f3, g4, _, _⟩ := c_give (N := N) (M := M2) (a := 0) (fr := (f : Int)) (bl := (mBl (aP A) (aS A)).tdiv 2) hv.p hv.s hp2 hs2 hN hh (fun o ho => by rw [g3, g1 o ho])
      have hp3 := hp2.fr f3 fF_p
      have hs3 := hs2.fr f3 (fun t k h => fF_s t 0 k h)
      have hff := (f1.tr f2).tr f3
      clear hhb
      have k116 : ∀ y : Int, y = (if pw ≤ mPow (aP A) (aS A) f (mBl (aP A) (aS A)) t then odds else 0) → ∃ M', Wp_chance_116 N (Wp_chance_56 N n) 0 t pw odds (mBl (aP A) (aS A)) f (mCh A t pw odds f) y M2 = some (mCh A t pw odds 4 * 25000, M') ∧ zfr fF M M' := by
        intro y hy
        have hyb : 0 ≤ y ∧ y ≤ 10 := by subst hy; split <;> omega
        unfold Wp_chance_116
        simp only [zW_e]
        rw [((hr.e f1.1).e f2.1).1, zO_s, zs (x := (mBl (aP A) (aS A)).tdiv 2) (by omega), e3, zBv_s, zI_t (by omega), Int.toNat_natCast, (g4 t ht).2, zsucc (by omega)]
        have hmc : mCh A t pw odds (f + 1) = mCh A t pw odds f + y + (if pw ≤ mPow (aP A) (aS A) f ((mBl (aP A) (aS A)).tdiv 2) t then 10 - odds else 0) := by rw [mCh, hy]
        have hi := ih (f + 1) M3 ((hk.e (f1.tr f2).1).e f3.1) ((hr.e (f1.tr f2).1).e f3.1) hp3 hs3 (by omega) (by omega)
        rw [hmc] at hi
        by_cases b3 : mPow (aP A) (aS A) f ((mBl (aP A) (aS A)).tdiv 2) t < pw
        · rw [if_pos b3, zs (x := mCh A t pw odds f + y) (by omega), zs (x := mCh A t pw odds f + y + 0) (by omega)]
          rw [if_neg (by omega)] at hi
          obtain ⟨M', e4, f4⟩ := hi
          exact ⟨M', e4, hff.tr f4⟩
        · rw [if_neg b3, zs (x := mCh A t pw odds f + y) (by omega), zs (x := 10 - odds) (by omega), zs (x := mCh A t pw odds f + y + (10 - odds)) (by omega)]
          rw [if_pos (by omega)] at hi
          obtain ⟨M', e4, f4⟩ := hi
          exact ⟨M', e4, hff.tr f4⟩
      by_cases b2 : mPow (aP A) (aS A) f (mBl (aP A) (aS A)) t < pw
      · rw [if_pos b2]; exact k116 0 (by rw [if_neg (by omega)])
      · rw [if_neg b2]; exact k116 odds (by rw [if_pos (by omega)])
theorem w_chance (h : CA A M) (hv : VA c A) (hN : 2000 ≤ N) (x y z : Int) : ∃ M', Wp_chance N 0 x y z M = some (qChance A x y z, M') ∧ zfr fX M M' := by
  obtain ⟨p, hr, hp⟩ := h.2.1
  have h6 := hv.p.n
  unfold Wp_chance qChance
  rw [c_stands hr hp, zB_s]
  by_cases b : 0 ≤ x ∧ x < qN (aP A)
  · rw [if_pos b, if_neg (by decide)]
    by_cases b1 : y < 1
    · rw [if_pos b1, if_neg (by omega)]; exact ⟨M, rfl, zfr.rf M⟩
    · by_cases b2 : 99 < y
      · rw [if_neg b1, if_pos b2, if_neg (by omega)]; exact ⟨M, rfl, zfr.rf M⟩
      · by_cases b3 : z < 0
        · rw [if_neg b1, if_neg b2, if_pos b3, if_neg (by omega)]; exact ⟨M, rfl, zfr.rf M⟩
        · by_cases b4 : 10 < z
          · rw [if_neg b1, if_neg b2, if_neg b3, if_pos b4, if_neg (by omega)]; exact ⟨M, rfl, zfr.rf M⟩
          · rw [if_neg b1, if_neg b2, if_neg b3, if_neg b4, if_pos (by omega), hr.1, zO_s, h.s.t, c_round (j := 0) hv.p hp (by omega) (by omega) hv.s.t, zB_s]
            obtain ⟨k, rfl⟩ : ∃ k : Nat, x = k := ⟨x.toNat, by omega⟩
            obtain ⟨M', e, f⟩ := w_ch56 (N := N) hv hN (t := k) (pw := y) (odds := z) (by omega) (by omega) N 0 M h.k hr hp h.s (by omega) (by omega)
            rw [Int.toNat_natCast]
            exact ⟨M', e, f.mo fF_X⟩
  · rw [if_neg b, if_pos rfl, if_neg (by omega)]; exact ⟨M, rfl, zfr.rf M⟩
theorem w_count (h : CA A M) (hv : VA c A) (hN : 2000 ≤ N) (x : Int) : ∃ M', Wp_count N 0 x M = some (qCount A x, M') ∧ zfr fX M M' := by
  obtain ⟨p, hr, hp⟩ := h.2.1
  obtain ⟨M1, e1, f1, _, _, g1, _⟩ := c_measure (N := N) (a := 0) hv.p hv.s h.k hp h.s hN
  obtain ⟨_, _, hs, hl, hvv, _, ⟨q, hq1, hq2, hq3, _⟩, _, ht⟩ := h
  unfold Wp_count qCount
  rw [hr.1]
  simp only [zO_s, hp.n, hs.t, c_round (N := N) (j := 0) hv.p hp (q := 7 * p + 1) (by omega) (by omega) hv.s.t, c_round (N := N) (j := 1) hv.p hp (q := 7 * p + 2) (by omega) (by omega) hv.s.t, c_price (N := N) hv.p hp hv.s.t, zB_s, e1, zBv_s, g1, hs.s, hs.o, hs.b, hl.1, hvv.1, hq3, ht.1]
  have key : ∀ v : Int, ∃ M', some (v, M) = some (v, M') ∧ zfr fX M M' := fun v => ⟨M, rfl, zfr.rf M⟩
  by_cases b0 : x = 0
  · rw [if_pos b0, if_pos b0]; exact key _
  rw [if_neg b0, if_neg b0]
  by_cases b1 : x = 1
  · rw [if_pos b1, if_pos b1]; exact key _
  rw [if_neg b1, if_neg b1]
  by_cases b2 : x = 2
  · rw [if_pos b2, if_pos b2]; exact key _
  rw [if_neg b2, if_neg b2]
  by_cases b3 : x = 3
  · rw [if_pos b3, if_pos b3]; exact key _
  rw [if_neg b3, if_neg b3]
  by_cases b4 : x = 4
  · rw [if_pos b4, if_pos b4]; exact key _
  rw [if_neg b4, if_neg b4]
  by_cases b5 : x = 5
  · rw [if_pos b5, if_pos b5]; exact ⟨M1, rfl, f1.mo fF_X⟩
  rw [if_neg b5, if_neg b5]
  by_cases b6 : x = 6
  · rw [if_pos b6, if_pos b6]; exact key _
  rw [if_neg b6, if_neg b6]
  by_cases b7 : x = 7
  · rw [if_pos b7, if_pos b7]; exact key _
  rw [if_neg b7, if_neg b7]
  by_cases b8 : x = 8
  · rw [if_pos b8, if_pos b8]; exact key _
  rw [if_neg b8, if_neg b8]
  by_cases b9 : x = 9
  · rw [if_pos b9, if_pos b9]; exact key _
  rw [if_neg b9, if_neg b9]
  by_cases b10 : x = 10
  · rw [if_pos b10, if_pos b10]; exact key _
  rw [if_neg b10, if_neg b10]
  by_cases b11 : x = 11
  · rw [if_pos b11, if_pos b11]; exact key _
  rw [if_neg b11, if_neg b11]
  by_cases b12 : x = 12
  · rw [if_pos b12, if_pos b12]; exact key _
  rw [if_neg b12, if_neg b12]
  exact key _
end CQ3
