theorem zxor_n : ∀ a : Nat, a < 64 → ∀ b : Nat, b < 64 → z_xor (a : Int) (b : Int) = ((a ^^^ b : Nat) : Int) := by decide +kernel
theorem zshu_s {n o t : Nat} (hn : n ≤ 6) (ho : o < 2 ^ n) (ht : t < n) : zshu n o ||| 2 ^ t = zshu n (zdif o (2 ^ t)) := by
  refine ext64 (Nat.or_lt_two_pow (n := 6) (zshu_lt hn) (p2_64 (by omega))) (zshu_lt hn) fun u hu => ?_
  rw [zbt_or, zbt_p2]
  unfold zshu
  rw [zbts_t, zbts_t, zdif_t _ (pow64 hn ho) _ (p2_64 (by omega)) u hu, zbt_p2]
  by_cases e : t = u
  · subst e; simp [ht]
  · simp [e]
theorem zshu_o {n o t : Nat} (hn : n ≤ 6) (ht : t < n) : zdif (zshu n o) (2 ^ t) = zshu n (o ||| 2 ^ t) := by
  refine ext64 (Nat.lt_of_le_of_lt zdif_lt (zshu_lt hn)) (zshu_lt hn) fun u hu => ?_
  rw [zdif_t _ (zshu_lt hn) _ (p2_64 (by omega)) u hu, zbt_p2]
  unfold zshu
  rw [zbts_t, zbts_t, zbt_or, zbt_p2]
  by_cases e : t = u
  · subst e; simp
  · simp [e]
theorem zshu_x1 {n o t : Nat} (hn : n ≤ 6) (ho : o < 2 ^ n) (ht : t < n) (h : zbt o t = true) : zshu n o ^^^ 2 ^ t = zshu n (zdif o (2 ^ t)) := by
  rw [← zshu_s hn ho ht]
  apply Nat.eq_of_testBit_eq
  intro u
  rw [Nat.testBit_xor, Nat.testBit_or, Nat.testBit_two_pow]
  by_cases e : t = u
  · subst e
    have : Nat.testBit (zshu n o) t = false := by
      have := zshu_t (n := n) (o := o) ht
      unfold zbt at this h
      rw [this, h]; rfl
    simp [this]
  · simp [e]
theorem zshu_x2 {n o t : Nat} (hn : n ≤ 6) (ht : t < n) (h : zbt o t = false) : zshu n o ^^^ 2 ^ t = zshu n (o ||| 2 ^ t) := by
  rw [← zshu_o hn ht]
  refine ext64 (Nat.xor_lt_two_pow (n := 6) (zshu_lt hn) (p2_64 (by omega))) (Nat.lt_of_le_of_lt zdif_lt (zshu_lt hn)) fun u hu => ?_
  rw [zdif_t _ (zshu_lt hn) _ (p2_64 (by omega)) u hu, zbt_p2]
  show Nat.testBit _ u = _
  rw [Nat.testBit_xor, Nat.testBit_two_pow]
  by_cases e : t = u
  · subst e
    have : Nat.testBit (zshu n o) t = true := by
      have := zshu_t (n := n) (o := o) ht
      unfold zbt at this h
      rw [this, h]; rfl
    simp [this]
  · simp [e, zbt]
theorem zshu_i {n o w k : Nat} (hn : n ≤ 6) (ho : o < 2 ^ n) (hw : w < 2 ^ n) (hk : k < 64) (h : zdif k w = 0) : zdif (zshu n o) w ||| k = zshu n (zdif o w ||| zdif w k) := by
  have w64 := pow64 hn hw
  have o64 := pow64 hn ho
  refine ext64 (Nat.or_lt_two_pow (n := 6) (Nat.lt_of_le_of_lt zdif_lt (zshu_lt hn)) hk) (zshu_lt hn) fun u hu => ?_
  have hz := zdif_t k hk w w64 u hu
  rw [h] at hz
  have hz0 : zbt 0 u = false := Nat.zero_testBit u
  rw [hz0] at hz
  rw [zbt_or, zdif_t _ (zshu_lt hn) _ w64 u hu]
  unfold zshu
  rw [zbts_t, zbts_t, zbt_or, zdif_t _ o64 _ w64 u hu, zdif_t _ w64 _ hk u hu]
  by_cases e : u < n
  · simp only [e, decide_true, Bool.true_and]
    revert hz
    cases zbt k u <;> cases zbt w u <;> cases zbt o u <;> simp
  · have hk0 : zbt k u = false := by
      have := zbt_hi hw (Nat.le_of_not_lt e)
      rw [this] at hz
      simpa using hz.symm
    simp [e, hk0]
theorem zshu_c {n o : Nat} (hn : n ≤ 6) (ho : o < 2 ^ n) : zdif (2 ^ n - 1) (zshu n o) = o := by
  refine ext64 (Nat.lt_of_le_of_lt zdif_lt (pow64 hn p2s)) (pow64 hn ho) fun u hu => ?_
  rw [zdif_t _ (pow64 hn p2s) _ (zshu_lt hn) u hu]
  unfold zshu
  rw [zbts_t]
  have : zbt (2 ^ n - 1) u = decide (u < n) := Nat.testBit_two_pow_sub_one n u
  rw [this]
  by_cases e : u < n
  · simp [e]
  · simp [e, zbt_hi ho (Nat.le_of_not_lt e)]
theorem zshu_0 {n : Nat} : zshu n (2 ^ n - 1) = 0 := by
  have : zshu n (2 ^ n - 1) = zbts (fun _ => false) n := zbts_cg (fun t ht => by
    have : zbt (2 ^ n - 1) t = decide (t < n) := Nat.testBit_two_pow_sub_one n t
    rw [this]; simp [ht])
  rw [this]
  clear this
  induction n with
  | zero => rfl
  | succ n ih => rw [zbts, ih]; simp
section RUP
variable {n : Nat} {S : SK} {M : ZM}
theorem R0.wo (h : R0 n S M) (o : Nat) : R0 n (sWO S o) (pI M 81 0 2 (zshu n o : Int)) := by
  obtain ⟨q1, q2, q3, q4, q5⟩ := h
  refine ⟨fun j hj => ⟨?_, ?_⟩, ?_, ?_, mI_pI_eq, ?_⟩
  · rw [mI_pI_ne (by omega)]; exact (q1 j hj).1
  · rw [mI_pI_ne (by omega)]; exact (q1 j hj).2
  · rw [mI_pI_ne (by omega)]; exact q2
  · rw [mI_pI_ne (by omega)]; exact q3
  · rw [mI_pI_ne (by omega)]; exact q5
theorem R0.wa (h : R0 n S M) {t : Nat} (ht : t < 6) (a : Int) : R0 n (mPut (sA S) t a, S.2) (pI M 81 0 (4 + t) a) := by
  obtain ⟨q1, q2, q3, q4, q5⟩ := h
  refine ⟨fun j hj => ⟨?_, ?_⟩, ?_, ?_, ?_, ?_⟩
  · rw [mI_pI]
    show _ = mPut (sA S) t a j
    unfold mPut
    by_cases e : j = t
    · rw [if_pos (by omega), if_pos e]
    · rw [if_neg (by omega), if_neg e]; exact (q1 j hj).1
  · rw [mI_pI_ne (by omega)]; exact (q1 j hj).2
  · rw [mI_pI_ne (by omega)]; exact q2
  · rw [mI_pI_ne (by omega)]; exact q3
  · rw [mI_pI_ne (by omega)]; exact q4
  · rw [mI_pI_ne (by omega)]; exact q5
theorem R0.wm (h : R0 n S M) {t : Nat} (ht : t < 6) (b : Nat) : R0 n (sA S, mPut (sW S) t 0, sO S, b, sT S, sS S) (pI (pI M 81 0 3 (b : Int)) 81 0 (10 + t) 0) := by
  obtain ⟨q1, q2, q3, q4, q5⟩ := h
  refine ⟨fun j hj => ⟨?_, ?_⟩, ?_, ?_, ?_, ?_⟩
  · rw [mI_pI_ne (by omega), mI_pI_ne (by omega)]; exact (q1 j hj).1
  · rw [mI_pI]
    show _ = mPut (sW S) t 0 j
    unfold mPut
    by_cases e : j = t
    · rw [if_pos (by omega), if_pos e]
    · rw [if_neg (by omega), if_neg e, mI_pI_ne (by omega)]; exact (q1 j hj).2
  · rw [mI_pI_ne (by omega), mI_pI_ne (by omega)]; exact q2
  · rw [mI_pI_ne (by omega), mI_pI_ne (by omega)]; exact q3
  · rw [mI_pI_ne (by omega), mI_pI_ne (by omega)]; exact q4
  · rw [mI_pI_ne (by omega)]; exact mI_pI_eq
end RUP
theorem ch_d1 {f : Nat} (h : f < 4) : z32 (((2 * f : Nat) : Int).tdiv 2) = (f : Int) := by
  rw [Int.tdiv_eq_ediv_of_nonneg (by omega), zs (by omega)]; omega
theorem ch_d2 {f : Nat} (h : f < 4) : z32 (((2 * f + 1 : Nat) : Int).tdiv 2) = (f : Int) := by
  rw [Int.tdiv_eq_ediv_of_nonneg (by omega), zs (by omega)]; omega
theorem ch_m1 {f : Nat} : ((2 * f : Nat) : Int).tmod 2 = 0 := by
  rw [Int.tmod_eq_emod_of_nonneg (by omega)]; omega
theorem ch_m2 {f : Nat} : ¬ ((2 * f + 1 : Nat) : Int).tmod 2 = 0 := by
  rw [Int.tmod_eq_emod_of_nonneg (by omega)]; omega
section RQ3
variable {N c : Nat} {A : AK} {M : ZM}
theorem r_canMend {S : SK} (hv : VP (aP A)) (hz : VS c (aP A) S) (hp : RP (aP A) M) (hs : R0 (qN (aP A)) S M) {t : Nat} (ht : t < 6) : Mo_canMend N 0 t M = some (if mCan (aP A) S 3 t then 1 else 0, M) := by
  have hsl := hv.sl
  have e3 : mCan (aP A) S 3 t = (zbt (sB S) t && decide ((sT S).tmod (qT (aP A) 11 1) = 0)) := by
    unfold mCan
    rw [if_neg (by decide), if_neg (by decide), if_neg (by decide), if_pos rfl]
  unfold Mo_canMend
  rw [r_isBroken hs (hz.b hv) ht, zB_s, hp.sl, hs.t, e3]
  cases zbt (sB S) t
  · rfl
  · rw [if_pos rfl, if_neg (by decide), if_neg (by omega)]
    by_cases b4 : (sT S).tmod (qT (aP A) 11 1) = 0
    · rw [if_pos b4]; simp [b4]
    · rw [if_neg b4]; simp [b4]
theorem r_mends {S : SK} (hv : VP (aP A)) (hz : VS c (aP A) S) (hs : R0 (qN (aP A)) S M) {t : Nat} (ht : t < 6) (a : Int) : ∃ M', Mo_mends N 0 t M = some M' ∧ zfr f81 M M' ∧ R0 (qN (aP A)) (mAct S 3 t a) M' := by
  unfold Mo_mends
  have e10 : z32 (10 + (t : Int)) = ((10 + t : Nat) : Int) := by rw [zs (by omega)]; omega
  rw [e10]
  clear e10
  simp only [zW_e, Int.toNat_natCast]
  rw [zI_t (by omega), hs.b, zsh_n t ht, zdif_n _ (hz.b hv) _ (p2_64 ht)]
  refine ⟨_, rfl, ((zfr.rf M).pI (by simp [f81])).pI (by simp [f81]), ?_⟩
  unfold mAct
  rw [if_neg (by decide), if_neg (by decide), if_neg (by decide)]
  exact R0.wm hs ht _
theorem m_idle42 (hv : VA c A) (hN : 2000 ≤ N) : ∀ (n k : Nat) (M : ZM) (found most : Int), RP (aP A) M → (∀ s, R0 (qN (aP A)) (sWO (aS A) s) (pI M 81 0 2 (zshu (qN (aP A)) s : Int))) → k ≤ mWh (aP A) (aS A) + 1 → mWh (aP A) (aS A) + 1 - k < n → ((k = 0 ∧ found = 0 ∧ most = -1000000) ∨ (1 ≤ k ∧ found = (mId (aP A) (aS A) k).2 ∧ most = (mId (aP A) (aS A) k).1 ∧ 0 ≤ found)) → ∃ M', Mo_idle_42 N n 0 (mWh (aP A) (aS A) : Nat) (zshu (qN (aP A)) (sO (aS A)) : Nat) found most k M = some (qIdle A, M') ∧ zfr fQ M M' ∧ R0 (qN (aP A)) (aS A) M' := by
  intro n
  induction n with
  | zero => intros; omega
  | succ n ih =>
    intro k M found most hp hs1 hk hn hcase
    have h6 := hv.p.n
    have w64 : mWh (aP A) (aS A) < 64 := pow64 h6 mWh_lt
    unfold Mo_idle_42
    by_cases b : k = mWh (aP A) (aS A) + 1
    · rw [if_pos (by omega)]
      simp only [zW_e]
      rcases hcase with ⟨h1, _⟩ | ⟨_, h2, _, _⟩
      · omega
      · refine ⟨_, ?_, (zfr.rf M).pI (by simp [fQ]), hs1 (sO (aS A))⟩
        rw [h2, b]; rfl
    · rw [if_neg (by omega), zdif_n k (by omega) _ w64]
      simp only [zW_e]
      rw [zsucc (by omega)]
      by_cases b2 : zdif k (mWh (aP A) (aS A)) = 0
      · rw [if_pos (by omega), zdif_n _ (zshu_lt h6) _ w64, zor_n _ (Nat.lt_of_le_of_lt zdif_lt (zshu_lt h6)) k (by omega), zshu_i h6 hv.s.1 mWh_lt (by omega) b2]
        have s1 : R0 (qN (aP A)) (mIs (aP A) (aS A) k) (pI M 81 0 2 (zshu (qN (aP A)) (zdif (sO (aS A)) (mWh (aP A) (aS A)) ||| zdif (mWh (aP A) (aS A)) k) : Int)) := hs1 _
        have f1 : zfr f81 M (pI M 81 0 2 (zshu (qN (aP A)) (zdif (sO (aS A)) (mWh (aP A) (aS A)) ||| zdif (mWh (aP A) (aS A)) k) : Int)) := (zfr.rf M).pI (by simp [f81])
        obtain ⟨M2, e2, f2, _⟩ := r_soldNow (N := N) hv.p (mIs_v (k := k) hv.s) hN (hp.fr f1 f81_p) s1
        rw [e2, zB_s]
        have f3 : zfr fQ M M2 := ((f1.mo f81_fp).mo fp_Q).tr (f2.mo fr_Q)
        have s2 := s1.fr f2 (fun k _ _ => fr_s (by omega) k)
        have hs2 : ∀ s, R0 (qN (aP A)) (sWO (aS A) s) (pI M2 81 0 2 (zshu (qN (aP A)) s : Int)) := fun s => R0.wo s2 s
        have hp2 := (hp.fr f1 f81_p).fr f2 fr_p
        have hb := mSold_b hv.p (mIs_v (k := k) hv.s)
        have hm : mId (aP A) (aS A) (k + 1) = if zdif k (mWh (aP A) (aS A)) = 0 ∧ ((mId (aP A) (aS A) k).2 = -1 ∨ (mId (aP A) (aS A) k).1 < mSold (aP A) (mIs (aP A) (aS A) k)) then (mSold (aP A) (mIs (aP A) (aS A) k), (k : Int)) else mId (aP A) (aS A) k := rfl
        by_cases b4 : most < mSold (aP A) (mIs (aP A) (aS A) k)
        · rw [if_pos b4]
          have hm2 : mId (aP A) (aS A) (k + 1) = (mSold (aP A) (mIs (aP A) (aS A) k), (k : Int)) := by
            rw [hm, if_pos]
            refine ⟨b2, ?_⟩
            rcases hcase with ⟨h1, _⟩ | ⟨_, _, h3, _⟩
            · left; rw [h1]; rfl
            · right; omega
          obtain ⟨M', e3, f4, s4⟩ := ih (k + 1) M2 (k : Int) (mSold (aP A) (mIs (aP A) (aS A) k)) hp2 hs2 (by omega) (by omega) (.inr ⟨by omega, by rw [hm2], by rw [hm2], by omega⟩)
          exact ⟨M', e3, f3.tr f4, s4⟩
        · rw [if_neg b4]
          rcases hcase with ⟨_, _, h3⟩ | ⟨h1, h2, h3, h4⟩
          · omega
          · have hm2 : mId (aP A) (aS A) (k + 1) = mId (aP A) (aS A) k := by
              rw [hm, if_neg]
              intro h
              rcases h.2 with h | h <;> omega
            obtain ⟨M', e3, f4, s4⟩ := ih (k + 1) M2 found most hp2 hs2 (by omega) (by omega) (.inr ⟨by omega, by rw [hm2, h2], by rw [hm2, h3], h4⟩)
            exact ⟨M', e3, f3.tr f4, s4⟩
      · rw [if_neg (by omega)]
        have hm2 : mId (aP A) (aS A) (k + 1) = mId (aP A) (aS A) k := by
          rw [mId, if_neg (fun h => b2 h.1)]
        rcases hcase with ⟨h1, _, _⟩ | ⟨h1, h2, h3, h4⟩
        · subst h1
          exact absurd (Nat.le_zero.1 zdif_lt) b2
        · exact ih (k + 1) M found most hp hs1 (by omega) (by omega) (.inr ⟨by omega, by rw [hm2, h2], by rw [hm2, h3], h4⟩)
theorem m_idle (h : RA A M) (hv : VA c A) (hN : 2000 ≤ N) : ∃ M', Mo_idle N 0 M = some (qIdle A, M') ∧ RA A M' ∧ zRl M M' := by
  have h0 := h.z 0
  have h6 := hv.p.n
  have w64 : mWh (aP A) (aS A) < 64 := pow64 h6 mWh_lt
  unfold Mo_idle
  simp only [zW_e]
  rw [h0.p.n, evn _ h6, h0.s.b, zdif_n _ (pow64 h6 p2s) _ (hv.s.b hv.p), h0.s.o]
  obtain ⟨M1, e1, f1, s1⟩ := m_idle42 (N := N) hv hN N 0 _ 0 (-1000000) h0.p (fun s => R0.wo h0.s s) (by omega) (by omega) (.inl ⟨rfl, rfl, rfl⟩)
  have e1' : Mo_idle_42 N N 0 ((zdif (2 ^ qN (aP A) - 1) (sB (aS A)) : Nat) : Int) ((zshu (qN (aP A)) (sO (aS A)) : Nat) : Int) 0 (-1000000) 0 (pI M 11 0 0 0) = some (qIdle A, M1) := e1
  rw [e1']
  exact h.e2 f1 s1 rfl
theorem r_ch83 (hv : VA c A) (hN : 2000 ≤ N) {rec51 : Nat → Int → Int → Int → Int → Int → Int → ZM → Option (Int × ZM)} {t : Nat} (ht : t < qN (aP A)) {pw odds x4 x5 : Int} {f : Nat} (hf : f < 4) {bl : Int} (hb : 0 ≤ bl ∧ bl ≤ 30) {k : Nat} (hk : k < 8) (ho : 0 ≤ odds ∧ odds ≤ 10) (hx5 : 0 ≤ x5 ∧ x5 ≤ 100) (hp : RP (aP A) M) (hs : R0 (qN (aP A)) (aS A) M) (hfr : mI M 11 0 51 = f) : ∃ M', Mo_chance_83 N rec51 0 t pw odds x4 x5 k 0 bl M = rec51 0 t pw odds x4 (x5 + (if pw ≤ mPow (aP A) (aS A) f bl t then (if k % 2 = 0 then odds else 10 - odds) else 0)) ((k + 1 : Nat) : Int) M' ∧ zfr fr M M' := by
  unfold Mo_chance_83
  simp only [zW_e]
  have f1 : zfr fr M (pI M 11 0 50 bl) := (zfr.rf M).pI (by simp [fr])
  obtain ⟨M2, e2, f2⟩ := r_powerOf (N := N) hv.p (hp.fr f1 fr_p) (hs.fr f1 (fun k _ _ => fr_s (by omega) k)) hv.s hN (f := (f : Int)) (by rw [mI_pI_ne (by omega), hfr]) (by omega) mI_pI_eq hb ht
  rw [e2, zB_s, zsucc (by omega)]
  have f3 := f1.tr (f2.mo fw_r)
  have em : ((k : Int).tmod 2 = 0) ↔ k % 2 = 0 := by
    rw [Int.tmod_eq_emod_of_nonneg (by omega)]; omega
  by_cases b : mPow (aP A) (aS A) f bl t < pw
  · rw [if_pos b, if_neg (by omega), Int.add_zero]
    exact ⟨M2, rfl, f3⟩
  · rw [if_neg b, if_pos (show pw ≤ mPow (aP A) (aS A) f bl t by omega)]
    by_cases b2 : k % 2 = 0
    · rw [if_pos (em.2 b2), if_pos b2, zs (by omega)]
      exact ⟨M2, rfl, f3⟩
    · rw [if_neg (fun h => b2 (em.1 h)), if_neg b2, zs (x := 10 - odds) (by omega), zs (by omega)]
      exact ⟨M2, rfl, f3⟩
theorem m_ch51 (hv : VA c A) (hN : 2000 ≤ N) {t : Nat} (ht : t < qN (aP A)) {pw odds : Int} (ho : 0 ≤ odds ∧ odds ≤ 10) : ∀ (m f n : Nat) (M : ZM), RP (aP A) M → R0 (qN (aP A)) (aS A) M → m + f = 4 → 2 * m < n → ∃ M', Mo_chance_51 N n 0 t pw odds (mBl (aP A) (aS A)) (mCh A t pw odds f) ((2 * f : Nat) : Int) M = some (mCh A t pw odds 4 * 25000, M') ∧ zfr fr M M' := by
  intro m
  induction m with
  | zero =>
    intro f n M hp hs hf hn
    have hb := mCh_b (A := A) (t := t) (pw := pw) ho f
    cases n with
    | zero => omega
    | succ n =>
      have : f = 4 := by omega
      subst this
      unfold Mo_chance_51
      rw [if_neg (by omega), zs (by omega)]
      exact ⟨M, rfl, zfr.rf M⟩
  | succ m ih =>
    intro f n M hp hs hf hn
    have hb := mCh_b (A := A) (t := t) (pw := pw) ho f
    have hbl := hv.p.bl hv.s.t
    match n, hn with
    | 0, hn => omega
    | 1, hn => omega
    | n + 2, hn =>
      have hhb : (mBl (aP A) (aS A)).tdiv 2 = mBl (aP A) (aS A) / 2 := Int.tdiv_eq_ediv_of_nonneg hbl.1
      have hh : 0 ≤ (mBl (aP A) (aS A)).tdiv 2 ∧ (mBl (aP A) (aS A)).tdiv 2 ≤ 30 := by
        rw [hhb]
        unfold mBl at hhb ⊢
        omega
      clear hhb
      unfold Mo_chance_51
      rw [if_pos (by omega), ch_d1 (by omega)]
      simp only [zW_e]
      rw [if_pos ch_m1]
      have f1 : zfr fr M (pI M 11 0 51 (f : Int)) := (zfr.rf M).pI (by simp [fr])
      obtain ⟨M1, e1, g1⟩ := r_ch83 (N := N) hv hN (rec51 := Mo_chance_51 N (n + 1)) ht (pw := pw) (odds := odds) (x4 := mBl (aP A) (aS A)) (x5 := mCh A t pw odds f) (f := f) (by omega) (bl := mBl (aP A) (aS A)) hbl (k := 2 * f) (by omega) ho (by omega) (hp.fr f1 fr_p) (hs.fr f1 (fun k _ _ => fr_s (by omega) k)) mI_pI_eq
      rw [e1, if_pos (show 2 * f % 2 = 0 by omega)]
      have g2 := f1.tr g1
      have hp1 := hp.fr g2 fr_p
      have hs1 := hs.fr g2 (fun k _ _ => fr_s (by omega) k)
      generalize hy : (if pw ≤ mPow (aP A) (aS A) f (mBl (aP A) (aS A)) t then odds else 0) = y
      have hyb : 0 ≤ y ∧ y ≤ 10 := by subst hy; split <;> omega
      unfold Mo_chance_51
      rw [if_pos (by omega), ch_d2 (by omega)]
      simp only [zW_e]
      rw [if_neg ch_m2, zs (x := (mBl (aP A) (aS A)).tdiv 2) (by omega)]
      have f2 : zfr fr M1 (pI M1 11 0 51 (f : Int)) := (zfr.rf M1).pI (by simp [fr])
      obtain ⟨M2, e2, g3⟩ := r_ch83 (N := N) hv hN (rec51 := Mo_chance_51 N n) ht (pw := pw) (odds := odds) (x4 := mBl (aP A) (aS A)) (x5 := mCh A t pw odds f + y) (f := f) (by omega) (bl := (mBl (aP A) (aS A)).tdiv 2) hh (k := 2 * f + 1) (by omega) ho (by omega) (hp1.fr f2 fr_p) (hs1.fr f2 (fun k _ _ => fr_s (by omega) k)) mI_pI_eq
      rw [e2, if_neg (show ¬ (2 * f + 1) % 2 = 0 by omega)]
      have g4 := f2.tr g3
      have hmc : mCh A t pw odds (f + 1) = mCh A t pw odds f + y + (if pw ≤ mPow (aP A) (aS A) f ((mBl (aP A) (aS A)).tdiv 2) t then 10 - odds else 0) := by rw [mCh, hy]
      rw [← hmc, show 2 * f + 1 + 1 = 2 * (f + 1) by omega]
      obtain ⟨M3, e3, g5⟩ := ih (f + 1) n M2 (hp1.fr g4 fr_p) (hs1.fr g4 (fun k _ _ => fr_s (by omega) k)) (by omega) (by omega)
      exact ⟨M3, e3, (g2.tr g4).tr g5⟩
theorem m_chance (h : RA A M) (hv : VA c A) (hN : 2000 ≤ N) (x y z : Int) : ∃ M', Mo_chance N 0 x y z M = some (qChance A x y z, M') ∧ RA A M' ∧ zRl M M' := by
  have h0 := h.z 0
  unfold Mo_chance qChance
  simp only [zW_e]
  rw [r_isTurbine h0.p, zB_s]
  by_cases b : 0 ≤ x ∧ x < qN (aP A)
  · rw [if_pos b, if_neg (by decide), r_within, zB_s]
    by_cases b1 : 1 ≤ y ∧ y ≤ 99
    · rw [if_pos b1, if_neg (by decide), r_within, zB_s]
      by_cases b2 : 0 ≤ z ∧ z ≤ 10
      · rw [if_pos b2, if_neg (by decide), if_pos ⟨b, b1, b2⟩]
        obtain ⟨M1, e1, f1, g1, g2⟩ := r_looks (N := N) hv.p h0.p h0.s hv.s.t
        have h1 := (h0.qr f1).1
        rw [e1, zBv_s, g1]
        obtain ⟨k, rfl⟩ : ∃ k : Nat, x = k := ⟨x.toNat, by omega⟩
        obtain ⟨M2, e2, f2⟩ := m_ch51 (N := N) hv hN (t := k) (pw := y) (odds := z) (by omega) b2 4 0 N M1 h1.p h1.s (by omega) (by omega)
        rw [show ((2 * 0 : Nat) : Int) = 0 from rfl, show mCh A k y z 0 = 0 from rfl] at e2
        rw [e2, Int.toNat_natCast]
        exact h.e1 (f1.tr f2) rfl
      · rw [if_neg b2, if_pos rfl, if_neg (fun h => b2 h.2.2)]
        exact h.e0 rfl
    · rw [if_neg b1, if_pos rfl, if_neg (fun h => b1 h.2.1)]
      exact h.e0 rfl
  · rw [if_neg b, if_pos rfl, if_neg (fun h => b h.1)]
    exact h.e0 rfl
theorem m_count (h : RA A M) (hv : VA c A) (hN : 2000 ≤ N) (x : Int) : ∃ M', Mo_count N 0 x M = some (qCount A x, M') ∧ RA A M' ∧ zRl M M' := by
  have h0 := h.z 0
  have h6 := hv.p.n
  unfold Mo_count
  simp only [zW_e]
  rw [r_within, zB_s]
  by_cases b : 0 ≤ x ∧ x ≤ 12
  · rw [if_pos b, if_neg (by decide)]
    obtain ⟨M1, e1, f1, _⟩ := r_powersNow (N := N) hv.p hv.s hN h0.p h0.s
    rw [h0.p.n, h0.s.t, r_rowOf (j := 0) hv.p h0.p h0.s (by omega) (by decide) (by decide) hv.s.t, r_rowOf (j := 1) hv.p h0.p h0.s (by omega) (by decide) (by decide) hv.s.t, r_priceNow hv.p h0.p h0.s hv.s.t, e1, h0.s.s, evn _ h6, h0.s.o, zdif_n _ (pow64 h6 p2s) _ (zshu_lt h6), zshu_c h6 hv.s.1, h0.s.b, h0.2.2.2.1.1, h0.2.2.2.2.1.1, h0.2.2.2.2.2.2.1.1, h0.2.2.2.2.2.2.2.1]
    simp only [zB_s]
    have c13 : x = 0 ∨ x = 1 ∨ x = 2 ∨ x = 3 ∨ x = 4 ∨ x = 5 ∨ x = 6 ∨ x = 7 ∨ x = 8 ∨ x = 9 ∨ x = 10 ∨ x = 11 ∨ x = 12 := by omega
    rcases c13 with rfl | rfl | rfl | rfl | rfl | rfl | rfl | rfl | rfl | rfl | rfl | rfl | rfl
    · exact h.e0 rfl
    · exact h.e0 rfl
    · exact h.e0 rfl
    · exact h.e0 rfl
    · exact h.e0 rfl
    · exact h.e1 f1 rfl
    · exact h.e0 rfl
    · exact h.e0 rfl
    · exact h.e0 rfl
    · exact h.e0 rfl
    · exact h.e0 rfl
    · exact h.e0 rfl
    · exact h.e0 rfl
  · rw [if_neg b, if_pos rfl]
    refine h.e0 ?_
    unfold qCount
    rw [if_neg (by omega), if_neg (by omega), if_neg (by omega), if_neg (by omega), if_neg (by omega), if_neg (by omega), if_neg (by omega), if_neg (by omega), if_neg (by omega), if_neg (by omega), if_neg (by omega), if_neg (by omega), if_neg (by omega)]
end RQ3
