theorem mL_pL_eq {M : ZM} {t i k : Nat} {x : Int} : mL (pL M t i k x) t i k = x := if_pos ⟨rfl, rfl, rfl⟩
/-- as zfr fQ, but the seed may change -/
def zfg (M M' : ZM) : Prop := mK M' = mK M ∧ mR M' = mR M ∧ (∀ t i k, fQ t i k = false → mI M' t i k = mI M t i k) ∧ (∀ t i k, t ≠ 11 → mL M' t i k = mL M t i k)
theorem zfg.tr {M M1 M2 : ZM} (h : zfg M M1) (h' : zfg M1 M2) : zfg M M2 := ⟨h'.1.trans h.1, h'.2.1.trans h.2.1, fun t i k e => (h'.2.2.1 t i k e).trans (h.2.2.1 t i k e), fun t i k e => (h'.2.2.2 t i k e).trans (h.2.2.2 t i k e)⟩
theorem zfr.fg {M M' : ZM} (h : zfr fQ M M') : zfg M M' := ⟨mK_2 h.1, mR_2 h.1, h.2, fun t i k _ => mL_2 h.1 t i k⟩
theorem zfg.pL {M : ZM} (x : Int) : zfg M (pL M 11 0 59 x) := ⟨rfl, rfl, fun _ _ _ _ => rfl, fun t i k h => by
  show (if t = 11 ∧ i = 0 ∧ k = 59 then x else mL M t i k) = mL M t i k
  rw [if_neg (fun e => h e.1)]⟩
section RQ5
variable {N c : Nat} {A : AK} {M M' : ZM}
theorem RA.qg (h : RA A M) (f : zfg M M') (s : R0 (qN (aP A)) (aS A) M') : RA A M' ∧ zRl M M' := by
  obtain ⟨h1, h2, h3, h4, h5, h6, h7, h8⟩ := h
  have q : ∀ t i k, fQ t i k = false → mI M' t i k = mI M t i k := f.2.2.1
  refine ⟨⟨h1.k f.1, h2.gg (fun t k ht => q _ _ _ (by simp [fQ]; omega)) (fun k => f.2.2.2 _ _ _ (by decide)), s, ⟨(q _ _ _ (by simp [fQ])).trans h4.1, h4.2.g (fun t k ht _ _ => q _ _ _ (by simp [fQ]; omega))⟩, ⟨(q _ _ _ (by simp [fQ])).trans h5.1, h5.2.g (fun t k ht _ _ => q _ _ _ (by simp [fQ]; omega))⟩, fun m hm => (h6 m hm).g (fun t k ht _ _ _ _ _ => q _ _ _ (by simp [fQ]; omega)), h7.g (q _ _ _ (by simp [fQ])) (fun k => q _ _ _ (by simp [fQ])), h8.g (fun t k ht => q _ _ _ (by simp [fQ]; omega))⟩, f.1, f.2.1, fun t i k e => q t i k (fQ_rk t i k e), fun t i k e => f.2.2.2 t i k (fun e' => by rw [e'] at e; cases e)⟩
/-- a draw -/
theorem r_draws {g m : Int} (hg : mL M 11 0 59 = g) (hm : m ≠ 0) : ∃ M', Mo_draws N 0 m M = some (mBel (mDrw g) m, M') ∧ zfg M M' ∧ mL M' 11 0 59 = mDrw g ∧ (∀ t i k, mI M' t i k = mI M t i k) := by
  unfold Mo_draws
  simp only [zW_e]
  rw [if_neg hm, hg, mL_pL_eq]
  exact ⟨_, rfl, zfg.pL _, mL_pL_eq, fun _ _ _ => rfl⟩
theorem rE_i {t : Nat} {S : SK} (h : rE t A S M) (e : ∀ t i k, mI M' t i k = mI M t i k) (f : zfg M M') : rE t A S M' := ⟨h.1.k f.1, h.2.1.gg (fun t k _ => e _ _ _) (fun k => f.2.2.2 _ _ _ (by decide)), h.2.2.1.g (fun k _ _ => e _ _ _), h.2.2.2.g (fun k _ _ => e _ _ _)⟩
theorem mStep_s {P : PK} {S : SK} : sS (mStep P S) = z32 (sS S + mSold P S) := rfl
theorem r_life {S : SK} (hv : VP (aP A)) (hc : c < 1000) (hN : 2000 ≤ N) {g : Int} (hz : VS c (aP A) S) (hg : 0 ≤ g ∧ g < 2147483648) (h : rE 82 A S M) (hL : mL M 11 0 59 = g) : ∃ M', Mo_livesStep N 0 M = some M' ∧ zfg M M' ∧ rE 82 A (mDy (aP A) (S, g)).1 M' ∧ mL M' 11 0 59 = (mDy (aP A) (S, g)).2 := by
  have h6 := hv.n
  have hb : VS c (aP A) (mDb (aP A) (S, g)) := mDb_v hv hz hg
  -- the step itself
  have k98 : ∀ (M1 : ZM), zfg M M1 → rE 82 A (mDb (aP A) (S, g)) M1 → mL M1 11 0 59 = (mDy (aP A) (S, g)).2 → ∃ M', Mo_livesStep_98 N 0 M1 = some M' ∧ zfg M M' ∧ rE 82 A (mDy (aP A) (S, g)).1 M' ∧ mL M' 11 0 59 = (mDy (aP A) (S, g)).2 := by
    intro M1 f1 h1 hL1
    unfold Mo_livesStep_98
    obtain ⟨M2, e2, f2, s2⟩ := r_passes (N := N) hv hb (by omega) hN h1.2.1 h1.2.2.1
    rw [e2, zB_s]
    refine ⟨M2, rfl, f1.tr (f2.mo fp_Q).fg, ?_, ?_⟩
    · rw [mDy_b]; exact rE_p (.inl rfl) h1 f2 s2
    · rw [mL_2 f2.1, hL1]
  unfold Mo_livesStep
  rw [h.2.1.n]
  by_cases b0 : 0 < qN (aP A)
  · rw [if_pos (by omega)]
    have b1 := mDrw_b hg
    have b2 := mDrw_b b1
    have b3 := mDrw_b b2
    have c1 := mBel_b (m := qN (aP A)) b1 (by omega)
    have c2 := mBel_b (m := 6) b2 (by omega)
    have c3 := mBel_b (m := 5) b3 (by omega)
    obtain ⟨M1, e1, f1, l1, r1⟩ := r_draws (N := N) hL (m := (qN (aP A) : Int)) (by omega)
    rw [e1, zB_s]
    obtain ⟨M2, e2, f2, l2, r2⟩ := r_draws (N := N) l1 (m := 6) (by omega)
    rw [e2, zB_s]
    have f12 := f1.tr f2
    have h2 := rE_i (rE_i h r1 f1) r2 f2
    have ht : (mBel (mDrw g) (qN (aP A))).toNat < qN (aP A) := by omega
    have ex : mBel (mDrw g) (qN (aP A)) = ((mBel (mDrw g) (qN (aP A))).toNat : Int) := by omega
    generalize hT : (mBel (mDrw g) (qN (aP A))).toNat = t at *
    rw [ex]
    have hp2 := p2_64 (t := t) (by omega)
    have k80 : ∀ (d : Int) (M3 : ZM), d = mBel (mDrw (mDrw g)) 6 → d ≠ 0 → zfg M M3 → (d ≤ 2 → rE 82 A (mDb (aP A) (S, g)) M3) → (¬ d ≤ 2 → rE 82 A S M3) → mL M3 11 0 59 = (mDy (aP A) (S, g)).2 → ∃ M', Mo_livesStep_80 N 0 t d M3 = some M' ∧ zfg M M' ∧ rE 82 A (mDy (aP A) (S, g)).1 M' ∧ mL M' 11 0 59 = (mDy (aP A) (S, g)).2 := by
      intro d M3 hd hd0 f3 h3 h3' l3
      have hdb : mDb (aP A) (S, g) = mDo (aP A) S d t 2 := by
        rw [mDb, if_pos b0, if_neg (by rw [← hd]; exact hd0), ← hd, hT]
      unfold Mo_livesStep_80
      by_cases d3 : d = 3
      · have h4 := h3' (by omega)
        rw [if_pos d3, r_canMend hv hz h4.2.1 h4.2.2.1 (by omega), zB_s]
        cases hcan : mCan (aP A) S 3 t
        · have e5 : (if (false : Bool) = true then (1 : Int) else 0) = 0 := rfl
          rw [e5, if_pos (show (0 : Int) = 0 from rfl)]
          refine k98 M3 f3 ?_ l3
          rw [hdb, mDo, d3, if_neg (by rw [hcan]; simp)]; exact h4
        · have e5 : (if (true : Bool) = true then (1 : Int) else 0) = 1 := rfl
          obtain ⟨M4, e4, f4, s4⟩ := r_mends (N := N) hv hz h4.2.2.1 (t := t) (by omega) 2
          rw [e5, if_neg (show ¬ (1 : Int) = 0 by decide), e4, zBv_s]
          refine k98 M4 (f3.tr ((f4.mo f81_fp).mo fp_Q).fg) ?_ (by rw [mL_2 f4.1, l3])
          rw [hdb, mDo, d3, if_pos ⟨by decide, hcan⟩]
          exact rE_p (.inl rfl) h4 (f4.mo f81_fp) s4
      · rw [if_neg d3]
        refine k98 M3 f3 ?_ l3
        by_cases d2 : d ≤ 2
        · exact h3 d2
        · have h4 := h3' d2
          rw [hdb, mDo, if_neg (by omega)]; exact h4
    have k44 : ∀ (d : Int) (M3 : ZM), d = mBel (mDrw (mDrw g)) 6 → d ≠ 0 → zfg M M3 → rE 82 A S M3 → mL M3 11 0 59 = (mDy (aP A) (S, g)).2 → ∃ M', Mo_livesStep_44 N 0 t d M3 = some M' ∧ zfg M M' ∧ rE 82 A (mDy (aP A) (S, g)).1 M' ∧ mL M' 11 0 59 = (mDy (aP A) (S, g)).2 := by
      intro d M3 hd hd0 f3 h3 l3
      have hdb : mDb (aP A) (S, g) = mDo (aP A) S d t 2 := by
        rw [mDb, if_pos b0, if_neg (by rw [← hd]; exact hd0), ← hd, hT]
      have h3s := h3.2.2.1
      unfold Mo_livesStep_44 Mo_livesStep_61
      simp only [zW_e]
      rw [h3s.o, zsh_n t (by omega), zor_n _ (zshu_lt h6) _ hp2, zdif_n _ (zshu_lt h6) _ hp2, zshu_s h6 hz.1 ht, zshu_o h6 ht]
      by_cases d1 : d = 1
      · rw [if_pos d1, if_neg (by omega)]
        have fw1 : zfr fp M3 (pI M3 81 0 2 (zshu (qN (aP A)) (zdif (sO S) (2 ^ t)) : Int)) := (zfr.rf M3).pI (by simp [fp])
        refine k80 d _ hd hd0 (f3.tr (fw1.mo fp_Q).fg) (fun _ => ?_) (fun h => by omega) l3
        rw [hdb, mDo, d1]
        have hcan : mCan (aP A) S 1 t = zbt (sO S) t := rfl
        rw [hcan]
        have hw := R0.wo h3s (zdif (sO S) (2 ^ t))
        by_cases hb : zbt (sO S) t = true
        · rw [if_pos ⟨by decide, hb⟩, mAct, if_neg (by decide), if_pos rfl]
          exact rE_p (.inl rfl) h3 fw1 hw
        · rw [if_neg (fun h => hb h.2)]
          have es : zdif (sO S) (2 ^ t) = sO S := by
            refine ext64 (Nat.lt_of_le_of_lt zdif_lt (hz.o hv)) (hz.o hv) fun u hu => ?_
            rw [zdif_t _ (hz.o hv) _ hp2 u hu, zbt_p2]
            by_cases e : t = u
            · subst e; simp [hb]
            · simp [e]
          rw [es] at hw fw1 ⊢
          exact rE_p (.inl rfl) h3 fw1 hw
      · rw [if_neg d1]
        by_cases d2 : d = 2
        · rw [if_pos d2]
          have fw1 : zfr fp M3 (pI M3 81 0 2 (zshu (qN (aP A)) (sO S ||| 2 ^ t) : Int)) := (zfr.rf M3).pI (by simp [fp])
          refine k80 d _ hd hd0 (f3.tr (fw1.mo fp_Q).fg) (fun _ => ?_) (fun h => by omega) l3
          rw [hdb, mDo, d2]
          have hcan : mCan (aP A) S 2 t = !zbt (sO S) t := rfl
          rw [hcan]
          have hw := R0.wo h3s (sO S ||| 2 ^ t)
          by_cases hb : zbt (sO S) t = true
          · rw [if_neg (by rw [hb]; simp)]
            have es : sO S ||| 2 ^ t = sO S := by
              refine ext64 (Nat.or_lt_two_pow (n := 6) (hz.o hv) hp2) (hz.o hv) fun u hu => ?_
              rw [zbt_or, zbt_p2]
              by_cases e : t = u
              · subst e; simp [hb]
              · simp [e]
            rw [es] at hw fw1 ⊢
            exact rE_p (.inl rfl) h3 fw1 hw
          · rw [if_pos ⟨by decide, by simp [hb]⟩, mAct, if_neg (by decide), if_neg (by decide), if_pos rfl]
            exact rE_p (.inl rfl) h3 fw1 hw
        · rw [if_neg d2]
          exact k80 d M3 hd hd0 f3 (fun h => by omega) (fun _ => h3) l3
    by_cases bd : mBel (mDrw (mDrw g)) 6 = 0
    · rw [if_pos bd]
      obtain ⟨M3, e3, f3, l3, r3⟩ := r_draws (N := N) l2 (m := 5) (by omega)
      rw [e3, zB_s]
      have h3 := rE_i h2 r3 f3
      have e4 : z32 (4 + (t : Int)) = ((4 + t : Nat) : Int) := by rw [zs (by omega)]; omega
      rw [e4]
      clear e4
      simp only [zW_e, Int.toNat_natCast]
      rw [zI_t (by omega), bd]
      unfold Mo_livesStep_44 Mo_livesStep_61 Mo_livesStep_80
      rw [if_neg (by decide), if_neg (by decide), if_neg (by decide)]
      have fw1 : zfr fp M3 (pI M3 81 0 (4 + t) (mBel (mDrw (mDrw (mDrw g))) 5)) := (zfr.rf M3).pI (by simp [fp])
      have hw := R0.wa h3.2.2.1 (t := t) (by omega) (mBel (mDrw (mDrw (mDrw g))) 5)
      refine k98 _ ((f12.tr f3).tr (fw1.mo fp_Q).fg) ?_ ?_
      · rw [mDb, if_pos b0, if_pos bd, hT, mDo, if_pos ⟨by decide, rfl⟩, mAct, if_pos rfl]
        exact rE_p (.inl rfl) h3 fw1 hw
      · rw [mDy, if_pos b0, if_pos bd]; exact l3
    · rw [if_neg bd]
      exact k44 _ M2 rfl bd f12 h2 (by rw [mDy, if_pos b0, if_neg bd]; exact l2)
  · rw [if_neg (by omega)]
    exact k98 M ⟨rfl, rfl, fun _ _ _ _ => rfl, fun _ _ _ _ => rfl⟩ (by rw [mDb, if_neg b0]; exact h) (by rw [mDy, if_neg b0]; exact hL)
/-- what was sold by days, as the reference counts it -/
theorem mDs_s {P : PK} (hv : VP P) {S : SK} {g : Int} {c : Nat} (hz : VS c P S) (hg : 0 ≤ g ∧ g < 2147483648) : ∀ n, n ≤ 99 → z32 (sS (mDn P S g n).1 - sS S) = mDs P S g n
  | 0, _ => by
    show z32 (sS S - sS S) = 0
    rw [Int.sub_self]; rfl
  | n + 1, hn => by
    have ih := mDs_s hv hz hg n (by omega)
    have h1 : (mDn P S g (n + 1)).1 = mStep P (mDb P (mDn P S g n)) := by
      show (mDy P (mDn P S g n)).1 = _
      rw [mDy_b]
    have h2 : sS (mDb P (mDn P S g n)) = sS (mDn P S g n).1 := by
      unfold mDb mDo mAct
      repeat' split
      all_goals rfl
    rw [h1, mStep_s, z32_sub, h2]
    have e : sS (mDn P S g n).1 + mSold P (mDb P (mDn P S g n)) - sS S = (sS (mDn P S g n).1 - sS S) + mSold P (mDb P (mDn P S g n)) := by omega
    rw [e, ← z32_add, ih]
    have a1 := zsum_ge (f := fun j => mSold P (mDb P (mDn P S g j))) (n := n) (a := -12000) (fun j _ => (mSold_b hv (mDb_v hv (mDn_v hv hz hg j).1 (mDn_v hv hz hg j).2)).1)
    have a2 := zsum_le (f := fun j => mSold P (mDb P (mDn P S g j))) (n := n) (a := 12000) (fun j _ => (mSold_b hv (mDb_v hv (mDn_v hv hz hg j).1 (mDn_v hv hz hg j).2)).2)
    have a3 := mSold_b hv (mDb_v hv (mDn_v hv hz hg n).1 (mDn_v hv hz hg n).2)
    unfold mDs
    rw [zs (by omega)]
    rfl
theorem m_days61 (hv : VA c A) (hc : c < 500) (hN : 2000 ≤ N) {m : Nat} (hm : m ≤ 99) {z g : Int} (hg : 0 ≤ g ∧ g < 2147483648) : ∀ (n k : Nat) (M : ZM), rE 82 A (mDn (aP A) (aS A) g k).1 M → mL M 11 0 59 = (mDn (aP A) (aS A) g k).2 → k ≤ m → m - k < n → ∃ M', Mo_days_61 N n 0 m z k M = some (if z = 0 then mDs (aP A) (aS A) g m else if z = 1 then (sB (mDn (aP A) (aS A) g m).1 : Int) else mHome (aP A) (mDn (aP A) (aS A) g m).1, M') ∧ zfg M M' ∧ R0 (qN (aP A)) (aS A) M' := by
  intro n
  induction n with
  | zero => intros; omega
  | succ n ih =>
    intro k M h hL hk hn
    obtain ⟨hz, hg2⟩ := mDn_v hv.p hv.s hg k
    unfold Mo_days_61
    by_cases b : k = m
    · subst b
      rw [if_neg (by omega)]
      simp only [zW_e]
      have h82 : mI M 82 0 1 = sS (aS A) := h.2.2.2.2.2.1
      obtain ⟨M1, e1, f1, _⟩ := r_homeNow (N := N) hv.p hz hN h.2.1 h.2.2.1
      have h1 := rE_r (.inl rfl) h f1
      obtain ⟨M2, e2, f2, s2⟩ := r_back (N := N) (.inl rfl) hN h1.1 h1.2.2.2
      rw [h.2.2.1.s, h82, mDs_s hv.p hv.s hg k (by omega), h.2.2.1.b, e1, zB_s, e2, zBv_s]
      have ff := ((f1.mo fr_Q).tr f2).fg
      by_cases b0 : z = 0
      · rw [if_pos b0, if_pos b0]; exact ⟨M2, rfl, ff, s2⟩
      · rw [if_neg b0, if_neg b0]
        by_cases b1 : z = 1
        · rw [if_pos b1, if_pos b1]; exact ⟨M2, rfl, ff, s2⟩
        · rw [if_neg b1, if_neg b1]; exact ⟨M2, rfl, ff, s2⟩
    · rw [if_pos (by omega)]
      obtain ⟨M1, e1, f1, h1, l1⟩ := r_life (N := N) (A := A) hv.p (c := c + k) (by omega) hN hz hg2 h hL
      rw [e1, zBv_s]
      simp only [zW_e]
      rw [zsucc (by omega)]
      obtain ⟨M', e2, f2, s2⟩ := ih (k + 1) M1 h1 l1 (by omega) (by omega)
      exact ⟨M', e2, f1.tr f2, s2⟩
theorem m_days (h : RA A M) (hv : VA c A) (hc : c < 500) (hN : 2000 ≤ N) (x y z : Int) : ∃ M', Mo_days N 0 x y z M = some (qDays A x y z, M') ∧ RA A M' ∧ zRl M M' := by
  have h0 := h.z 0
  unfold Mo_days qDays
  simp only [zW_e]
  rw [r_within, zB_s]
  by_cases b1 : 0 ≤ x ∧ x ≤ 9999
  · rw [if_pos b1, if_neg (by decide), r_within, zB_s]
    by_cases b2 : 1 ≤ y ∧ y ≤ 99
    · rw [if_pos b2, if_neg (by decide), r_within, zB_s]
      by_cases b3 : 0 ≤ z ∧ z ≤ 2
      · rw [if_pos b3, if_neg (by decide), if_pos ⟨b1, b2, b3⟩]
        obtain ⟨k, rfl⟩ : ∃ k : Nat, y = k := ⟨y.toNat, by omega⟩
        have fl : zfg (pI M 11 0 0 0) (pL (pI M 11 0 0 0) 11 0 59 x) := zfg.pL x
        have hl := (h0.qg fl (h0.s.g (fun _ _ _ => rfl))).1
        obtain ⟨M1, e1, f1, s1, s2⟩ := r_aside (N := N) hl (.inl rfl) hN
        rw [e1, zBv_s, Int.toNat_natCast]
        obtain ⟨M2, e2, f2, s3⟩ := m_days61 (N := N) hv hc hN (m := k) (z := z) (g := x) (by omega) (by omega) N 0 M1 ⟨hl.k.e f1.1, hl.p.fr f1 fQ_p, s2, s1⟩ (by
          rw [mL_2 f1.1, mL_pL_eq]; rfl) (by omega) (by omega)
        rw [show ((0 : Nat) : Int) = 0 from rfl] at e2
        rw [e2]
        obtain ⟨a, b⟩ := h0.qg ((fl.tr f1.fg).tr f2) s3
        exact ⟨M2, rfl, a, (zRl.z 0).tr b⟩
      · rw [if_neg b3, if_pos rfl, if_neg (fun h => b3 h.2.2)]
        exact h.e0 rfl
    · rw [if_neg b2, if_pos rfl, if_neg (fun h => b2 h.2.1)]
      exact h.e0 rfl
  · rw [if_neg b1, if_pos rfl, if_neg (fun h => b1 h.1)]
    exact h.e0 rfl
end RQ5
