section CPK2
variable {N n b p T : Nat} {x : Nat → Int} {P : PK} {M M' : ZM}
theorem pTak_t {c : Int} : ∀ m, pTak P c m = true ↔ ∃ k, k < m ∧ qT P 3 k = c
  | 0 => by simp [pTak]
  | m + 1 => by
    rw [pTak, Bool.or_eq_true, pTak_t m, decide_eq_true_eq]
    constructor
    · rintro (⟨k, h1, h2⟩ | h)
      · exact ⟨k, by omega, h2⟩
      · exact ⟨m, by omega, h⟩
    · rintro ⟨k, h1, h2⟩
      by_cases e : k = m
      · subst e; exact .inr h2
      · exact .inl ⟨k, by omega, h2⟩
theorem c_taken {c : Int} (hv : VP P) (h : CP p P M) : ∀ (f i g : Nat), i + f = qN P → f < g → (∀ k, k < i → qT P 3 k ≠ c) → Pa_isTaken_2 N g p c (i : Int) M = some (if pTak P c (qN P) then 1 else 0, M) := by
  intro f
  induction f with
  | zero =>
    intro i g hi hg hc
    obtain ⟨g, rfl⟩ : ∃ g', g = g' + 1 := ⟨g - 1, by omega⟩
    have : ¬ pTak P c (qN P) = true := fun q => by
      obtain ⟨k, h1, h2⟩ := (pTak_t _).1 q
      exact hc k (by omega) h2
    rw [Pa_isTaken_2, h.n, if_neg (by omega), if_neg this]
  | succ f ih =>
    intro i g hi hg hc
    have h6 := hv.n
    obtain ⟨g, rfl⟩ : ∃ g', g = g' + 1 := ⟨g - 1, by omega⟩
    rw [Pa_isTaken_2, h.n, if_pos (by omega), zI_t (by omega), Int.toNat_natCast, h.c (by omega)]
    by_cases e : qT P 3 i = c
    · have : pTak P c (qN P) = true := (pTak_t _).2 ⟨i, by omega, e⟩
      rw [if_pos e, if_pos this]
    · rw [if_neg e, zsucc (by omega), zW_e]
      exact ih (i + 1) g (by omega) (by omega) (fun k hk => by
        by_cases ek : k = i
        · subst ek; exact e
        · exact hc k (by omega))
theorem c_kindOf : Re_kindOf N (tWd x n b) M = some (oKi x n b, M) := by
  unfold Re_kindOf oKi
  repeat' split
  all_goals rfl
theorem c_addT {nm k o c a' : Int} (hJ : CJ p P T M) (h6 : qN P < 6) : ∃ M', Pa_addTurbine N p nm k o c M = some M' ∧ CJ p (pTur P k o c nm a') T M' ∧ zcF (fPk p) M M' ∧ (∀ t i k, t = 8 ∨ t = 42 ∨ t = 5 → mI M' t i k = mI M t i k) ∧ (∀ k, mL M' 8 0 k = mL M 8 0 k) ∧ mR M' = mR M ∧ mK M' = mK M := by
  have hP := hJ.1
  have hn := hP.n
  have i6 : (0 : Int) ≤ (qN P : Int) ∧ (qN P : Int) < 6 := by omega
  unfold Pa_addTurbine
  rw [hn, if_pos i6.2, zI_t i6, Int.toNat_natCast, zW_e]
  generalize hM1 : pL M 27 p (qN P) nm = M1
  have n1 : mI M1 4 p 0 = (qN P : Int) := by rw [← hM1]; exact hn
  rw [n1, zI_t i6, Int.toNat_natCast, zW_e]
  generalize hM2 : pI M1 28 p (qN P) k = M2
  have n2 : mI M2 4 p 0 = (qN P : Int) := by rw [← hM2, mI_pI_ne (by omega)]; exact n1
  rw [n2, zI_t i6, Int.toNat_natCast, zW_e]
  generalize hM3 : pI M2 29 p (qN P) o = M3
  have n3 : mI M3 4 p 0 = (qN P : Int) := by rw [← hM3, mI_pI_ne (by omega)]; exact n2
  rw [n3, zI_t i6, Int.toNat_natCast, zW_e]
  generalize hM4 : pI M3 30 p (qN P) c = M4
  have n4 : mI M4 4 p 0 = (qN P : Int) := by rw [← hM4, mI_pI_ne (by omega)]; exact n3
  rw [n4, zI_t i6, Int.toNat_natCast, zW_e]
  generalize hM5 : pI M4 31 p (qN P) (-1) = M5
  have n5 : mI M5 4 p 0 = (qN P : Int) := by rw [← hM5, mI_pI_ne (by omega)]; exact n4
  rw [n5, zI_t i6, Int.toNat_natCast, zW_e]
  generalize hM6 : pI M5 32 p (qN P) 0 = M6
  have n6 : mI M6 4 p 0 = (qN P : Int) := by rw [← hM6, mI_pI_ne (by omega)]; exact n5
  rw [n6, zsucc (by omega), zW_e]
  generalize hM7 : pI M6 4 p 0 ((qN P + 1 : Nat) : Int) = M7
  have Q : ∀ t i j, ¬ (28 ≤ t ∧ t ≤ 32 ∧ i = p ∧ j = qN P) → ¬ (t = 4 ∧ i = p ∧ j = 0) → mI M7 t i j = mI M t i j := fun t i j a1 a2 => by
    rw [← hM7, mI_pI_ne a2, ← hM6, mI_pI_ne (by omega), ← hM5, mI_pI_ne (by omega), ← hM4, mI_pI_ne (by omega), ← hM3, mI_pI_ne (by omega), ← hM2, mI_pI_ne (by omega), ← hM1]
    rfl
  have LQ : ∀ t i j, ¬ (t = 27 ∧ i = p ∧ j = qN P) → mL M7 t i j = mL M t i j := fun t i j a1 => by
    rw [← hM7, ← hM6, ← hM5, ← hM4, ← hM3, ← hM2, ← hM1]
    exact if_neg a1
  have LN : mL M7 27 p (qN P) = nm := by
    rw [← hM7, ← hM6, ← hM5, ← hM4, ← hM3, ← hM2, ← hM1]
    exact if_pos ⟨rfl, rfl, rfl⟩
  have R7 : mR M7 = mR M := by rw [← hM7, ← hM6, ← hM5, ← hM4, ← hM3, ← hM2, ← hM1]; rfl
  have K7 : mK M7 = mK M := by rw [← hM7, ← hM6, ← hM5, ← hM4, ← hM3, ← hM2, ← hM1]; rfl
  have v28 : mI M7 28 p (qN P) = k := by rw [← hM7, mI_pI_ne (by omega), ← hM6, mI_pI_ne (by omega), ← hM5, mI_pI_ne (by omega), ← hM4, mI_pI_ne (by omega), ← hM3, mI_pI_ne (by omega), ← hM2, mI_pI_eq]
  have v29 : mI M7 29 p (qN P) = o := by rw [← hM7, mI_pI_ne (by omega), ← hM6, mI_pI_ne (by omega), ← hM5, mI_pI_ne (by omega), ← hM4, mI_pI_ne (by omega), ← hM3, mI_pI_eq]
  have v30 : mI M7 30 p (qN P) = c := by rw [← hM7, mI_pI_ne (by omega), ← hM6, mI_pI_ne (by omega), ← hM5, mI_pI_ne (by omega), ← hM4, mI_pI_eq]
  have v31 : mI M7 31 p (qN P) = -1 := by rw [← hM7, mI_pI_ne (by omega), ← hM6, mI_pI_ne (by omega), ← hM5, mI_pI_eq]
  have v32 : mI M7 32 p (qN P) = 0 := by rw [← hM7, mI_pI_ne (by omega), ← hM6, mI_pI_eq]
  have v0 : mI M7 4 p 0 = ((qN P + 1 : Nat) : Int) := by rw [← hM7, mI_pI_eq]
  clear n1 n2 n3 n4 n5 n6 hM1 hM2 hM3 hM4 hM5 hM6 hM7
  obtain ⟨h1, h2, h3, h4, h5, h6', h7, ⟨w, h8⟩, h9⟩ := hP
  have eT : ∀ t i, i ≠ qN P ∨ (6 ≤ t ∧ t ≤ 11) → qT (pTur P k o c nm a') t i = qT P t i := fun t i hh => by
    show (if i = qN P then _ else _) = _
    by_cases e : i = qN P
    · rw [if_pos e, if_neg (by omega), if_neg (by omega), if_neg (by omega), if_neg (by omega), if_neg (by omega), if_neg (by omega), if_neg (by omega)]
    · rw [if_neg e]
  refine ⟨M7, rfl, ⟨⟨v0, fun i hi => ?_, ⟨(Q _ _ _ (by omega) (by omega)).trans h3.1, fun i hi => (Q _ _ _ (by omega) (by omega)).trans (h3.2 i hi)⟩, fun i hi => ?_, ⟨(Q _ _ _ (by omega) (by omega)).trans h5.1, fun i hi => ?_⟩, ?_, ?_, ⟨w, (Q _ _ _ (by omega) (by omega)).trans h8.1, h8.2.1, fun i hi => (Q _ _ _ (by omega) (by omega)).trans (h8.2.2.1 i hi), h8.2.2.2⟩, h9⟩, (Q _ _ _ (by omega) (by omega)).trans hJ.2.1, by rw [R7]; exact hJ.2.2⟩, ⟨K7, fun k _ => by rw [R7], fun t i j hn => Q t i j (fun q => hn (.inr (.inl (by omega)))) (fun q => hn (.inr (.inl (by omega)))), fun t i j _ hn => LQ t i j (fun q => hn (.inr (.inl (by omega))))⟩, fun t i j ht => Q t i j (by omega) (by omega), fun j => LQ _ _ _ (by omega), R7, K7⟩
  · have hi' : i < qN P + 1 := hi
    by_cases e : i = qN P
    · subst e
      exact ⟨v28.trans (if_pos rfl).symm, v29.trans (if_pos rfl).symm, v30.trans (if_pos rfl).symm, v31.trans (if_pos rfl).symm, v32.trans (if_pos rfl).symm, LN.trans (if_pos rfl).symm⟩
    · rw [eT 1 i (.inl e), eT 2 i (.inl e), eT 3 i (.inl e), eT 4 i (.inl e), eT 5 i (.inl e), eT 12 i (.inl e)]
      obtain ⟨a1, a2, a3, a4, a5, a6⟩ := h2 i (by omega)
      exact ⟨(Q _ _ _ (by omega) (by omega)).trans a1, (Q _ _ _ (by omega) (by omega)).trans a2, (Q _ _ _ (by omega) (by omega)).trans a3, (Q _ _ _ (by omega) (by omega)).trans a4, (Q _ _ _ (by omega) (by omega)).trans a5, (LQ _ _ _ (by omega)).trans a6⟩
  · rw [eT 7 i (.inr (by omega))]
    refine ⟨(Q _ _ _ (by omega) (by omega)).trans (h4 i hi).1, fun k hk => ?_⟩
    rw [eT (8 + i) k (.inr (by omega))]
    exact (Q _ _ _ (by omega) (by omega)).trans ((h4 i hi).2 k hk)
  · rw [eT 6 i (.inr (by omega))]
    exact (Q _ _ _ (by omega) (by omega)).trans (h5.2 i hi)
  · rw [eT 11 0 (.inr (by omega))]
    exact (Q _ _ _ (by omega) (by omega)).trans h6'
  · rw [eT 11 1 (.inr (by omega))]
    exact (Q _ _ _ (by omega) (by omega)).trans h7
theorem CRd.s2 (h : CRd x n b M) (e : ∀ t i k, t = 8 ∨ t = 42 ∨ t = 5 → mI M' t i k = mI M t i k) (el : ∀ k, mL M' 8 0 k = mL M 8 0 k) (er : mR M' = mR M) (ek : mK M' = mK M) : CRd x n b M' := by
  obtain ⟨h1, h2, h3, h4⟩ := h
  exact ⟨⟨⟨(e _ _ _ (by omega)).trans h1.1.1, fun k hk => (e _ _ _ (by omega)).trans (h1.1.2 k hk)⟩, h1.2.1.k ek, h1.2.2⟩, ⟨(e _ _ _ (by omega)).trans h2.1, (e _ _ _ (by omega)).trans h2.2.1, (e _ _ _ (by omega)).trans h2.2.2.1, fun q => (e _ _ _ (by omega)).trans (h2.2.2.2.1 q), fun q => (el _).trans (h2.2.2.2.2.1 q), by rw [er]; exact h2.2.2.2.2.2⟩, h3, (e _ _ _ (by omega)).trans h4⟩
theorem c_turb (hv : VP P) (h : CRd x n b M) (hJ : CJ p P T M) (hN : 2000 ≤ N) : CPo x n p M (oTb x n b P T) (Re_readTurbine N 0 M) := by
  have hn6 := hv.n
  unfold Re_readTurbine oTb
  rw [hJ.2.2, zO_s, hJ.1.n]
  by_cases h6 : qN P < 6
  · rw [if_pos h6, if_pos (show (qN P : Int) < 6 by omega)]
    obtain ⟨M1, e1, h1, f1⟩ := h.pass hN
    have j1 := hJ.t f1
    rw [e1, zBv_s]
    refine CPo.w f1.f.pk ?_
    obtain ⟨v, e2, hv'⟩ := c_isName (N := N) h1.1.2.1 h1.2.1
    rw [e2, zB_s]
    rcases hv' with ⟨rfl, ht⟩ | ⟨rfl, ht⟩
    · have hk5 : mL M1 8 0 5 = wC x n (nb x n b) := h1.2.1.2.2.2.2.1 ht.1
      have hbn : Pa_byName N p (wC x n (nb x n b)) M1 = some (fNm (qT P 12) (wC x n (nb x n b)) (qN P) 0, M1) := c_byName hn6 j1.1.n (fun i hi => j1.1.nm hi) (qN P) 0 N (by omega) (by omega)
      rw [if_pos (tNb_t.2 ht), if_neg (show ¬ (1 : Int) = 0 by decide), j1.2.2, zO_s, hk5, hbn, zB_s]
      by_cases c2 : fNm (qT P 12) (wC x n (nb x n b)) (qN P) 0 = -1
      · rw [if_pos c2, if_pos c2, hk5, zW_e]
        obtain ⟨M2, e3, h2, f2⟩ := h1.pass hN
        have j2 := j1.t f2
        rw [e3, zBv_s]
        refine CPo.w f2.f.pk ?_
        rw [h2.2.1.2.2.2.2.2, c_kindOf, zB_s]
        by_cases c3 : oKi x n (nb x n (nb x n b)) = -1
        · rw [if_pos c3, if_pos c3]
          exact CPo.er (by omega) h2
        · rw [if_neg c3, if_neg c3]
          obtain ⟨M3, e4, h3, f3⟩ := h2.pass hN
          have j3 := j2.t f3
          rw [e4, zBv_s]
          refine CPo.w f3.f.pk ?_
          refine CPo.bd (c_passWord h3 hN) (fun z0 M4 _ h4 q4 f4 => ?_)
          have j4 := j3.f f4
          refine CPo.bd (c_passNumber h4 hN) (fun z1 M5 _ h5 q5 f5 => ?_)
          have j5 := j4.f f5
          rw [zW_e, q5.1]
          refine CPo.bd (c_passWord h5 hN) (fun z2 M6 _ h6' q6 f6 => ?_)
          have j6 := j5.f f6
          rcases c_isNumber (N := N) (lo := 0) (hi := 35) h6' with ⟨k1, k2, k3, k4⟩ | ⟨e, k1, M', a1, a2, a3, a4, a5⟩
          · have ho : oNum x n z2.1 0 35 = .inr (nb x n z2.1, wV x n z2.1) := by
              unfold oNum
              rw [if_pos k1, if_pos ⟨k2, k3⟩]
            rw [k4, zB_s, if_neg (by decide), ho, h6'.v k1, zW_e, j6.2.2, zO_s]
            show CPo x n p M6 (if pTak P (wV x n z2.1) (qN P) = true then .inl (3 + 16 * (z2.1 : Int)) else oFin x n (nb x n z2.1) (pTur P (oKi x n (nb x n (nb x n b))) z1.2 (wV x n z2.1) (wC x n (nb x n b)) (wR x n (nb x n b))) T) _
            have htk : Pa_isTaken N p (wV x n z2.1) M6 = some (if pTak P (wV x n z2.1) (qN P) then 1 else 0, M6) := c_taken hv j6.1 (qN P) 0 N (by omega) (by omega) (fun k hk => absurd hk (by omega))
            rw [htk, zB_s]
            by_cases c5 : pTak P (wV x n z2.1) (qN P) = true
            · rw [if_pos c5, if_pos c5, if_neg (by decide)]
              exact CPo.er (by omega) h6'
            · rw [if_neg c5, if_neg c5, if_pos rfl]
              obtain ⟨M7, e8, h7, f7⟩ := h6'.pass hN
              have j7 := j6.t f7
              rw [e8, zBv_s, j7.2.2, zO_s]
              obtain ⟨M8, e9, j8, f8, g1, g2, g3, g4⟩ := c_addT (N := N) (nm := wC x n (nb x n b)) (k := oKi x n (nb x n (nb x n b))) (o := z1.2) (c := wV x n z2.1) (a' := wR x n (nb x n b)) j7 h6
              rw [e9, zBv_s]
              exact (c_fin0 (h7.s2 g1 g2 g3 g4) j8 hN).zb.w (f7.f.pk.tr f8)
          · rw [a1, zB_s, if_pos rfl, k1]
            exact ⟨M', rfl, a2, a3, a4, a5.pk⟩
      · rw [if_neg c2, if_neg c2]
        exact CPo.er (by omega) h1
    · rw [if_neg (fun q => ht (tNb_t.1 q)), if_pos rfl]
      exact CPo.er (by omega) h1
  · rw [if_neg h6, if_neg (show ¬ (qN P : Int) < 6 by omega)]
    exact CPo.er (by omega) h
theorem c_goal (hv : VP P) (h : CRd x n b M) (hJ : CJ p P T M) (hN : 2000 ≤ N) : CO x n fRd (fun v M' => mI M' 5 0 5 = v) M (oGl x n b P) (Re_readGoal N 0 M) := by
  have hn6 := hv.n
  unfold Re_readGoal oGl
  rw [h.2.1.2.2.2.2.2, zW_e]
  obtain ⟨M1, e1, h1, f1⟩ := h.pass hN
  by_cases c5 : tWd x n b = some 5
  · rw [if_pos c5, if_pos c5]
    unfold Re_readGoal_28
    rw [e1, zBv_s, if_pos c5, zW_e]
    exact ⟨_, rfl, h1.p (by decide), mI_pI_eq, f1.f.tr (zcF.p (.inr (by omega)))⟩
  · rw [if_neg c5, if_neg c5]
    by_cases c4 : tWd x n b = some 4
    · rw [if_pos c4, if_pos c4]
      unfold Re_readGoal_28
      rw [e1, zBv_s, if_neg c5]
      have j1 := hJ.t f1
      have hs := c_isTurbine (N := N) (q := qT P 12) h1 ⟨j1.2.2, j1.1.n, hn6, fun i hi => j1.1.nm hi⟩ hN
      unfold CO at hs
      cases ho : oTur x n (nb x n b) (qT P 12) (qN P) with
      | inl e =>
        rw [ho] at hs
        obtain ⟨M', a1, a2, a3, a4, a5⟩ := hs
        rw [a1, zB_s, if_pos rfl]
        exact ⟨M', rfl, a2, a3, a4, f1.f.tr a5⟩
      | inr g =>
        rw [ho] at hs
        obtain ⟨M2, a1, a2, ⟨a3, a4⟩, a5⟩ := hs
        have rg := oTur_r ho
        have j2 := j1.f a5
        have eg : ((g.2.toNat : Nat) : Int) = g.2 := by omega
        rw [a1, zB_s, if_neg (by decide), j2.2.2, zO_s, a3, zI_t (by omega), j2.1.g (by omega)]
        show CO x n fRd (fun v M' => mI M' 5 0 5 = v) M (if qT P 4 g.2.toNat = -1 then eC 2 g.1 else .inr (nb x n g.1, g.2)) _
        by_cases c : qT P 4 g.2.toNat = -1
        · rw [if_pos c, if_pos c]
          obtain ⟨M', e2, g1, g2, g3, g4⟩ := c_fail (N := N) (e := 2) (by omega) a2
          rw [e2, zB_s, zb10]
          exact ⟨M', rfl, g1, g2, g3, f1.f.tr (a5.tr g4)⟩
        · rw [if_neg c, if_neg c]
          obtain ⟨M3, e3, h3, f3⟩ := a2.pass hN
          rw [e3, zBv_s]
          exact ⟨M3, rfl, h3, (f3.2.2.1 _ _ _ (by omega)).trans a3, f1.f.tr (a5.tr f3.f)⟩
    · rw [if_neg c4, if_neg c4]
      obtain ⟨M', e2, g⟩ := c_fail (N := N) (e := 1) (by omega) h
      rw [e2, zB_s, zb10]
      exact ⟨M', rfl, g⟩
theorem zmapget {l : List Nat} {t i : Nat} (h : i < (l ++ [t]).length) (h' : i < (l.map Int.ofNat ++ [(t : Int)]).length) : (l.map Int.ofNat ++ [(t : Int)])[i] = ((l ++ [t])[i] : Int) := by
  by_cases q : i < l.length
  · rw [List.getElem_append_left (by simpa using q), List.getElem_append_left q, List.getElem_map]
    rfl
  · have q' : i = l.length := by simp at h; omega
    subst q'
    rw [List.getElem_append_right (by simp), List.getElem_append_right (by simp)]
    simp
theorem CP.cab {t : Nat} {g v : Int} (h : CP p P M) (ht : t < qN P) (hl : CN (7 * p) (((qO P).map Int.ofNat) ++ [(t : Int)]) M') (e31 : mI M' 31 p t = g) (e32 : mI M' 32 p t = v) (e : ∀ s i k, (s = 3 ∨ s = 4 ∨ s = 26 ∨ (28 ≤ s ∧ s ≤ 32)) → ¬ ((s = 3 ∨ s = 26) ∧ i = 7 * p) → ¬ ((s = 31 ∨ s = 32) ∧ i = p ∧ k = t) → mI M' s i k = mI M s i k) (e2 : ∀ i k, mL M' 27 i k = mL M 27 i k) : CP p (pCab P t g v) M' := by
  obtain ⟨h1, h2, h3, h4, h5, h6, h7, ⟨w, h8⟩, h9⟩ := h
  have eT : ∀ s i, s ≠ 4 → s ≠ 5 → qT (pCab P t g v) s i = qT P s i := fun s i h1 h2 => by
    show rU (rU (qT P) 4 t g) 5 t v s i = _
    rw [rU_n (by omega), rU_n (by omega)]
  have e45 : ∀ s i, i ≠ t → qT (pCab P t g v) s i = qT P s i := fun s i hi => by
    show rU (rU (qT P) 4 t g) 5 t v s i = _
    rw [rU_n (by omega), rU_n (by omega)]
  have e4t : qT (pCab P t g v) 4 t = g := by
    show rU (rU (qT P) 4 t g) 5 t v 4 t = _
    rw [rU_n (by omega), rU_s]
  have e5t : qT (pCab P t g v) 5 t = v := rU_s
  refine ⟨(e 4 p 0 (by omega) (by omega) (by omega)).trans h1, fun k hk => ?_, ⟨?_, fun i hi => ?_⟩, fun i hi => ?_, ⟨(e _ _ _ (by omega) (by omega) (by omega)).trans h5.1, fun i hi => ?_⟩, ?_, ?_, ⟨w, (e _ _ _ (by omega) (by omega) (by omega)).trans h8.1, h8.2.1, fun i hi => (e _ _ _ (by omega) (by omega) (by omega)).trans (h8.2.2.1 i hi), h8.2.2.2⟩, h9⟩
  · obtain ⟨a1, a2, a3, a4, a5, a6⟩ := h2 k hk
    rw [eT 1 k (by omega) (by omega), eT 2 k (by omega) (by omega), eT 3 k (by omega) (by omega), eT 12 k (by omega) (by omega)]
    refine ⟨(e _ _ _ (by omega) (by omega) (by omega)).trans a1, (e _ _ _ (by omega) (by omega) (by omega)).trans a2, (e _ _ _ (by omega) (by omega) (by omega)).trans a3, ?_, ?_, (e2 _ _).trans a6⟩
    · by_cases ek : k = t
      · subst ek; rw [e4t]; exact e31
      · rw [e45 4 k ek]; exact (e _ _ _ (by omega) (by omega) (by omega)).trans a4
    · by_cases ek : k = t
      · subst ek; rw [e5t]; exact e32
      · rw [e45 5 k ek]; exact (e _ _ _ (by omega) (by omega) (by omega)).trans a5
  · rw [hl.1]
    show _ = ((qO P ++ [t]).length : Int)
    simp
  · have hi' : i < (((qO P).map Int.ofNat) ++ [(t : Int)]).length := by
      have : i < (qO P ++ [t]).length := hi
      simpa using this
    exact (hl.2 i hi').trans (zmapget hi hi')
  · rw [eT 7 i (by omega) (by omega)]
    refine ⟨(e _ _ _ (by omega) (by omega) (by omega)).trans (h4 i hi).1, fun k hk => ?_⟩
    rw [eT (8 + i) k (by omega) (by omega)]
    exact (e _ _ _ (by omega) (by omega) (by omega)).trans ((h4 i hi).2 k hk)
  · rw [eT 6 i (by omega) (by omega)]
    exact (e _ _ _ (by omega) (by omega) (by omega)).trans (h5.2 i hi)
  · rw [eT 11 0 (by omega) (by omega)]
    exact (e _ _ _ (by omega) (by omega) (by omega)).trans h6
  · rw [eT 11 1 (by omega) (by omega)]
    exact (e _ _ _ (by omega) (by omega) (by omega)).trans h7
theorem VP.ol6 (hv : VP P) {t : Nat} (ht : t < qN P) (h4 : qT P 4 t = -1) : (qO P).length < 6 := by
  have hn := hv.n
  have hnt : t ∉ qO P := fun q => (hv.mem t ht).1 q h4
  have : (t :: qO P).length ≤ qN P := zlen_n (qN P) (t :: qO P) (by rw [List.nodup_cons]; exact ⟨hnt, hv.nd⟩) (fun s hs => by
    rw [List.mem_cons] at hs
    rcases hs with hs | hs
    · omega
    · obtain ⟨i, hi, e⟩ := List.getElem_of_mem hs
      have := (hv.ord i hi).1
      omega)
  simp only [List.length_cons] at this
  omega
theorem c_cable (hv : VP P) (h : CRd x n b M) (hJ : CJ p P T M) (hN : 2000 ≤ N) : CPo x n p M (oCb x n b P T) (Re_readCable N 0 M) := by
  have hn6 := hv.n
  have p2 := hJ.1.p2
  unfold Re_readCable oCb
  obtain ⟨M1, e1, h1, f1⟩ := h.pass hN
  have j1 := hJ.t f1
  rw [e1, zBv_s]
  refine CPo.w f1.f.pk ?_
  refine CPo.bd (c_isTurbine (q := qT P 12) h1 ⟨j1.2.2, j1.1.n, hn6, fun i hi => j1.1.nm hi⟩ hN) (fun t M2 ot h2 q2 f2 => ?_)
  have rt := oTur_r ot
  have j2 := j1.f f2
  have et : t.2 = ((t.2.toNat : Nat) : Int) := by omega
  rw [q2.1, zW_e, j2.2.2, zO_s, zI_t (by omega), j2.1.g (by omega)]
  by_cases c1 : qT P 4 t.2.toNat = -1
  · rw [if_pos c1, if_pos c1]
    obtain ⟨M3, e3, h3, f3⟩ := h2.pass hN
    have j3 := j2.t f3
    rw [e3, zBv_s]
    refine CPo.w f3.f.pk ?_
    refine CPo.bd (c_goal hv h3 j3 hN) (fun g M4 og h4 q4 f4 => ?_)
    have j4 := j3.f f4
    refine CPo.bd (c_passWord h4 hN) (fun y M5 oy h5 q5 f5 => ?_)
    have j5 := j4.f f5
    rw [q5.2.2.1 5 0 5 (by omega), q4, zW_e]
    refine CPo.bd (c_passNumber h5 hN) (fun v M6 ov h6 q6 f6 => ?_)
    have j6 := j5.f f6
    rw [j6.2.2, zO_s, zI_t (by omega), zW_e, zI_t (by omega), mI_pI_ne (by omega), q6.1, zW_e]
    generalize hM7 : pI (pI M6 31 p t.2.toNat g.2) 32 p t.2.toNat v.2 = M7
    have Q7 : ∀ s i k, ¬ ((s = 31 ∨ s = 32) ∧ i = p ∧ k = t.2.toNat) → mI M7 s i k = mI M6 s i k := fun s i k hs => by
      rw [← hM7, mI_pI_ne (by omega), mI_pI_ne (by omega)]
    have v31 : mI M7 31 p t.2.toNat = g.2 := by rw [← hM7, mI_pI_ne (by omega), mI_pI_eq]
    have v32 : mI M7 32 p t.2.toNat = v.2 := by rw [← hM7, mI_pI_eq]
    have K7 : M7.2 = M6.2 := by rw [← hM7]; rfl
    have ol := hv.ol6 (t := t.2.toNat) (by omega) c1
    have hl : CN (7 * p) ((qO P).map Int.ofNat) M7 := ⟨by rw [Q7 _ _ _ (by omega), j6.1.ol]; simp, fun i hi => by
      have hi' : i < (qO P).length := by simpa using hi
      rw [Q7 _ _ _ (by omega), j6.1.oi hi', List.getElem_map]; rfl⟩
    obtain ⟨M8, e8, f8, l8⟩ := c_add (N := N) (q := 7 * p) (x := t.2) hl (by rw [j6.1.z0]; simp; omega) (by rw [j6.1.z0]; omega)
    rw [e8, zB_s]
    have Q8 : ∀ s i k, ¬ ((s = 3 ∨ s = 26) ∧ i = 7 * p) → mI M8 s i k = mI M7 s i k := fun s i k hs => f8.2 _ _ _ (by simp; omega)
    have L8 : ∀ s i k, mL M8 s i k = mL M6 s i k := fun s i k => (mL_2 f8.1 _ _ _).trans (mL_2 K7 _ _ _)
    rw [et] at l8
    have c8 : CP p (pCab P t.2.toNat g.2 v.2) M8 := j6.1.cab (by omega) l8 ((Q8 _ _ _ (by omega)).trans v31) ((Q8 _ _ _ (by omega)).trans v32) (fun s i k hs a1 a2 => (Q8 _ _ _ a1).trans (Q7 _ _ _ a2)) (fun i k => L8 _ _ _)
    have K8 : M8.2 = M6.2 := f8.1.trans K7
    have h8 : CRd x n v.1 M8 := h6.s K8 (fun s i k hs => (Q8 _ _ _ (by omega)).trans (Q7 _ _ _ (by omega)))
    have j8 : CJ p (pCab P t.2.toNat g.2 v.2) T M8 := ⟨c8, (Q8 _ _ _ (by omega)).trans ((Q7 _ _ _ (by omega)).trans j6.2.1), by rw [mR_2 K8]; exact j6.2.2⟩
    have fr : zcF (fPk p) M6 M8 := ⟨mK_2 K8, fun k _ => by rw [mR_2 K8], fun s i k hn => (Q8 _ _ _ (fun q => hn (.inr (.inr (.inr (by omega)))))).trans (Q7 _ _ _ (fun q => hn (.inr (.inl (by omega))))), fun s i k _ _ => L8 _ _ _⟩
    exact (c_fin0 h8 j8 hN).zb.w fr
  · rw [if_neg c1, if_neg c1]
    exact CPo.er (by omega) h2
/-- a line of a park, the class -/
theorem KM.sw (h : KM M) {w : Nat} : mKI M 12 w 2 = (w : Int) ∧ ∀ k, mKI M 101 0 k = zswm k := by
  obtain ⟨sl, sx, h⟩ := h
  exact ⟨congrArg (fun K : ZK => K.2.2.1 12 w 2) h, fun k => congrArg (fun K : ZK => K.2.2.1 101 0 k) h⟩
theorem zswm_v : ∀ w : Nat, w < 30 → zswm w = if w = 0 then 1 else if w = 3 then 2 else if w = 7 then 3 else if w = 8 then 4 else if w = 9 then 5 else if w = 10 then 6 else if w = 11 then 7 else if w = 12 then 8 else if w = 13 then 9 else 0 := by decide +kernel
theorem c_parkLine (hv : VP P) (hT : T < 128) (h : CRd x n b M) (hJ : CJ p P T M) (hN : 2000 ≤ N) : CPo x n p M (oPl x n b P T) (Re_readParkLine N 0 M) := by
  unfold Re_readParkLine oPl
  rw [h.2.1.2.2.2.2.2, zW_e]
  cases hw : tWd x n b with
  | none =>
    rw [zN_n]
    simp only [reduceCtorEq, if_false]
    exact CPo.er (by omega) h
  | some w =>
    have hw30 : w < 30 := by
      unfold tWd at hw
      split at hw
      · have := (tFd_s 30 0 w hw).2; omega
      · cases hw
    have sw := h.1.2.1.sw (w := w)
    rw [zN_s, sw.1, zI_t (by omega), Int.toNat_natCast, sw.2, zswm_v w hw30]
    simp only [Option.some.injEq]
    by_cases d0 : w = 0
    · rw [if_pos d0, if_pos d0, if_pos rfl]
      exact (c_turb hv h hJ hN).zb
    · rw [if_neg d0, if_neg d0]
      by_cases d1 : w = 3
      · rw [if_pos d1, if_pos d1, if_neg (by decide), if_pos rfl]
        exact (c_cable hv h hJ hN).zb
      · rw [if_neg d1, if_neg d1]
        by_cases d2 : w = 7
        · rw [if_pos d2, if_pos d2, if_neg (by decide), if_neg (by decide), if_pos rfl]
          exact c_row (j := 0) rfl (by omega) hT h hJ hN
        · rw [if_neg d2, if_neg d2]
          by_cases d3 : w = 8
          · rw [if_pos d3, if_pos d3, if_neg (by decide), if_neg (by decide), if_neg (by decide), if_pos rfl]
            exact c_row (j := 1) rfl (by omega) hT h hJ hN
          · rw [if_neg d3, if_neg d3]
            by_cases d4 : w = 9
            · rw [if_pos d4, if_pos d4, if_neg (by decide), if_neg (by decide), if_neg (by decide), if_neg (by decide), if_pos rfl]
              exact c_row (j := 2) rfl (by omega) hT h hJ hN
            · rw [if_neg d4, if_neg d4]
              by_cases d5 : w = 10
              · rw [if_pos d5, if_pos d5, if_neg (by decide), if_neg (by decide), if_neg (by decide), if_neg (by decide), if_neg (by decide), if_pos rfl]
                exact c_wakes hT h hJ hN
              · rw [if_neg d5, if_neg d5]
                by_cases d6 : w = 11
                · rw [if_pos d6, if_pos d6, if_neg (by decide), if_neg (by decide), if_neg (by decide), if_neg (by decide), if_neg (by decide), if_neg (by decide), if_pos rfl]
                  exact c_one (i := 0) (K := Re_readWears N 0) (by omega) rfl (fun _ => rfl) hT h hJ hN
                · rw [if_neg d6, if_neg d6]
                  by_cases d7 : w = 12
                  · rw [if_pos d7, if_pos d7, if_neg (by decide), if_neg (by decide), if_neg (by decide), if_neg (by decide), if_neg (by decide), if_neg (by decide), if_neg (by decide), if_pos rfl]
                    exact c_one (i := 1) (K := Re_readSlack N 0) (by omega) rfl (fun _ => rfl) hT h hJ hN
                  · rw [if_neg d7, if_neg d7]
                    by_cases d8 : w = 13
                    · rw [if_pos d8, if_pos d8, if_neg (by decide), if_neg (by decide), if_neg (by decide), if_neg (by decide), if_neg (by decide), if_neg (by decide), if_neg (by decide), if_neg (by decide), if_pos rfl]
                      exact c_gives6 hT h hJ hN
                    · rw [if_neg d8, if_neg d8, if_neg (by decide), if_neg (by decide), if_neg (by decide), if_neg (by decide), if_neg (by decide), if_neg (by decide), if_neg (by decide), if_neg (by decide), if_neg (by decide)]
                      exact CPo.er (by omega) h
end CPK2
