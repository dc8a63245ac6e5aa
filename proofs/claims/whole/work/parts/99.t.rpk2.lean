section RPK2
variable {N n b T : Nat} {x : Nat → Int} {P : PK} {tb : Bool} {M M' : ZM}
theorem r_stands3 {c : Int} (hv : VP P) (hc : mI M 51 0 9 = (qN P : Int)) (h : ∀ k, k < qN P → mI M 55 0 (6 + k) = qT P 3 k) : ∀ (f i g : Nat), i + f = qN P → f < g → (∀ k, k < i → qT P 3 k ≠ c) → Mo_stands_3 N g 0 c ((6 + i : Nat) : Int) M = some (if pTak P c (qN P) then 1 else 0, M) := by
  intro f
  have h6 := hv.n
  induction f with
  | zero =>
    intro i g hi hg hne
    obtain ⟨g, rfl⟩ : ∃ g', g = g' + 1 := ⟨g - 1, by omega⟩
    have : ¬ pTak P c (qN P) = true := fun q => by
      obtain ⟨k, h1, h2⟩ := (pTak_t _).1 q
      exact hne k (by omega) h2
    rw [Mo_stands_3, hc, zs (by omega), if_neg (by omega), if_neg this]
  | succ f ih =>
    intro i g hi hg hne
    obtain ⟨g, rfl⟩ : ∃ g', g = g' + 1 := ⟨g - 1, by omega⟩
    rw [Mo_stands_3, hc, zs (by omega), if_pos (by omega), zI_t (by omega), Int.toNat_natCast, h i (by omega)]
    by_cases e : qT P 3 i = c
    · have : pTak P c (qN P) = true := (pTak_t _).2 ⟨i, by omega, e⟩
      rw [if_pos e, if_pos this]
    · rw [if_neg e, zsucc (by omega), zW_e]
      exact ih (i + 1) g (by omega) (by omega) (fun k hk => by
        by_cases ek : k = i
        · subst ek; exact e
        · exact hne k (by omega))
theorem RJ0.tur {k o c a a' : Int} (h : RJ0 P tb M) (e9 : mI M' 51 0 9 = ((qN P + 1 : Nat) : Int)) (v53 : mI M' 53 0 (6 + qN P) = k) (v54 : mI M' 54 0 (6 + qN P) = o) (v55 : mI M' 55 0 (6 + qN P) = c) (v56 : mI M' 56 0 (6 + qN P) = -1) (v57 : mI M' 57 0 (6 + qN P) = 0) (vL : mL M' 52 0 (6 + qN P) = a') (e : ∀ t k, (t = 51 ∧ 10 ≤ k) ∨ ((53 ≤ t ∧ t ≤ 57) ∧ 6 ≤ k ∧ k < 6 + qN P) ∨ (t = 58 ∧ 24 ≤ k) ∨ ((t = 59 ∨ t = 60) ∧ k = 1) ∨ (t = 61 ∧ 1000 ≤ k) ∨ (t = 11 ∧ k = 21) → mI M' t 0 k = mI M t 0 k) (eL : ∀ k, k < 6 + qN P → mL M' 52 0 k = mL M 52 0 k) : RJ0 (pTur P k o c a a') tb M' := by
  obtain ⟨h1, h2, h3, h4, h5, h6, h7⟩ := h
  have eT : ∀ t i, i ≠ qN P ∨ (6 ≤ t ∧ t ≤ 11) → qT (pTur P k o c a a') t i = qT P t i := fun t i hh => by
    show (if i = qN P then _ else _) = _
    by_cases q : i = qN P
    · rw [if_pos q, if_neg (by omega), if_neg (by omega), if_neg (by omega), if_neg (by omega), if_neg (by omega), if_neg (by omega), if_neg (by omega)]
    · rw [if_neg q]
  refine ⟨e9, fun i hi => ?_, fun i hi => ?_, fun i hi => ?_, ?_, ?_, h7.g (fun t k hh => e t k (by omega))⟩
  · have hi' : i < qN P + 1 := hi
    by_cases q : i = qN P
    · subst q
      exact ⟨v53.trans (if_pos rfl).symm, v54.trans (if_pos rfl).symm, v55.trans (if_pos rfl).symm, v56.trans (if_pos rfl).symm, v57.trans (if_pos rfl).symm, vL.trans (if_pos rfl).symm⟩
    · rw [eT 1 i (.inl q), eT 2 i (.inl q), eT 3 i (.inl q), eT 4 i (.inl q), eT 5 i (.inl q), eT 13 i (.inl q)]
      obtain ⟨a1, a2, a3, a4, a5, a6⟩ := h2 i (by omega)
      exact ⟨(e _ _ (by omega)).trans a1, (e _ _ (by omega)).trans a2, (e _ _ (by omega)).trans a3, (e _ _ (by omega)).trans a4, (e _ _ (by omega)).trans a5, (eL _ (by omega)).trans a6⟩
  · rw [eT 7 i (.inr (by omega))]
    rcases h3 i hi with ⟨a1, a2, a3⟩ | ⟨a1, a2⟩
    · exact .inl ⟨(e _ _ (by omega)).trans a1, a2, by rw [eT (8 + i) 0 (.inr (by omega))]; exact a3⟩
    · exact .inr ⟨(e _ _ (by omega)).trans a1, fun k hk => by rw [eT (8 + i) k (.inr (by omega))]; exact (e _ _ (by omega)).trans (a2 k hk)⟩
  · rw [eT 6 i (.inr (by omega))]; exact (e _ _ (by omega)).trans (h4 i hi)
  · rw [eT 11 0 (.inr (by omega))]; exact (e _ _ (by omega)).trans h5
  · rw [eT 11 1 (.inr (by omega))]; exact (e _ _ (by omega)).trans h6
theorem uB_both {i : Nat} {lo hi : Int} {K : Nat × Int → PO} : uB (oWord x n b i) (fun z0 => uB (oNum x n z0.1 lo hi) K) = uB (oBoth x n b i lo hi) K := by
  unfold oBoth
  cases oWord x n b i <;> rfl
theorem RJ.bey {t : Nat} {v : Int} (h : RJ P T M) (ht : 53 ≤ t ∧ t ≤ 57) : RJ P T (pI M t 0 (6 + qN P) v) := ⟨h.1.g (fun t k hh => mI_pI_ne (by omega)) (fun _ _ => rfl), h.2.g (mI_pI_ne (by omega))⟩
theorem zrF.bey {t : Nat} {v : Int} (ht : 53 ≤ t ∧ t ≤ 57) : zrF fPr M (pI M t 0 (6 + qN P) v) := zrF.p (.inr ⟨rfl, by omega⟩)
theorem r_125 {k a a' : Int} (hv : VP P) (h6 : qN P < 6) (hk : k = -1 ∨ (0 ≤ k ∧ k ≤ 3)) (h : RRd x n b M) (hJ : RJ P T M) (hN : 2000 ≤ N) : RPo x n M (if k = -1 then .inl (1 + 16 * (b : Int)) else uB (oWord x n (nb x n b) 1) fun z0 => uB (oNum x n z0.1 1 2) fun z => uB (oWord x n z.1 2) fun y => uB (oNum x n y.1 0 35) fun c => if pTak P c.2 (qN P) then .inl (3 + 16 * (y.1 : Int)) else oFin x n c.1 (pTur P k z.2 c.2 a a') T) (Mo_readsTurbine_125 N 0 ((6 + qN P : Nat) : Int) a' 0 ((6 + qN P : Nat) : Int) k M) := by
  unfold Mo_readsTurbine_125
  rw [zI_t (by omega), Int.toNat_natCast, zW_e, zI_t (by omega), mI_pI_eq]
  have f1 : zrF fPr M (pI M 53 0 (6 + qN P) k) := zrF.bey (by omega)
  have h1 : RRd x n b (pI M 53 0 (6 + qN P) k) := h.p (by decide) (by omega)
  have j1 : RJ P T (pI M 53 0 (6 + qN P) k) := hJ.bey (by omega)
  have v1 : mI (pI M 53 0 (6 + qN P) k) 53 0 (6 + qN P) = k := mI_pI_eq
  refine RPo.w f1 ?_
  generalize pI M 53 0 (6 + qN P) k = M1 at h1 j1 v1
  by_cases c1 : k = -1
  · rw [if_pos c1, if_pos (show k < 0 by omega)]
    exact RPo.er (by omega) h1
  · rw [if_neg c1, if_neg (show ¬ k < 0 by omega), uB_both]
    obtain ⟨M2, e2, h2, f2⟩ := h1.pass hN
    rw [e2, zBv_s]
    refine RPo.w f2.f.pr ?_
    have j2 := j1.f f2.f
    have v2 : mI M2 53 0 (6 + qN P) = k := (f2.2.2.1 _ _ _ (by omega)).trans v1
    refine RPo.bd (r_needsBoth 1 (by decide) (by decide +kernel) h2 hN) (fun z M3 oz h3 q3 f3 => ?_)
    have j3 := j2.f f3
    have v3 : mI M3 53 0 (6 + qN P) = k := (f3.2.2.1 _ _ _ (by unfold fRr; omega)).trans v2
    rw [zI_t (by omega), zW_e, q3]
    have f4 : zrF fPr M3 (pI M3 54 0 (6 + qN P) z.2) := zrF.bey (by omega)
    have h4 : RRd x n z.1 (pI M3 54 0 (6 + qN P) z.2) := h3.p (by decide) (by omega)
    have j4 : RJ P T (pI M3 54 0 (6 + qN P) z.2) := j3.bey (by omega)
    have v4 : mI (pI M3 54 0 (6 + qN P) z.2) 53 0 (6 + qN P) = k := (mI_pI_ne (by omega)).trans v3
    have w4 : mI (pI M3 54 0 (6 + qN P) z.2) 54 0 (6 + qN P) = z.2 := mI_pI_eq
    refine RPo.w f4 ?_
    generalize pI M3 54 0 (6 + qN P) z.2 = M4 at h4 j4 v4 w4
    rw [r_isWord 2 (by decide) (by decide +kernel) h4.2.1, zB_s]
    unfold oWord
    by_cases c2 : tWd x n z.1 = some 2
    · rw [if_pos c2, if_pos c2, if_neg (show ¬ (1 : Int) = 0 by decide), uB_r]
      obtain ⟨M5, e5, h5, f5⟩ := h4.pass hN
      rw [e5, zBv_s]
      refine RPo.w f5.f.pr ?_
      have j5 := j4.f f5.f
      have v5 : mI M5 53 0 (6 + qN P) = k := (f5.2.2.1 _ _ _ (by omega)).trans v4
      have w5 : mI M5 54 0 (6 + qN P) = z.2 := (f5.2.2.1 _ _ _ (by omega)).trans w4
      unfold oNum
      dsimp only
      by_cases c3 : tKi x n (nb x n z.1) = 2
      · have hw := wV_b c3
        rw [if_pos c3, if_pos (h5.2.1.w2.2 c3), h5.v c3]
        by_cases c4 : wV x n (nb x n z.1) ≤ 35
        · rw [if_pos (show 0 ≤ wV x n (nb x n z.1) ∧ wV x n (nb x n z.1) ≤ 35 from ⟨hw.1, c4⟩), if_neg (show ¬ 35 < wV x n (nb x n z.1) by omega), uB_r]
          have hst : Mo_stands N 0 (wV x n (nb x n z.1)) M5 = some (if pTak P (wV x n (nb x n z.1)) (qN P) then 1 else 0, M5) := r_stands3 hv j5.1.1 (fun k hk => (j5.1.2.1 k hk).2.2.1) (qN P) 0 N (by omega) (by omega) (fun k hk => absurd hk (by omega))
          rw [hst, zB_s]
          dsimp only
          by_cases c5 : pTak P (wV x n (nb x n z.1)) (qN P) = true
          · rw [if_pos c5, if_pos c5, if_neg (show ¬ (1 : Int) = 0 by decide)]
            exact RPo.er (by omega) h5
          · rw [if_neg c5, if_neg c5, if_pos rfl, zI_t (by omega), h5.v c3, zW_e]
            have f6 : zrF fPr M5 (pI M5 55 0 (6 + qN P) (wV x n (nb x n z.1))) := zrF.bey (by omega)
            have h6' : RRd x n (nb x n z.1) (pI M5 55 0 (6 + qN P) (wV x n (nb x n z.1))) := h5.p (by decide) (by omega)
            have j6 : RJ P T (pI M5 55 0 (6 + qN P) (wV x n (nb x n z.1))) := j5.bey (by omega)
            have v6 : mI (pI M5 55 0 (6 + qN P) (wV x n (nb x n z.1))) 53 0 (6 + qN P) = k := (mI_pI_ne (by omega)).trans v5
            have w6 : mI (pI M5 55 0 (6 + qN P) (wV x n (nb x n z.1))) 54 0 (6 + qN P) = z.2 := (mI_pI_ne (by omega)).trans w5
            have y6 : mI (pI M5 55 0 (6 + qN P) (wV x n (nb x n z.1))) 55 0 (6 + qN P) = wV x n (nb x n z.1) := mI_pI_eq
            refine RPo.w f6 ?_
            generalize pI M5 55 0 (6 + qN P) (wV x n (nb x n z.1)) = M6 at h6' j6 v6 w6 y6
            obtain ⟨M7, e7, h7, f7⟩ := h6'.pass hN
            rw [e7, zBv_s]
            refine RPo.w f7.f.pr ?_
            have j7 := j6.f f7.f
            have v7 : mI M7 53 0 (6 + qN P) = k := (f7.2.2.1 _ _ _ (by omega)).trans v6
            have w7 : mI M7 54 0 (6 + qN P) = z.2 := (f7.2.2.1 _ _ _ (by omega)).trans w6
            have y7 : mI M7 55 0 (6 + qN P) = wV x n (nb x n z.1) := (f7.2.2.1 _ _ _ (by omega)).trans y6
            have i12 : (0 : Int) ≤ ((6 + qN P : Nat) : Int) ∧ ((6 + qN P : Nat) : Int) < 12 := by omega
            rw [zI_t i12, zW_e, zI_t i12, zW_e, zI_t i12, zW_e, mI_pL, mI_pI_ne (by omega), mI_pI_ne (by omega), j7.1.1, zsucc (by omega), zW_e]
            generalize hM8 : pI (pL (pI (pI M7 56 0 (6 + qN P) (-1)) 57 0 (6 + qN P) 0) 52 0 (6 + qN P) a') 51 0 9 ((qN P + 1 : Nat) : Int) = M8
            have Q : ∀ t i j, ¬ ((t = 56 ∨ t = 57) ∧ i = 0 ∧ j = 6 + qN P) → ¬ (t = 51 ∧ i = 0 ∧ j = 9) → mI M8 t i j = mI M7 t i j := fun t i j a1 a2 => by
              rw [← hM8, mI_pI_ne a2, mI_pL, mI_pI_ne (by omega), mI_pI_ne (by omega)]
            have LQ : ∀ t i j, ¬ (t = 52 ∧ i = 0 ∧ j = 6 + qN P) → mL M8 t i j = mL M7 t i j := fun t i j a1 => by
              rw [← hM8]
              exact if_neg a1
            have LN : mL M8 52 0 (6 + qN P) = a' := by
              rw [← hM8]
              exact if_pos ⟨rfl, rfl, rfl⟩
            have v51 : mI M8 51 0 9 = ((qN P + 1 : Nat) : Int) := by rw [← hM8, mI_pI_eq]
            have v56 : mI M8 56 0 (6 + qN P) = -1 := by rw [← hM8, mI_pI_ne (by omega), mI_pL, mI_pI_ne (by omega), mI_pI_eq]
            have v57 : mI M8 57 0 (6 + qN P) = 0 := by rw [← hM8, mI_pI_ne (by omega), mI_pL, mI_pI_eq]
            have R8 : mR M8 = mR M7 := by rw [← hM8]; rfl
            have K8 : mK M8 = mK M7 := by rw [← hM8]; rfl
            clear hM8
            have h8 : RRd x n (nb x n (nb x n z.1)) M8 := by
              obtain ⟨t1, t2, t3⟩ := h7
              exact ⟨⟨(Q _ _ _ (by omega) (by omega)).trans t1.1, fun k hk => (Q _ _ _ (by omega) (by omega)).trans (t1.2.1 k hk), t1.2.2⟩, ⟨(Q _ _ _ (by omega) (by omega)).trans t2.1, (Q _ _ _ (by omega) (by omega)).trans t2.2.1, (Q _ _ _ (by omega) (by omega)).trans t2.2.2.1, fun q => (Q _ _ _ (by omega) (by omega)).trans (t2.2.2.2.1 q), fun q => (LQ _ _ _ (by omega)).trans (t2.2.2.2.2 q)⟩, t3⟩
            have j8 : RJ (pTur P k z.2 (wV x n (nb x n z.1)) a a') T M8 := ⟨j7.1.tur v51 ((Q _ _ _ (by omega) (by omega)).trans v7) ((Q _ _ _ (by omega) (by omega)).trans w7) ((Q _ _ _ (by omega) (by omega)).trans y7) v56 v57 LN (fun t j hh => Q _ _ _ (by omega) (by omega)) (fun j hj => LQ _ _ _ (by omega)), j7.2.g (Q _ _ _ (by omega) (by omega))⟩
            have f8 : zrF fPr M7 M8 := ⟨K8, R8, fun t i j hn => Q t i j (fun q => hn (.inr ⟨q.2.1, by omega⟩)) (fun q => hn (.inr ⟨q.2.1, by omega⟩)), fun t i j _ hn => LQ t i j (fun q => hn (.inr ⟨q.2.1, by omega⟩))⟩
            exact (r_fin0 h8 j8 hN).zb.w f8
        · rw [if_neg (show ¬ (0 ≤ wV x n (nb x n z.1) ∧ wV x n (nb x n z.1) ≤ 35) from fun q => c4 q.2), if_pos (show 35 < wV x n (nb x n z.1) by omega)]
          exact RPo.er (by omega) h5
      · rw [if_neg c3, if_neg (fun q => c3 (h5.2.1.w2.1 q))]
        exact RPo.er (by omega) h5
    · rw [if_neg c2, if_neg c2, if_pos rfl]
      exact RPo.er (by omega) h4
theorem r_turb (hv : VP P) (hq : VQP P) (h : RRd x n b M) (hJ : RJ P T M) (hN : 2000 ≤ N) : RPo x n M (oTb x n b P T) (Mo_readsTurbine N 0 M) := by
  have hn6 := hv.n
  unfold Mo_readsTurbine oTb
  rw [hJ.1.1, show z32 (6 + (qN P : Int)) = ((6 + qN P : Nat) : Int) from by rw [zs (by omega)]; omega, zW_e]
  by_cases h6 : qN P < 6
  · rw [if_pos h6, if_neg (show ¬ ((6 + qN P : Nat) : Int) = 12 by omega)]
    obtain ⟨M1, e1, h1, f1⟩ := h.pass hN
    rw [e1, zBv_s]
    refine RPo.w f1.f.pr ?_
    have j1 := hJ.f f1.f
    obtain ⟨v, e2, hv'⟩ := r_isKept (N := N) h1.2.1
    rw [e2, zB_s]
    rcases hv' with ⟨rfl, ht⟩ | ⟨rfl, ht⟩
    · have hb : Mo_turbineNamed N 0 1 M1 = some (fNm (qT P 13) (mL M1 11 0 7) (qN P) 0, M1) := by
        unfold Mo_turbineNamed
        rw [show z32 (6 * 1) = ((6 * 1 + 0 : Nat) : Int) from by decide, zW_e]
        exact r_named (r := 1) (by omega) hn6 j1.1.1 (fun i hi => (j1.1.2.1 i hi).2.2.2.2.2) (qN P) 0 N (by omega) (by omega)
      have hw7 : mL M1 11 0 7 = wR x n (nb x n b) := h1.2.1.2.2.2.2 ht.1
      have ee : fNm (qT P 12) (wC x n (nb x n b)) (qN P) 0 = fNm (qT P 13) (mL M1 11 0 7) (qN P) 0 := by
        rw [hw7]
        exact fNm_eq (wCR ht.1) (qN P) 0 (fun j _ hj => hq j (by omega))
      have hf := fNm_b (q := qT P 12) (k := wC x n (nb x n b)) (qN P) 0
      rw [if_pos (tNb_t.2 ht), if_pos rfl, hb, zB_s, ← ee]
      by_cases c2 : fNm (qT P 12) (wC x n (nb x n b)) (qN P) 0 = -1
      · rw [if_pos c2, if_pos (show fNm (qT P 12) (wC x n (nb x n b)) (qN P) 0 < 0 by omega), hw7, zW_e]
        obtain ⟨M2, e3, h2, f2⟩ := h1.pass hN
        rw [e3, zBv_s]
        refine RPo.w f2.f.pr ?_
        have j2 := j1.f f2.f
        have go : ∀ k : Int, oKi x n (nb x n (nb x n b)) = k → RPo x n M2 (if oKi x n (nb x n (nb x n b)) = -1 then .inl (1 + 16 * (nb x n (nb x n b) : Int)) else uB (oWord x n (nb x n (nb x n (nb x n b))) 1) fun z0 => uB (oNum x n z0.1 1 2) fun z => uB (oWord x n z.1 2) fun y => uB (oNum x n y.1 0 35) fun c => if pTak P c.2 (qN P) then .inl (3 + 16 * (y.1 : Int)) else oFin x n c.1 (pTur P (oKi x n (nb x n (nb x n b))) z.2 c.2 (wC x n (nb x n b)) (wR x n (nb x n b))) T) (Mo_readsTurbine_125 N 0 ((6 + qN P : Nat) : Int) (wR x n (nb x n b)) 0 ((6 + qN P : Nat) : Int) k M2) := fun k hk => by
          subst hk
          exact r_125 hv h6 oKi_b h2 j2 hN
        rw [r_isWord 19 (by decide) (by decide +kernel) h2.2.1, zB_s]
        by_cases d0 : tWd x n (nb x n (nb x n b)) = some 19
        · rw [if_pos d0, if_neg (show ¬ (1 : Int) = 0 by decide)]
          exact go 0 (by unfold oKi; rw [if_pos d0])
        · rw [if_neg d0, if_pos rfl, r_isWord 20 (by decide) (by decide +kernel) h2.2.1, zB_s]
          by_cases d1 : tWd x n (nb x n (nb x n b)) = some 20
          · rw [if_pos d1, if_neg (show ¬ (1 : Int) = 0 by decide)]
            exact go 1 (by unfold oKi; rw [if_neg d0, if_pos d1])
          · rw [if_neg d1, if_pos rfl, r_isWord 21 (by decide) (by decide +kernel) h2.2.1, zB_s]
            by_cases d2 : tWd x n (nb x n (nb x n b)) = some 21
            · rw [if_pos d2, if_neg (show ¬ (1 : Int) = 0 by decide)]
              exact go 2 (by unfold oKi; rw [if_neg d0, if_neg d1, if_pos d2])
            · rw [if_neg d2, if_pos rfl, r_isWord 22 (by decide) (by decide +kernel) h2.2.1, zB_s]
              by_cases d3 : tWd x n (nb x n (nb x n b)) = some 22
              · rw [if_pos d3, if_neg (show ¬ (1 : Int) = 0 by decide)]
                exact go 3 (by unfold oKi; rw [if_neg d0, if_neg d1, if_neg d2, if_pos d3])
              · rw [if_neg d3, if_pos rfl]
                exact go (-1) (by unfold oKi; rw [if_neg d0, if_neg d1, if_neg d2, if_neg d3])
      · rw [if_neg c2, if_neg (show ¬ fNm (qT P 12) (wC x n (nb x n b)) (qN P) 0 < 0 by omega)]
        exact RPo.er (by omega) h1
    · rw [if_neg (fun q => ht (tNb_t.1 q)), if_neg (show ¬ (1 : Int) = 0 by decide)]
      exact RPo.er (by omega) h1
  · rw [if_neg h6, if_pos (show ((6 + qN P : Nat) : Int) = 12 by omega)]
    exact RPo.er (by omega) h
theorem RJ0.cab {t : Nat} {g v : Int} (h : RJ0 P tb M) (ht : t < qN P) (e56 : mI M' 56 0 (6 + t) = g) (e57 : mI M' 57 0 (6 + t) = v) (e : ∀ s k, (s = 51 ∧ 9 ≤ k) ∨ ((53 ≤ s ∧ s ≤ 57) ∧ 6 ≤ k ∧ ¬ (56 ≤ s ∧ k = 6 + t)) ∨ (s = 58 ∧ 24 ≤ k) ∨ ((s = 59 ∨ s = 60) ∧ k = 1) ∨ (s = 61 ∧ 1000 ≤ k) ∨ (s = 11 ∧ k = 21) → mI M' s 0 k = mI M s 0 k) (eL : ∀ k, mL M' 52 0 k = mL M 52 0 k) : RJ0 (pCab P t g v) tb M' := by
  obtain ⟨h1, h2, h3, h4, h5, h6, h7⟩ := h
  have eT : ∀ s i, s ≠ 4 → s ≠ 5 → qT (pCab P t g v) s i = qT P s i := fun s i h1 h2 => by
    show rU (rU (qT P) 4 t g) 5 t v s i = _
    rw [rU_n (by omega), rU_n (by omega)]
  have e45 : ∀ s i, i ≠ t → qT (pCab P t g v) s i = qT P s i := fun s i hi => by
    show rU (rU (qT P) 4 t g) 5 t v s i = _
    rw [rU_n (by omega), rU_n (by omega)]
  have e4t : qT (pCab P t g v) 4 t = g := by
    show rU (rU (qT P) 4 t g) 5 t v 4 t = _
    rw [rU_n (by omega), rU_s]
  have e5t : qT (pCab P t g v) 5 t = v := rU_s
  refine ⟨(e _ _ (by omega)).trans h1, fun k hk => ?_, fun i hi => ?_, fun k hk => ?_, ?_, ?_, h7.g (fun t k hh => e t k (by omega))⟩
  · obtain ⟨a1, a2, a3, a4, a5, a6⟩ := h2 k hk
    rw [eT 1 k (by omega) (by omega), eT 2 k (by omega) (by omega), eT 3 k (by omega) (by omega), eT 13 k (by omega) (by omega)]
    refine ⟨(e _ _ (by omega)).trans a1, (e _ _ (by omega)).trans a2, (e _ _ (by omega)).trans a3, ?_, ?_, (eL _).trans a6⟩
    · by_cases ek : k = t
      · subst ek; rw [e4t]; exact e56
      · rw [e45 4 k ek]; exact (e _ _ (by omega)).trans a4
    · by_cases ek : k = t
      · subst ek; rw [e5t]; exact e57
      · rw [e45 5 k ek]; exact (e _ _ (by omega)).trans a5
  · rw [eT 7 i (by omega) (by omega)]
    rcases h3 i hi with ⟨a1, a2, a3⟩ | ⟨a1, a2⟩
    · exact .inl ⟨(e _ _ (by omega)).trans a1, a2, by rw [eT (8 + i) 0 (by omega) (by omega)]; exact a3⟩
    · exact .inr ⟨(e _ _ (by omega)).trans a1, fun k hk => by rw [eT (8 + i) k (by omega) (by omega)]; exact (e _ _ (by omega)).trans (a2 k hk)⟩
  · rw [eT 6 k (by omega) (by omega)]; exact (e _ _ (by omega)).trans (h4 k hk)
  · rw [eT 11 0 (by omega) (by omega)]; exact (e _ _ (by omega)).trans h5
  · rw [eT 11 1 (by omega) (by omega)]; exact (e _ _ (by omega)).trans h6
theorem r_113 {t : Nat} {g : Int} (hv : VP P) (ht : t < qN P) (h : RRd x n b M) (hJ : RJ P T M) (hN : 2000 ≤ N) : RPo x n M (uB (oWord x n (nb x n b) 6) fun y => uB (oNum x n y.1 1 200) fun v => oFin x n v.1 (pCab P t g v.2) T) (Mo_readsCable_113 N 0 ((6 + t : Nat) : Int) g M) := by
  have hn6 := hv.n
  unfold Mo_readsCable_113
  rw [uB_both]
  obtain ⟨M1, e1, h1, f1⟩ := h.pass hN
  rw [e1, zBv_s]
  refine RPo.w f1.f.pr ?_
  have j1 := hJ.f f1.f
  refine RPo.bd (r_needsBoth 6 (by decide) (by decide +kernel) h1 hN) (fun v M2 ov h2 q2 f2 => ?_)
  have j2 := j1.f f2
  have i12 : (0 : Int) ≤ ((6 + t : Nat) : Int) ∧ ((6 + t : Nat) : Int) < 12 := by omega
  rw [zI_t i12, zW_e, zI_t i12, zW_e, Int.toNat_natCast, mI_pI_ne (by omega), q2]
  have f3 : zrF fPr M2 (pI (pI M2 56 0 (6 + t) g) 57 0 (6 + t) v.2) := (zrF.p (.inr ⟨rfl, by omega⟩)).tr (zrF.p (.inr ⟨rfl, by omega⟩))
  have h3 : RRd x n v.1 (pI (pI M2 56 0 (6 + t) g) 57 0 (6 + t) v.2) := (h2.p (by decide) (by omega)).p (by decide) (by omega)
  have j3 : RJ (pCab P t g v.2) T (pI (pI M2 56 0 (6 + t) g) 57 0 (6 + t) v.2) := ⟨j2.1.cab ht ((mI_pI_ne (by omega)).trans mI_pI_eq) mI_pI_eq (fun s k hh => (mI_pI_ne (by omega)).trans (mI_pI_ne (by omega))) (fun _ => rfl), j2.2.g ((mI_pI_ne (by omega)).trans (mI_pI_ne (by omega)))⟩
  exact (r_fin0 h3 j3 hN).zb.w f3
theorem r_cable (hv : VP P) (hq : VQP P) (h : RRd x n b M) (hJ : RJ P T M) (hN : 2000 ≤ N) : RPo x n M (oCb x n b P T) (Mo_readsCable N 0 M) := by
  have hn6 := hv.n
  unfold Mo_readsCable oCb
  obtain ⟨M1, e1, h1, f1⟩ := h.pass hN
  rw [e1, zBv_s]
  refine RPo.w f1.f.pr ?_
  have j1 := hJ.f f1.f
  have nm : ∀ {M}, RJ P T M → RNm 1 (qN P) (qT P 13) M := fun j => ⟨by omega, j.1.1, hn6, fun i hi => (j.1.2.1 i hi).2.2.2.2.2⟩
  refine RPo.bd (r_needsTurbine (r := 1) (q := qT P 12) h1 (nm j1) hq hN) (fun t M2 ot h2 q2 f2 => ?_)
  have rt := oTur_r ot
  have j2 := j1.f f2
  have e6 : z32 (6 + t.2) = ((6 + t.2.toNat : Nat) : Int) := by rw [zs (by omega)]; omega
  rw [q2, e6, zW_e, zI_t (by omega), Int.toNat_natCast, (j2.1.2.1 t.2.toNat (by omega)).2.2.2.1]
  clear e6
  have hg := hv.g (k := t.2.toNat) (by omega)
  by_cases c1 : qT P 4 t.2.toNat = -1
  · rw [if_pos c1, if_pos (show qT P 4 t.2.toNat < 0 by omega)]
    obtain ⟨M3, e3, h3, f3⟩ := h2.pass hN
    rw [e3, zBv_s]
    refine RPo.w f3.f.pr ?_
    have j3 := j2.f f3.f
    unfold oGl
    rw [r_isWord 4 (by decide) (by decide +kernel) h3.2.1, zB_s]
    by_cases d4 : tWd x n (nb x n t.1) = some 4
    · have d5 : ¬ tWd x n (nb x n t.1) = some 5 := by rw [d4]; decide
      rw [if_neg d5, if_pos d4, if_pos d4, if_neg (show ¬ (1 : Int) = 0 by decide), uB_as]
      obtain ⟨M4, e4, h4, f4⟩ := h3.pass hN
      rw [e4, zBv_s]
      refine RPo.w f4.f.pr ?_
      have j4 := j3.f f4.f
      refine RPo.bd (r_needsTurbine (r := 1) (q := qT P 12) h4 (nm j4) hq hN) (fun g M5 og h5 q5 f5 => ?_)
      have rg := oTur_r og
      have j5 := j4.f f5
      have e6 : z32 (6 + g.2) = ((6 + g.2.toNat : Nat) : Int) := by rw [zs (by omega)]; omega
      rw [q5, e6, zI_t (by omega), Int.toNat_natCast, (j5.1.2.1 g.2.toNat (by omega)).2.2.2.1]
      clear e6
      have hg2 := hv.g (k := g.2.toNat) (by omega)
      by_cases c2 : qT P 4 g.2.toNat = -1
      · rw [if_pos c2, if_pos (show qT P 4 g.2.toNat < 0 by omega)]
        exact RPo.er (by omega) h5
      · rw [if_neg c2, if_neg (show ¬ qT P 4 g.2.toNat < 0 by omega), zW_e]
        exact r_113 hv (by omega) h5 j5 hN
    · rw [if_neg d4, if_neg d4, if_pos rfl, r_isWord 5 (by decide) (by decide +kernel) h3.2.1, zB_s]
      by_cases d5 : tWd x n (nb x n t.1) = some 5
      · rw [if_pos d5, if_pos d5, if_neg (show ¬ (1 : Int) = 0 by decide)]
        exact r_113 hv (by omega) h3 j3 hN
      · rw [if_neg d5, if_neg d5, if_pos rfl]
        exact RPo.er (by omega) h3
  · rw [if_neg c1, if_neg (show ¬ qT P 4 t.2.toNat < 0 by omega)]
    exact RPo.er (by omega) h2
theorem r_parkLine (hv : VP P) (hq : VQP P) (h : RRd x n b M) (hJ : RJ P T M) (hN : 2000 ≤ N) : RPo x n M (oPl x n b P T) (Mo_readsPark N 0 M) := by
  unfold Mo_readsPark oPl
  have o1 : ¬ (1 : Int) = 0 := by decide
  rw [r_isWord 0 (by decide) (by decide +kernel) h.2.1, zB_s]
  by_cases d0 : tWd x n b = some 0
  · rw [if_pos d0, if_pos d0, if_neg o1]
    exact (r_turb hv hq h hJ hN).zb
  · rw [if_neg d0, if_neg d0, if_pos rfl, r_isWord 3 (by decide) (by decide +kernel) h.2.1, zB_s]
    by_cases d1 : tWd x n b = some 3
    · rw [if_pos d1, if_pos d1, if_neg o1]
      exact (r_cable hv hq h hJ hN).zb
    · rw [if_neg d1, if_neg d1, if_pos rfl, r_isWord 7 (by decide) (by decide +kernel) h.2.1, zB_s]
      by_cases d2 : tWd x n b = some 7
      · rw [if_pos d2, if_pos d2, if_neg o1]
        exact (r_row (j := 0) rfl (by omega) hv h hJ hN).zb
      · rw [if_neg d2, if_neg d2, if_pos rfl, r_isWord 8 (by decide) (by decide +kernel) h.2.1, zB_s]
        by_cases d3 : tWd x n b = some 8
        · rw [if_pos d3, if_pos d3, if_neg o1]
          exact (r_row (j := 1) rfl (by omega) hv h hJ hN).zb
        · rw [if_neg d3, if_neg d3, if_pos rfl, r_isWord 9 (by decide) (by decide +kernel) h.2.1, zB_s]
          by_cases d4 : tWd x n b = some 9
          · rw [if_pos d4, if_pos d4, if_neg o1]
            exact (r_row (j := 2) rfl (by omega) hv h hJ hN).zb
          · rw [if_neg d4, if_neg d4, if_pos rfl, r_isWord 10 (by decide) (by decide +kernel) h.2.1, zB_s]
            by_cases d5 : tWd x n b = some 10
            · rw [if_pos d5, if_pos d5, if_neg o1]
              exact (r_wakes h hJ hN).zb
            · rw [if_neg d5, if_neg d5, if_pos rfl, r_isWord 11 (by decide) (by decide +kernel) h.2.1, zB_s]
              by_cases d6 : tWd x n b = some 11
              · rw [if_pos d6, if_pos d6, if_neg o1]
                exact (r_one (i := 0) (by omega) rfl h hJ hN).zb
              · rw [if_neg d6, if_neg d6, if_pos rfl, r_isWord 12 (by decide) (by decide +kernel) h.2.1, zB_s]
                by_cases d7 : tWd x n b = some 12
                · rw [if_pos d7, if_pos d7, if_neg o1]
                  exact (r_one (i := 1) (by omega) rfl h hJ hN).zb
                · rw [if_neg d7, if_neg d7, if_pos rfl, r_isWord 13 (by decide) (by decide +kernel) h.2.1, zB_s]
                  by_cases d8 : tWd x n b = some 13
                  · rw [if_pos d8, if_pos d8, if_neg o1]
                    exact (r_gives h hJ hN).zb
                  · rw [if_neg d8, if_neg d8, if_pos rfl]
                    exact RPo.er (by omega) h
end RPK2
