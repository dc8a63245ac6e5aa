section RDY2
variable {N n b m c : Nat} {x : Nat → Int} {q q' : Nat → Int} {A : AK} {M M' : ZM}
/-- the names of the park in both kinds of key -/
def VQ (A : AK) : Prop := ∀ k, k < qN (aP A) → zNm (qT (aP A) 12 k) (qT (aP A) 13 k)
def fDq (t i k : Nat) : Prop := fDr t i k ∨ (i = 0 ∧ ((t = 74 ∧ k = 0) ∨ (75 ≤ t ∧ t ≤ 77 ∧ k < 40)))
def RDy (M : ZM) (o : Int ⊕ List Int) (r : Option (Int × ZM)) : Prop := match o with
  | .inl e => ∃ M', r = some (e, M') ∧ zrF fDr M M'
  | .inr l => ∃ M', r = some (0, M') ∧ (mI M' 74 0 0 = (l.length : Int) ∧ RN 0 l M') ∧ zrF fDq M M'
theorem zrF.dq (h : zrF fDr M M') : zrF fDq M M' := h.mo (fun _ _ _ q => .inl q)
theorem RDy.w {o : Int ⊕ List Int} {M0 : ZM} {r : Option (Int × ZM)} (f : zrF fDr M0 M) (h : RDy M o r) : RDy M0 o r := by
  unfold RDy at h ⊢
  cases o with
  | inl e => obtain ⟨M', a, g⟩ := h; exact ⟨M', a, f.tr g⟩
  | inr z => obtain ⟨M', a, c, g⟩ := h; exact ⟨M', a, c, f.dq.tr g⟩
theorem RTok.w0 (h : RTok x n b M) : mI M 11 0 6 = 0 ↔ tKi x n b = 0 := by
  rw [h.2.2.1]
  by_cases c : tKi x n b = 3
  · rw [if_pos c]; omega
  · rw [if_neg c]
    by_cases c2 : 3 < tKi x n b
    · rw [if_pos c2]; omega
    · rw [if_neg c2]
theorem r_day16 (hN : 2000 ≤ N) (hz : ∀ i, i < m → zNm (q i) (q' i)) : ∀ (f b g : Nat) (l : List Int) (M : ZM), n < b + f → n - b + 1 < g → RRd x n b M → RNm 0 m q' M → (mI M 74 0 5 = (l.length : Int) ∧ RN 200 l M) → VL m l → RDy M (oDay x n q m f b l) (Mo_day_16 N g 0 M) := by
  intro f
  induction f with
  | zero => intro b g l M h1 _ h2; have := h2.2.2; omega
  | succ f ih =>
    intro b g l M hf hg h hq hl hv
    obtain ⟨g, rfl⟩ : ∃ g', g = g' + 1 := ⟨g - 1, by omega⟩
    have hb := h.2.2
    have h40 := hv.1
    rw [oDay, Mo_day_16]
    by_cases c0 : tKi x n b = 0
    · rw [if_pos c0, if_pos (h.2.1.w0.2 c0)]
      obtain ⟨M1, e1, k1, g1, g2, r1⟩ := r_laysLines (N := N) (M := M) (a := 5) (b := 0) (by omega) (by omega) (by omega) hN
      rw [show ((5 : Nat) : Int) = 5 from rfl, show ((0 : Nat) : Int) = 0 from rfl] at e1
      rw [e1, zBv_s]
      refine ⟨M1, rfl, ⟨by rw [g1, hl.1], fun i hi => ?_⟩, mK_2 k1, mR_2 k1, fun t i k a => r1 t i k (fun p => a (.inr (by omega))) (fun p => a (.inr (by omega))), fun t i k _ _ => mL_2 k1 _ _ _⟩
      have gl : ∀ t, 75 ≤ t ∧ t ≤ 77 → mI M1 t 0 (0 + i) = mI M t 0 (200 + i) := fun t ht => by
        have := g2 t i ht (by omega)
        rw [Nat.mul_zero] at this
        exact this
      rw [gl _ (by omega), gl _ (by omega), gl _ (by omega)]
      exact hl.2 i hi
    · have hlt := (tNx_gt c0).1
      rw [if_neg c0, if_neg (fun p => c0 (h.2.1.w0.1 p))]
      have hs := r_line (N := N) (q := q) h hq hz hl h40 hN
      unfold RD' at hs
      cases ho : oLine x n b q m l with
      | inl e =>
        rw [ho] at hs
        obtain ⟨M1, a1, a2, a5⟩ := hs
        rw [a1, zB_s, if_pos rfl, a2]
        exact ⟨M1, rfl, a5⟩
      | inr z =>
        rw [ho] at hs
        obtain ⟨M1, a1, a2, a3, a5⟩ := hs
        rw [a1, zB_s, if_neg (by decide)]
        have r := oLine_r hb hq.2.2.1 hv ho
        have hq1 : RNm 0 m q' M1 := ⟨hq.1, (a5.2.2.1 _ _ _ (by unfold fDr fRr; omega)).trans hq.2.1, hq.2.2.1, fun i hi => (a5.2.2.2 _ _ _ (by omega) (by unfold fDr fRr; omega)).trans (hq.2.2.2 i hi)⟩
        exact (ih z.1 g z.2 M1 (by omega) (by omega) a2 hq1 a3 r.2.2).w a5
/-- the reference reads a day -/
theorem m_day (h : RA A M) (hv : VA c A) (hQ : VQ A) (hN : 2000 ≤ N) : ∃ M', Mo_day N 0 M = some ((dDay A).1, M') ∧ RA (dDay A).2 M' ∧ zRl M M' := by
  obtain ⟨h1, h2, h3, h4, h5, h6, h7, h8⟩ := id h
  have hT := hv.2.2.2.2.2.2.1
  have hL := hv.2.2.1.1
  unfold Mo_day Mo_begins
  rw [zW_e, zW_e, zW_e, zW_e, zW_e]
  have e11 : mI (pI (pI M 11 0 0 0) 74 0 5 0) 11 0 1 = (aT A : Int) := by rw [mI_pI_ne (by omega), mI_pI_ne (by omega)]; exact h8.1
  rw [e11]
  generalize hM0 : pI (pI (pI (pI (pI M 11 0 0 0) 74 0 5 0) 11 0 3 (aT A : Int)) 11 0 1 0) 11 0 4 0 = M0
  have q0 : ∀ t i k, ¬ (t = 11 ∧ i = 0 ∧ (k = 0 ∨ k = 3 ∨ k = 1 ∨ k = 4)) → ¬ (t = 74 ∧ i = 0 ∧ k = 5) → mI M0 t i k = mI M t i k := fun t i k a1 a2 => by
    rw [← hM0, mI_pI_ne (by omega), mI_pI_ne (by omega), mI_pI_ne (by omega), mI_pI_ne (by omega), mI_pI_ne (by omega)]
  have k0 : M0.2 = M.2 := by rw [← hM0]; rfl
  have t0 : rTp (aT A) (aX A) M0 := ⟨by rw [← hM0, mI_pI_ne (by omega), mI_pI_ne (by omega), mI_pI_eq], fun k hk => by rw [q0 _ _ _ (by omega) (by omega)]; exact h8.2 k hk, hT⟩
  obtain ⟨M1, e1, t1, f1⟩ := r_pass (N := N) (p := 0) hN (Nat.zero_le _) t0 (by rw [← hM0, mI_pI_eq]; rfl)
  rw [e1, zBv_s, zBv_s]
  have c1 : RRd (aX A) (aT A) (tE pBl (aX A) (aT A) 0) M1 := ⟨t0.g f1, t1, (tE_le (Nat.zero_le _)).2⟩
  have l1 : mI M1 74 0 5 = (([] : List Int).length : Int) ∧ RN 200 [] M1 := ⟨by rw [f1.2.2.1 _ _ _ (by omega), ← hM0, mI_pI_ne (by omega), mI_pI_ne (by omega), mI_pI_ne (by omega), mI_pI_eq]; rfl, fun i hi => absurd hi (by simp)⟩
  have n1 : RNm 0 (qN (aP A)) (fun k => qT (aP A) 13 k) M1 := ⟨by omega, by rw [f1.2.2.1 _ _ _ (by omega), q0 _ _ _ (by omega) (by omega)]; exact h2.1, hv.1.n, fun i hi => by rw [f1.2.2.2 _ _ _ (by omega), mL_2 k0, show 6 * 0 + i = i by omega]; exact (h2.2.1 i hi).2.2.2.2.2⟩
  have hs := r_day16 (N := N) (q := fun k => qT (aP A) 12 k) hN hQ 1001 _ N [] M1 (by omega) (by omega) c1 n1 l1 ⟨by simp, fun y hy => by simp at hy⟩
  have fin : ∀ M', zrF fDq M1 M' → ∀ l, (mI M' 74 0 0 = (l.length : Int) ∧ RN 0 l M') → RA (aP A, aS A, l, aV A, aM A, aH A, 0, aX A) M' ∧ zRl M M' := fun M' f l hl => by
    have Q : ∀ t i k, ¬ fDq t i k → ¬ (t = 11 ∧ i = 0 ∧ (k = 0 ∨ k = 3 ∨ k = 1)) → mI M' t i k = mI M t i k := fun t i k a1 a2 => by
      rw [f.2.2.1 t i k a1, f1.2.2.1 _ _ _ (by unfold fDq fDr fRr at a1; omega), q0 _ _ _ (by unfold fDq fDr fRr at a1; omega) (by unfold fDq fDr fRr at a1; omega)]
    have LQ : ∀ t i k, t ≠ 11 → t ≠ 74 → ¬ (75 ≤ t ∧ t ≤ 77) → mL M' t i k = mL M t i k := fun t i k a1 a2 a3 => by
      rw [f.2.2.2 t i k (by omega) (by unfold fDq fDr fRr; omega), f1.2.2.2 _ _ _ (by omega), mL_2 k0]
    have Qe : ∀ t i k, t ≠ 11 → ¬ (74 ≤ t ∧ t ≤ 77) → mI M' t i k = mI M t i k := fun t i k a1 a2 => Q t i k (by unfold fDq fDr fRr; omega) (by omega)
    obtain ⟨sl, sx, hk⟩ := h1
    have KQ : mK M' = mK M := f.1.trans (f1.1.trans (mK_2 k0))
    have e1' : mI M' 11 0 1 = 0 := by rw [f.2.2.1 _ _ _ (by unfold fDq fDr fRr; omega), f1.2.2.1 _ _ _ (by omega), ← hM0, mI_pI_ne (by omega), mI_pI_eq]
    refine ⟨⟨⟨sl, sx, KQ.trans hk⟩, h2.gg (fun t k ht => Qe _ _ _ (by omega) (by omega)) (fun k => LQ _ _ _ (by omega) (by omega) (by omega)), h3.g (fun k _ _ => Qe _ _ _ (by omega) (by omega)), hl, ⟨(Qe _ _ _ (by omega) (by omega)).trans h5.1, h5.2.g (fun t k ht _ _ => Qe _ _ _ (by omega) (by omega))⟩, fun m' hm' => ?_, h7.g (Q _ _ _ (by unfold fDq fDr fRr; omega) (by omega)) (fun k => Qe _ _ _ (by omega) (by omega)), e1', fun k hk => absurd hk (by show ¬ k < 0; omega)⟩, KQ, f.2.1.trans (f1.2.1.trans (mR_2 k0)), fun t i k hrk => ?_, fun t i k hrk => ?_⟩
    · rcases h6 m' hm' with ⟨n1, n2⟩ | ⟨z, n1, n2⟩
      · exact .inl ⟨n1, (Qe _ _ _ (by omega) (by omega)).trans n2⟩
      · have v5 := hv.2.2.2.2.1 m' hm' z n1
        have v6 := v5.2.1.1
        refine (h6 m' hm').g (fun t k ht a1 a2 a3 a4 a5 => Q _ _ _ (fun hh => ?_) (by omega))
        unfold fDq fDr fRr at hh
        by_cases t5 : 75 ≤ t ∧ t ≤ 77
        · have b1 := (a4 t5).1
          have b2 := (a4 t5).2 z n1
          omega
        · omega
    · have := rk_ne hrk
      exact Qe _ _ _ (by omega) (by omega)
    · have := rk_ne hrk
      exact LQ _ _ _ (by omega) (by omega) (by omega)
  unfold RDy at hs
  unfold dDay
  cases ho : oDay (aX A) (aT A) (fun k => qT (aP A) 12 k) (qN (aP A)) 1001 (tE pBl (aX A) (aT A) 0) [] with
  | inl e =>
    rw [ho] at hs
    obtain ⟨M', a1, a4⟩ := hs
    rw [a1]
    obtain ⟨r1, r2⟩ := fin M' a4.dq (aL A) ⟨by rw [a4.2.2.1 _ _ _ (by unfold fDr fRr; omega), f1.2.2.1 _ _ _ (by omega), q0 _ _ _ (by omega) (by omega)]; exact h4.1, h4.2.g (fun t k ht hk hk' => by rw [a4.2.2.1 _ _ _ (by unfold fDr fRr; omega), f1.2.2.1 _ _ _ (by omega), q0 _ _ _ (by omega) (by omega)])⟩
    exact ⟨M', rfl, r1, r2⟩
  | inr l =>
    rw [ho] at hs
    obtain ⟨M', a1, a3, a4⟩ := hs
    rw [a1]
    obtain ⟨r1, r2⟩ := fin M' a4 l a3
    exact ⟨M', rfl, r1, r2⟩
end RDY2
