section CDY2
variable {N n b m c : Nat} {x : Nat → Int} {q q' : Nat → Int} {A : AK} {M M' : ZM}
def fDz (t i k : Nat) : Prop := fDy t i k ∨ (t = 8 ∧ i = 0 ∧ k = 1) ∨ ((t = 3 ∨ t = 26) ∧ i = 13)
def CDy (M : ZM) (o : Int ⊕ List Int) (r : Option (Int × ZM)) : Prop := match o with
  | .inl e => ∃ M', r = some (e, M') ∧ mI M' 8 0 1 = 0 ∧ (∀ t k, t = 3 ∨ t = 26 → mI M' t 13 k = mI M t 13 k) ∧ zcF fDz M M'
  | .inr l => ∃ M', r = some (0, M') ∧ mI M' 8 0 1 = 0 ∧ CN 13 l M' ∧ zcF fDz M M'
theorem zcF.z (h : zcF fDy M M') : zcF fDz M M' := h.mo (fun _ _ _ q => .inl q)
theorem zcF.k13 (h : zcF fDy M M') {t k : Nat} (ht : t = 3 ∨ t = 26) : mI M' t 13 k = mI M t 13 k := h.2.2.1 _ _ _ (by unfold fDy fRd; omega)
theorem CDy.w {o : Int ⊕ List Int} {M0 : ZM} {r : Option (Int × ZM)} (f : zcF fDy M0 M) (h : CDy M o r) : CDy M0 o r := by
  unfold CDy at h ⊢
  cases o with
  | inl e => obtain ⟨M', a, b, c, g⟩ := h; exact ⟨M', a, b, fun t k ht => (c t k ht).trans (f.k13 ht), f.z.tr g⟩
  | inr z => obtain ⟨M', a, b, c, g⟩ := h; exact ⟨M', a, b, c, f.z.tr g⟩
theorem c_day62e {e : Int} (h : mI M 5 0 3 = e) (he : e ≠ 0) : CDy M (.inl e) (Re_readDay_62 N 0 13 M) := by
  unfold Re_readDay_62 Ta_clear
  rw [zW_e, zBv_s, mI_pI_ne (by omega), h, if_neg he]
  exact ⟨_, rfl, mI_pI_eq, fun t k ht => mI_pI_ne (by omega), zcF.p (.inr (.inl ⟨rfl, rfl, rfl⟩))⟩
theorem c_day62 {l : List Int} (h : mI M 5 0 3 = 0) (hl : CN 6 l M) (h40 : l.length ≤ 40) : CDy M (.inr l) (Re_readDay_62 N 0 13 M) := by
  unfold Re_readDay_62 Ta_clear
  rw [zW_e, zBv_s, mI_pI_ne (by omega), h, if_pos rfl]
  obtain ⟨M1, e1, f1, l1⟩ := c_ncopy (N := N) (M := pI M 8 0 1 0) (q := 13) (r := 6) (l := l) (by omega) (hl.g (fun t k ht => mI_pI_ne (by omega))) (by show _ ≤ 40; omega) (by show _ ≤ 40; omega)
  rw [e1, zBv_s, f1.2 _ _ _ (by simp), mI_pI_ne (by omega), h]
  have f2 : zcF fDz (pI M 8 0 1 0) M1 := f1.cF (fun t i k hs => by simp at hs; right; right; omega)
  exact ⟨M1, rfl, by rw [f1.2 _ _ _ (by simp), mI_pI_eq], l1, (zcF.p (.inr (.inl ⟨rfl, rfl, rfl⟩))).tr f2⟩
theorem c_day27 {p : Nat} (hN : 2000 ≤ N) : ∀ (f j b g : Nat) (l : List Int) (M : ZM), j ≤ b → j ≤ 1000 → n < b + f → 1001 - j < g → CRd x n b M → CNm p m q M → CN 6 l M → VL m l → CDy M (oDay x n q m f b l) (Re_readDay_27 N g 0 13 j M) := by
  intro f
  induction f with
  | zero => intro j b g l M _ _ h1 _ h2; have := h2.2.2.1; omega
  | succ f ih =>
    intro j b g l M hj hj2 hf hg h hq hl hv
    obtain ⟨g, rfl⟩ : ∃ g', g = g' + 1 := ⟨g - 1, by omega⟩
    have hn := h.1.2.2
    have hb := h.2.2.1
    rw [oDay, Re_readDay_27, h.2.2.2, h.2.1.2.2.1]
    by_cases c0 : tKi x n b = 0
    · rw [if_pos c0, if_pos c0, if_pos rfl]
      have := c_day62 (N := N) h.2.2.2 hl hv.1
      by_cases c1 : (j : Int) < 1000
      · rw [if_pos c1]; exact this
      · rw [if_neg c1]; exact this
    · have hlt := (tNx_gt c0).1
      rw [if_neg c0, if_neg c0, if_pos rfl, if_pos (show (j : Int) < 1000 by omega), zsucc (by omega)]
      have hs := c_line (N := N) h hq hl hN
      unfold CD at hs
      cases ho : oLine x n b q m l with
      | inl e =>
        rw [ho] at hs
        obtain ⟨M1, a1, a2, a3, a4, a5⟩ := hs
        rw [a1, zB_s, zW_e]
        obtain ⟨g, rfl⟩ : ∃ g', g = g' + 1 := ⟨g - 1, by omega⟩
        rw [Re_readDay_27, a2, if_neg a3]
        have := (c_day62e (N := N) a2 a3).w a5
        by_cases c1 : ((j + 1 : Nat) : Int) < 1000
        · rw [if_pos c1]; exact this
        · rw [if_neg c1]; exact this
      | inr z =>
        rw [ho] at hs
        obtain ⟨M1, a1, a2, a3, a5⟩ := hs
        rw [a1, zB_s, zW_e]
        have r := oLine_r hb hq.2.2.1 hv ho
        have hq1 : CNm p m q M1 := ⟨(a5.2.1 2 (by omega)).trans hq.1, (a5.2.2.1 _ _ _ (by unfold fDy fRd; omega)).trans hq.2.1, hq.2.2.1, fun i hi => (a5.2.2.2 _ _ _ (by omega) (by unfold fDy fRd; omega)).trans (hq.2.2.2 i hi)⟩
        exact (ih (j + 1) z.1 g z.2 M1 (by omega) (by omega) (by omega) (by omega) a2 hq1 a3 r.2.2).w a5
theorem CTp.of (h : CTp n x M) (e : ∀ t i k, (t = 8 ∧ k = 1) ∨ t = 42 → mI M' t i k = mI M t i k) : CTp n x M' := h.g e
/-- the class reads a day -/
theorem w_day (h : CA A M) (hv : VA c A) (hN : 2000 ≤ N) : ∃ M', Wp_day N 0 M = some ((dDay A).1, M') ∧ CA (dDay A).2 M' ∧ zCl M M' := by
  obtain ⟨h1, ⟨p, h2, h3⟩, h4, h5, h6, h7, h8, h9, h10⟩ := id h
  have hp2 := h3.p2
  have hT := hv.2.2.2.2.2.2.1
  unfold Wp_day Re_readDay Ta_start
  rw [h2.1, zO_s, zW_e, zW_e, zW_e, zW_e]
  generalize hM0 : pI (pI (pI (pR M (zsr (mR M) 2 (some p))) 5 0 3 0) 3 6 1 0) 8 0 7 0 = M0
  have q0 : ∀ t i k, ¬ (t = 5 ∧ i = 0 ∧ k = 3) → ¬ (t = 3 ∧ i = 6 ∧ k = 1) → ¬ (t = 8 ∧ i = 0 ∧ k = 7) → mI M0 t i k = mI M t i k := fun t i k a1 a2 a3 => by
    rw [← hM0, mI_pI_ne a3, mI_pI_ne a2, mI_pI_ne a1]; rfl
  have L0 : ∀ t i k, mL M0 t i k = mL M t i k := fun t i k => by rw [← hM0]; rfl
  have K0 : mK M0 = mK M := by rw [← hM0]; rfl
  have R0 : mR M0 = zsr (mR M) 2 (some p) := by rw [← hM0]; rfl
  have km0 : KM M0 := by obtain ⟨sl, sx, hk⟩ := h1; exact ⟨sl, sx, K0.trans hk⟩
  have t0 : cTp (aT A) (aX A) M0 := ⟨⟨(q0 _ _ _ (by omega) (by omega) (by omega)).trans h10.1, fun k hk => (q0 _ _ _ (by omega) (by omega) (by omega)).trans (h10.2 k hk)⟩, km0, hT⟩
  obtain ⟨M1, e1, t1, f1⟩ := c_pass (N := N) (p := 0) hN (Nat.zero_le _) t0 (by rw [← hM0, mI_pI_eq]; rfl)
  rw [e1, zBv_s, zBv_s]
  have c1 : CRd (aX A) (aT A) (tE pBl (aX A) (aT A) 0) M1 := ⟨t0.g f1, t1, (tE_le (Nat.zero_le _)).2, by rw [f1.2.2.1 _ _ _ (by omega), ← hM0, mI_pI_ne (by omega), mI_pI_ne (by omega), mI_pI_eq]⟩
  have l1 : CN 6 [] M1 := ⟨by rw [f1.2.2.1 _ _ _ (by omega), ← hM0, mI_pI_ne (by omega), mI_pI_eq]; rfl, fun i hi => absurd hi (by simp)⟩
  have n1 : CNm p (qN (aP A)) (fun k => qT (aP A) 12 k) M1 := ⟨by rw [f1.2.1 2 (by omega), R0]; rfl, by rw [f1.2.2.1 _ _ _ (by omega), q0 _ _ _ (by omega) (by omega) (by omega)]; exact h3.1, hv.1.n, fun i hi => by rw [f1.2.2.2 _ _ _ (by omega), L0]; exact h3.nm hi⟩
  have hs := c_day27 (N := N) (p := p) (q := fun k => qT (aP A) 12 k) hN 1001 0 _ N [] M1 (by omega) (by omega) (by omega) (by omega) c1 n1 l1 ⟨by simp, fun y hy => by simp at hy⟩
  have fin : ∀ M', zcF fDz M1 M' → mI M' 8 0 1 = 0 → ∀ l, CN 13 l M' → CA (aP A, aS A, l, aV A, aM A, aH A, 0, aX A) M' ∧ zCl M M' := fun M' f e8 l hl => by
    have Q : ∀ t i k, ¬ fDz t i k → ¬ (t = 3 ∧ i = 6 ∧ k = 1) → mI M' t i k = mI M t i k := fun t i k a1 a2 => by
      rw [f.2.2.1 t i k a1, f1.2.2.1 _ _ _ (by unfold fDz fDy fRd at a1; omega), q0 _ _ _ (by unfold fDz fDy fRd at a1; omega) a2 (by unfold fDz fDy fRd at a1; omega)]
    have LQ : ∀ t i k, t ≠ 8 → t ≠ 5 → t ≠ 3 → t ≠ 26 → mL M' t i k = mL M t i k := fun t i k a1 a2 a3 a4 => by
      rw [f.2.2.2 t i k (by omega) (by unfold fDz fDy fRd; omega), f1.2.2.2 _ _ _ (by omega), L0]
    have KQ : mK M' = mK M := f.1.trans (f1.1.trans K0)
    have RQ : ∀ k, k < 2 → zrg (mR M') k = zrg (mR M) k := fun k hk => by
      rw [f.2.1 k (by omega), f1.2.1 k (by omega), R0]
      have : k = 0 ∨ k = 1 := by omega
      rcases this with rfl | rfl <;> rfl
    have Qe : ∀ t i k, t ≠ 8 → t ≠ 5 → ¬ ((t = 3 ∨ t = 26) ∧ (i = 6 ∨ i = 13)) → mI M' t i k = mI M t i k := fun t i k a1 a2 a3 => Q t i k (by unfold fDz fDy fRd; omega) (by omega)
    obtain ⟨sl, sx, hk⟩ := h1
    refine ⟨⟨⟨sl, sx, KQ.trans hk⟩, ⟨p, ⟨(RQ 0 (by omega)).trans h2.1, (RQ 1 (by omega)).trans h2.2⟩, h3.gi (fun t i k ht => Qe t i k (by omega) (by omega) (by omega)) (fun i k => LQ _ _ _ (by omega) (by omega) (by omega) (by omega))⟩, h4.g (fun t k ht => Qe _ _ _ (by omega) (by omega) (by omega)), hl, h6.g (fun t k ht => Qe _ _ _ (by omega) (by omega) (by omega)), fun m' hm' => (h7 m' hm').g (Qe _ _ _ (by omega) (by omega) (by omega)) (fun t k ht => Qe _ _ _ (by omega) (by omega) (by omega)) (fun t i k ht hi => Qe _ _ _ (by omega) (by omega) (by omega)), h8.g (fun k _ => Qe _ _ _ (by omega) (by omega) (by omega)) (fun t i k ht _ _ => Qe _ _ _ (by omega) (by omega) (by omega)), h9.g (fun t i k ht => Qe _ _ _ (by omega) (by omega) (by omega)), e8, fun k hk => absurd hk (by show ¬ k < 0; omega)⟩, KQ, fun t i k hrk => ?_, fun t i k hrk => ?_⟩
    · have : t = 11 ∨ 50 ≤ t := by simp [rk] at hrk; omega
      exact Qe _ _ _ (by omega) (by omega) (by omega)
    · have : t = 11 ∨ 50 ≤ t := by simp [rk] at hrk; omega
      exact LQ _ _ _ (by omega) (by omega) (by omega) (by omega)
  unfold CDy at hs
  unfold dDay
  rw [show ((0 : Nat) : Int) = 0 from rfl] at hs
  cases ho : oDay (aX A) (aT A) (fun k => qT (aP A) 12 k) (qN (aP A)) 1001 (tE pBl (aX A) (aT A) 0) [] with
  | inl e =>
    rw [ho] at hs
    obtain ⟨M', a1, a2, a3, a4⟩ := hs
    rw [a1, zB_s]
    obtain ⟨r1, r2⟩ := fin M' a4 a2 (aL A) (h5.g (fun t k ht => by rw [a3 t k ht, f1.2.2.1 _ _ _ (by omega), q0 _ _ _ (by omega) (by omega) (by omega)]))
    exact ⟨M', rfl, r1, r2⟩
  | inr l =>
    rw [ho] at hs
    obtain ⟨M', a1, a2, a3, a4⟩ := hs
    rw [a1, zB_s]
    obtain ⟨r1, r2⟩ := fin M' a4 a2 l a3
    exact ⟨M', rfl, r1, r2⟩
end CDY2
