section CPARK
variable {N n b p c T : Nat} {x : Nat → Int} {P : PK} {A : AK} {M M' : ZM}
/-- a park of which nothing is told -/
def pUs : PK := (0, (fun t k => if t = 6 then (if k = 0 then 5 else if k = 1 then 3 else 1) else if t = 7 then 1 else if t = 8 then 10 else if t = 9 then 0 else if t = 10 then 10 else if t = 11 then (if k = 0 then 20 else 6) else 0), (fun w _ _ _ => w), [])
theorem pUs_v : VP pUs := by
  refine ⟨by decide, fun k hk => absurd hk (by show ¬ k < 0; omega), fun k hk => ?_, fun j _ => by show (1 : Int) ≤ 1 ∧ (1 : Int) ≤ 8; omega, fun k _ => by show (0 : Int) ≤ 10 ∧ (10 : Int) ≤ 30; omega, fun k _ => by show (0 : Int) ≤ 0 ∧ (0 : Int) ≤ 3; omega, fun k _ => by show (0 : Int) ≤ 10 ∧ (10 : Int) ≤ 20; omega, by show (1 : Int) ≤ 20 ∧ (20 : Int) ≤ 99; omega, by show (1 : Int) ≤ 6 ∧ (6 : Int) ≤ 12; omega, fun i hi => absurd hi (by show ¬ i < 0; omega), List.nodup_nil, fun t ht => absurd ht (by show ¬ t < 0; omega)⟩
  show 0 ≤ (if k = 0 then (5 : Int) else if k = 1 then 3 else 1) ∧ (if k = 0 then (5 : Int) else if k = 1 then 3 else 1) ≤ 9
  split
  · omega
  · split <;> omega
theorem pUs_q : VQP pUs := fun k hk => absurd hk (by show ¬ k < 0; omega)
/-- the lines of a park -/
def oPark (x : Nat → Int) (n : Nat) : Nat → Nat → PK → Nat → Int ⊕ PK
  | 0, _, _, _ => .inl 0
  | f + 1, b, P, T => if tKi x n b = 0 then .inr P else uB (oPl x n b P T) fun z => oPark x n f z.1 z.2.1 z.2.2
def dPark (A : AK) : Int × AK := match oPark (aX A) (aT A) 1001 (tE pBl (aX A) (aT A) 0) pUs 0 with
  | .inl e => (e, (aP A, aS A, aL A, aV A, aM A, aH A, 0, aX A))
  | .inr P => (0, (P, mBeg P, [], [], (fun _ => none), [], 0, aX A))
theorem oPark_v (hn : n ≤ 1000) {P' : PK} : ∀ (f b : Nat) (P : PK) (T : Nat), b ≤ n → VP P → VQP P → T < 128 → oPark x n f b P T = .inr P' → VP P' ∧ VQP P' := by
  intro f
  induction f with
  | zero => intro b P T _ _ _ _ h; cases h
  | succ f ih =>
    intro b P T hb hv hq hT h
    rw [oPark] at h
    by_cases c0 : tKi x n b = 0
    · rw [if_pos c0] at h; cases h; exact ⟨hv, hq⟩
    · rw [if_neg c0] at h
      cases ho : oPl x n b P T with
      | inl e => rw [ho, uB_l] at h; cases h
      | inr z =>
        rw [ho, uB_r] at h
        have r := oPl_r hb hn hv hq hT ho
        exact ih z.1 z.2.1 z.2.2 r.2.1 r.2.2.1 r.2.2.2.1 r.2.2.2.2 h
theorem dPark_v (hv : VA c A) (hq : VQ A) : VA (c + 1) (dPark A).2 ∧ VQ (dPark A).2 := by
  obtain ⟨h1, h2, h3, h4, h5, h6, h7, h8⟩ := hv.up (Nat.le_succ c)
  unfold dPark
  cases ho : oPark (aX A) (aT A) 1001 (tE pBl (aX A) (aT A) 0) pUs 0 with
  | inl e => exact ⟨⟨h1, h2, h3, h4, h5, h6, by show 0 ≤ 1000; omega, fun k hk => absurd hk (by show ¬ k < 0; omega)⟩, hq⟩
  | inr P =>
    have r := oPark_v h7 1001 _ pUs 0 (tE_le (by omega)).2 pUs_v pUs_q (by omega) ho
    exact ⟨⟨r.1, mBeg_v.up (by omega), ⟨by show 0 ≤ 40; omega, fun y hy => (by cases hy)⟩, ⟨by show 0 ≤ 8; omega, fun y hy => (by cases hy)⟩, fun m _ y hy => (by cases hy), ⟨by show 0 ≤ 16; omega, fun y hy => (by cases hy)⟩, by show 0 ≤ 1000; omega, fun k hk => absurd hk (by show ¬ k < 0; omega)⟩, r.2⟩
theorem c_only {q : Nat} {v : Int} (hz : 0 < zlN q) (hz2 : zlN q ≤ 1000) : ∃ M', Pa_only N q v M = some M' ∧ CN q [v] M' ∧ zfr (fun t i _ => (t == 3 || t == 26) && i == q) M M' := by
  unfold Pa_only
  rw [zW_e]
  have l0 : CN q [] (pI M 3 q 1 0) := ⟨mI_pI_eq, fun i hi => absurd hi (by simp)⟩
  obtain ⟨M1, e1, f1, l1⟩ := c_add (N := N) (q := q) (x := v) l0 (by show ((0 : Nat) : Int) < _; omega) hz2
  rw [e1, zB_s]
  exact ⟨M1, rfl, l1, ((zfr.rf M).pI (by simp)).tr f1⟩
def fCl (p t i _k : Nat) : Bool := (t == 4 && i == p) || ((t == 3 || t == 26) && decide (7 * p ≤ i) && decide (i ≤ 7 * p + 5))
theorem c_clear (hp : p < 2) : ∃ M', Pa_clear N p M = some M' ∧ CP p pUs M' ∧ zfr (fCl p) M M' := by
  have z1 : zlN (7 * p + 1) = 8 ∧ zlN (7 * p + 2) = 8 ∧ zlN (7 * p + 3) = 8 ∧ zlN (7 * p + 4) = 3 ∧ zlN (7 * p + 5) = 1000 := by
    rcases (show p = 0 ∨ p = 1 by omega) with rfl | rfl <;> exact ⟨rfl, rfl, rfl, rfl, rfl⟩
  obtain ⟨z1, z2, z3, z4, z5⟩ := z1
  unfold Pa_clear
  rw [zW_e, zW_e]
  generalize hM2 : pI (pI M 4 p 0 0) 3 (7 * p) 1 0 = M2
  obtain ⟨M3, e3, l3, f3⟩ := c_only (N := N) (M := M2) (q := 7 * p + 1) (v := 10) (by omega) (by omega)
  rw [e3, zBv_s]
  obtain ⟨M4, e4, l4, f4⟩ := c_only (N := N) (M := M3) (q := 7 * p + 2) (v := 0) (by omega) (by omega)
  rw [e4, zBv_s]
  obtain ⟨M5, e5, l5, f5⟩ := c_only (N := N) (M := M4) (q := 7 * p + 3) (v := 10) (by omega) (by omega)
  rw [e5, zBv_s]
  obtain ⟨M6, e6, l6, f6⟩ := c_only (N := N) (M := M5) (q := 7 * p + 4) (v := 5) (by omega) (by omega)
  rw [e6, zBv_s]
  obtain ⟨M7, e7, f7, l7⟩ := c_add (N := N) (M := M6) (q := 7 * p + 4) (x := 3) l6 (by rw [z4]; decide) (by omega)
  rw [e7, zB_s]
  obtain ⟨M8, e8, f8, l8⟩ := c_add (N := N) (M := M7) (q := 7 * p + 4) (x := 1) l7 (by rw [z4]; decide) (by omega)
  rw [e8, zB_s]
  obtain ⟨M9, e9, l9, f9⟩ := c_only (N := N) (M := M8) (q := 7 * p + 5) (v := -1) (by omega) (by omega)
  rw [e9, zBv_s, zW_e, zW_e]
  generalize hMe : pI (pI M9 4 p 13 20) 4 p 14 6 = Me
  have q9 : ∀ t i k, t ≠ 4 → mI Me t i k = mI M9 t i k := fun t i k ht => by rw [← hMe, mI_pI_ne (by omega), mI_pI_ne (by omega)]
  have g9 : ∀ t i k, ¬ ((t = 3 ∨ t = 26) ∧ i = 7 * p + 5) → mI M9 t i k = mI M8 t i k := fun t i k h => f9.2 _ _ _ (by simp; omega)
  have g8 : ∀ t i k, ¬ ((t = 3 ∨ t = 26) ∧ i = 7 * p + 4) → mI M8 t i k = mI M5 t i k := fun t i k h => (f8.2 _ _ _ (by simp; omega)).trans ((f7.2 _ _ _ (by simp; omega)).trans (f6.2 _ _ _ (by simp; omega)))
  have g5 : ∀ t i k, ¬ ((t = 3 ∨ t = 26) ∧ i = 7 * p + 3) → mI M5 t i k = mI M4 t i k := fun t i k h => f5.2 _ _ _ (by simp; omega)
  have g4 : ∀ t i k, ¬ ((t = 3 ∨ t = 26) ∧ i = 7 * p + 2) → mI M4 t i k = mI M3 t i k := fun t i k h => f4.2 _ _ _ (by simp; omega)
  have g3 : ∀ t i k, ¬ ((t = 3 ∨ t = 26) ∧ i = 7 * p + 1) → mI M3 t i k = mI M2 t i k := fun t i k h => f3.2 _ _ _ (by simp; omega)
  have m1 : CN (7 * p + 1) [10] Me := l3.g (fun t k ht => by rw [q9 _ _ _ (by omega), g9 _ _ _ (by omega), g8 _ _ _ (by omega), g5 _ _ _ (by omega), g4 _ _ _ (by omega)])
  have m2 : CN (7 * p + 2) [0] Me := l4.g (fun t k ht => by rw [q9 _ _ _ (by omega), g9 _ _ _ (by omega), g8 _ _ _ (by omega), g5 _ _ _ (by omega)])
  have m3 : CN (7 * p + 3) [10] Me := l5.g (fun t k ht => by rw [q9 _ _ _ (by omega), g9 _ _ _ (by omega), g8 _ _ _ (by omega)])
  have m4 : CN (7 * p + 4) [5, 3, 1] Me := l8.g (fun t k ht => by rw [q9 _ _ _ (by omega), g9 _ _ _ (by omega)])
  have m5 : CN (7 * p + 5) [-1] Me := l9.g (fun t k ht => by rw [q9 _ _ _ (by omega)])
  have m0 : mI Me 3 (7 * p) 1 = 0 := by rw [q9 _ _ _ (by omega), g9 _ _ _ (by omega), g8 _ _ _ (by omega), g5 _ _ _ (by omega), g4 _ _ _ (by omega), g3 _ _ _ (by omega), ← hM2, mI_pI_eq]
  have v0 : mI Me 4 p 0 = 0 := by rw [← hMe, mI_pI_ne (by omega), mI_pI_ne (by omega), g9 _ _ _ (by omega), g8 _ _ _ (by omega), g5 _ _ _ (by omega), g4 _ _ _ (by omega), g3 _ _ _ (by omega), ← hM2, mI_pI_ne (by omega), mI_pI_eq]
  have v13 : mI Me 4 p 13 = 20 := by rw [← hMe, mI_pI_ne (by omega), mI_pI_eq]
  have v14 : mI Me 4 p 14 = 6 := by rw [← hMe, mI_pI_eq]
  have fm : zfr (fCl p) M2 M9 := by
    have w : ∀ j, j ≤ 5 → ∀ t i k, fCl p t i k = false → ((fun t i (_ : Nat) => (t == 3 || t == 26) && i == 7 * p + j) t i k) = false := fun j hj t i k h => by
      simp [fCl] at h ⊢
      omega
    exact (f3.mo (w 1 (by omega))).tr ((f4.mo (w 2 (by omega))).tr ((f5.mo (w 3 (by omega))).tr ((f6.mo (w 4 (by omega))).tr ((f7.mo (w 4 (by omega))).tr ((f8.mo (w 4 (by omega))).tr (f9.mo (w 5 (by omega))))))))
  have f2 : zfr (fCl p) M M2 := by
    rw [← hM2]
    exact ((zfr.rf M).pI (by simp [fCl])).pI (by simp [fCl])
  have fe : zfr (fCl p) M9 Me := by
    rw [← hMe]
    exact ((zfr.rf M9).pI (by simp [fCl])).pI (by simp [fCl])
  refine ⟨Me, rfl, ⟨v0, fun k hk => absurd hk (by show ¬ k < 0; omega), ⟨m0, fun i hi => absurd hi (by show ¬ i < 0; omega)⟩, fun j hj => ?_, ⟨m4.1, fun k hk => ?_⟩, v13, v14, ⟨[-1], m5.1, by decide, m5.2, fun a b c d _ _ _ _ => rfl⟩, hp⟩, f2.tr (fm.tr fe)⟩
  · have : j = 0 ∨ j = 1 ∨ j = 2 := by omega
    rcases this with rfl | rfl | rfl
    · exact ⟨m1.1, fun k hk => by
        have hk' : k = 0 := by have : (k : Int) < 1 := hk; omega
        subst hk'; exact m1.2 0 (by decide)⟩
    · exact ⟨m2.1, fun k hk => by
        have hk' : k = 0 := by have : (k : Int) < 1 := hk; omega
        subst hk'; exact m2.2 0 (by decide)⟩
    · exact ⟨m3.1, fun k hk => by
        have hk' : k = 0 := by have : (k : Int) < 1 := hk; omega
        subst hk'; exact m3.2 0 (by decide)⟩
  · have : k = 0 ∨ k = 1 ∨ k = 2 := by omega
    rcases this with rfl | rfl | rfl
    · exact m4.2 0 (by decide)
    · exact m4.2 1 (by decide)
    · exact m4.2 2 (by decide)
def fPz (p t i k : Nat) : Prop := fPk p t i k ∨ (t = 8 ∧ i = 0 ∧ k = 1)
theorem zcF.pz (h : zcF (fPk p) M M') : zcF (fPz p) M M' := h.mo (fun _ _ _ q => .inl q)
def CPy (p : Nat) (M : ZM) (o : Int ⊕ PK) (r : Option (Int × ZM)) : Prop := match o with
  | .inl e => ∃ M', r = some (e, M') ∧ e ≠ 0 ∧ mI M' 8 0 1 = 0 ∧ zcF (fPz p) M M'
  | .inr P => ∃ M', r = some (0, M') ∧ mI M' 8 0 1 = 0 ∧ CP p P M' ∧ zcF (fPz p) M M'
theorem CPy.w {o : Int ⊕ PK} {M0 : ZM} {r : Option (Int × ZM)} (f : zcF (fPk p) M0 M) (h : CPy p M o r) : CPy p M0 o r := by
  unfold CPy at h ⊢
  cases o with
  | inl e => obtain ⟨M', a, b, c, g⟩ := h; exact ⟨M', a, b, c, f.pz.tr g⟩
  | inr z => obtain ⟨M', a, b, c, g⟩ := h; exact ⟨M', a, b, c, f.pz.tr g⟩
theorem c_park63e {e : Int} (h : mI M 5 0 3 = e) (he : e ≠ 0) : CPy p M (.inl e) (Re_readPark_63 N 0 M) := by
  unfold Re_readPark_63 Ta_clear
  rw [zW_e, zBv_s, mI_pI_ne (by omega), h]
  exact ⟨_, rfl, he, mI_pI_eq, zcF.p (.inr ⟨rfl, rfl, rfl⟩)⟩
theorem c_park63 (h : mI M 5 0 3 = 0) (hl : CP p P M) : CPy p M (.inr P) (Re_readPark_63 N 0 M) := by
  unfold Re_readPark_63 Ta_clear
  rw [zW_e, zBv_s, mI_pI_ne (by omega), h]
  exact ⟨_, rfl, mI_pI_eq, hl.gg (fun t i k ht => mI_pI_ne (by omega)) (fun _ _ => rfl), zcF.p (.inr ⟨rfl, rfl, rfl⟩)⟩
theorem c_park28 (hN : 2000 ≤ N) : ∀ (f j b g : Nat) (P : PK) (T : Nat) (M : ZM), j ≤ b → j ≤ 1000 → n < b + f → 1001 - j < g → CRd x n b M → CJ p P T M → VP P → VQP P → T < 128 → CPy p M (oPark x n f b P T) (Re_readPark_28 N g 0 j M) := by
  intro f
  induction f with
  | zero => intro j b g P T M _ _ h1 _ h2; have := h2.2.2.1; omega
  | succ f ih =>
    intro j b g P T M hj hj2 hf hg h hJ hv hq hT
    obtain ⟨g, rfl⟩ : ∃ g', g = g' + 1 := ⟨g - 1, by omega⟩
    have hn := h.1.2.2
    have hb := h.2.2.1
    rw [oPark, Re_readPark_28, h.2.2.2, h.2.1.2.2.1]
    by_cases c0 : tKi x n b = 0
    · rw [if_pos c0, if_pos c0, if_pos rfl]
      have := c_park63 (N := N) h.2.2.2 hJ.1
      by_cases c1 : (j : Int) < 1000
      · rw [if_pos c1]; exact this
      · rw [if_neg c1]; exact this
    · have hlt := (tNx_gt c0).1
      rw [if_neg c0, if_neg c0, if_pos rfl, if_pos (show (j : Int) < 1000 by omega), zsucc (by omega)]
      have hs := c_parkLine (N := N) hv hT h hJ hN
      unfold CPo at hs
      cases ho : oPl x n b P T with
      | inl e =>
        rw [ho] at hs
        obtain ⟨M1, a1, a2, a3, a4, a5⟩ := hs
        rw [a1, zB_s, zW_e, uB_l]
        obtain ⟨g, rfl⟩ : ∃ g', g = g' + 1 := ⟨g - 1, by omega⟩
        rw [Re_readPark_28, a2, if_neg a3]
        have := (c_park63e (N := N) (p := p) a2 a3).w a5
        by_cases c1 : ((j + 1 : Nat) : Int) < 1000
        · rw [if_pos c1]; exact this
        · rw [if_neg c1]; exact this
      | inr z =>
        rw [ho] at hs
        obtain ⟨M1, a1, a2, a3, a5⟩ := hs
        rw [a1, zB_s, zW_e, uB_r]
        have r := oPl_r hb hn hv hq hT ho
        exact (ih (j + 1) z.1 g z.2.1 z.2.2 M1 (by omega) (by omega) (by omega) (by omega) a2 a3 r.2.2.1 r.2.2.2.1 r.2.2.2.2).w a5
theorem CP.gp (h : CP p P M) (e : ∀ t k, (t = 4 ∨ (28 ≤ t ∧ t ≤ 32)) → mI M' t p k = mI M t p k) (e' : ∀ t i k, (t = 3 ∨ t = 26) → 7 * p ≤ i → i ≤ 7 * p + 5 → mI M' t i k = mI M t i k) (e2 : ∀ k, mL M' 27 p k = mL M 27 p k) : CP p P M' := by
  obtain ⟨h1, h2, h3, h4, h5, h6, h7, ⟨w, h8⟩, h9⟩ := h
  refine ⟨(e 4 0 (by omega)).trans h1, fun k hk => ?_, ⟨(e' _ _ _ (by omega) (by omega) (by omega)).trans h3.1, fun i hi => (e' _ _ _ (by omega) (by omega) (by omega)).trans (h3.2 i hi)⟩, fun j hj => ⟨(e' _ _ _ (by omega) (by omega) (by omega)).trans (h4 j hj).1, fun k hk => (e' _ _ _ (by omega) (by omega) (by omega)).trans ((h4 j hj).2 k hk)⟩, ⟨(e' _ _ _ (by omega) (by omega) (by omega)).trans h5.1, fun i hi => (e' _ _ _ (by omega) (by omega) (by omega)).trans (h5.2 i hi)⟩, (e _ _ (by omega)).trans h6, (e _ _ (by omega)).trans h7, ⟨w, (e' _ _ _ (by omega) (by omega) (by omega)).trans h8.1, h8.2.1, fun i hi => (e' _ _ _ (by omega) (by omega) (by omega)).trans (h8.2.2.1 i hi), h8.2.2.2⟩, h9⟩
  obtain ⟨a1, a2, a3, a4, a5, a6⟩ := h2 k hk
  exact ⟨(e _ _ (by omega)).trans a1, (e _ _ (by omega)).trans a2, (e _ _ (by omega)).trans a3, (e _ _ (by omega)).trans a4, (e _ _ (by omega)).trans a5, (e2 _).trans a6⟩
theorem c_park65 (hN : 2000 ≤ N) : ∀ (f m g : Nat) (M : ZM), m + f = 4 → f < g → (∀ i, i < m → mI M 2 i 3 = 0) → ∃ M', Wp_park_65 N g 0 (m : Int) M = some (0, M') ∧ (∀ i, i < 4 → mI M' 2 i 3 = 0) ∧ mI M' 10 0 7 = 0 ∧ mI M' 10 0 8 = 0 ∧ (∀ o, o < 3 → mI M' 6 o 2 = 0) ∧ M'.2 = M.2 ∧ (∀ t i k, ¬ (t = 2 ∧ k = 3) → ¬ (t = 10 ∧ (k = 7 ∨ k = 8)) → ¬ (t = 6 ∧ k = 2) → mI M' t i k = mI M t i k) := by
  intro f
  induction f with
  | zero =>
    intro m g M hm hg h
    obtain ⟨g, rfl⟩ : ∃ g', g = g' + 1 := ⟨g - 1, by omega⟩
    rw [Wp_park_65, if_neg (by omega)]
    unfold Wp_forgetPast Wp_forgetSearches
    rw [zW_e, zW_e, zBv_s]
    generalize hM4 : pI (pI M 10 0 7 0) 10 0 8 0 = M4
    obtain ⟨M5, e5, f5, g5⟩ := c_forget (N := N) hN N 0 M4 (fun o ho => by omega) (by omega) (by omega)
    rw [show ((0 : Nat) : Int) = 0 from rfl] at e5
    rw [e5, zBv_s]
    have r5 : ∀ t i k, ¬ (t = 6 ∧ k = 2) → mI M5 t i k = mI M4 t i k := fun t i k ht => f5.2 t i k (by simp; omega)
    refine ⟨M5, rfl, fun i hi => ?_, ?_, ?_, g5, f5.1.trans (by rw [← hM4]; rfl), fun t i k a1 a2 a3 => ?_⟩
    · rw [r5 _ _ _ (by omega), ← hM4, mI_pI_ne (by omega), mI_pI_ne (by omega)]; exact h i (by omega)
    · rw [r5 _ _ _ (by omega), ← hM4, mI_pI_ne (by omega), mI_pI_eq]
    · rw [r5 _ _ _ (by omega), ← hM4, mI_pI_eq]
    · rw [r5 _ _ _ a3, ← hM4, mI_pI_ne (by omega), mI_pI_ne (by omega)]
  | succ f ih =>
    intro m g M hm hg h
    obtain ⟨g, rfl⟩ : ∃ g', g = g' + 1 := ⟨g - 1, by omega⟩
    rw [Wp_park_65, if_pos (by omega), zI_t (by omega), zsucc (by omega), zW_e, zW_e, Int.toNat_natCast]
    obtain ⟨M', e1, r1, r2, r3, r4, r5, r6⟩ := ih (m + 1) g (pI M 2 m 3 0) (by omega) (by omega) (fun i hi => by
      by_cases e : i = m
      · subst e; exact mI_pI_eq
      · rw [mI_pI_ne (by omega)]; exact h i (by omega))
    exact ⟨M', e1, r1, r2, r3, r4, r5, fun t i k a1 a2 a3 => (r6 t i k a1 a2 a3).trans (mI_pI_ne (by omega))⟩
/-- the class reads a park -/
theorem w_park (h : CA A M) (hv : VA c A) (hN : 2000 ≤ N) : ∃ M', Wp_park N 0 M = some ((dPark A).1, M') ∧ CA (dPark A).2 M' ∧ zCl M M' := by
  obtain ⟨h1, ⟨p, h2, h3⟩, h4, h5, h6, h7, h8, h9, h10⟩ := id h
  have hp2 := h3.p2
  have hT := hv.2.2.2.2.2.2.1
  unfold Wp_park Re_readPark Ta_start
  obtain ⟨Ma, ea, ca, fa⟩ := c_clear (N := N) (M := M) (p := 1 - p) (by omega)
  rw [h2.2, zO_s, ea, zBv_s, zW_e, zW_e, zW_e, zW_e]
  generalize hM0 : pI (pI (pI (pR Ma (zsr (mR Ma) 2 (some (1 - p)))) 5 0 3 0) 5 0 6 0) 8 0 7 0 = M0
  have q0 : ∀ t i k, ¬ (t = 5 ∧ i = 0 ∧ (k = 3 ∨ k = 6)) → ¬ (t = 8 ∧ i = 0 ∧ k = 7) → mI M0 t i k = mI Ma t i k := fun t i k a1 a2 => by
    rw [← hM0, mI_pI_ne a2, mI_pI_ne (by omega), mI_pI_ne (by omega)]; rfl
  have L0 : ∀ t i k, mL M0 t i k = mL M t i k := fun t i k => by rw [← hM0]; exact mL_2 fa.1 _ _ _
  have K0 : mK M0 = mK M := by rw [← hM0]; show mK Ma = mK M; exact mK_2 fa.1
  have R0 : mR M0 = zsr (mR M) 2 (some (1 - p)) := by rw [← hM0, ← mR_2 fa.1]; rfl
  have km0 : KM M0 := h1.k K0
  have qa : ∀ t i k, ¬ (t = 4 ∧ i = 1 - p) → ¬ ((t = 3 ∨ t = 26) ∧ 7 * (1 - p) ≤ i ∧ i ≤ 7 * (1 - p) + 5) → mI Ma t i k = mI M t i k := fun t i k a1 a2 => fa.2 _ _ _ (by simp [fCl]; omega)
  have t0 : cTp (aT A) (aX A) M0 := ⟨⟨(q0 _ _ _ (by omega) (by omega)).trans ((qa _ _ _ (by omega) (by omega)).trans h10.1), fun k hk => (q0 _ _ _ (by omega) (by omega)).trans ((qa _ _ _ (by omega) (by omega)).trans (h10.2 k hk))⟩, km0, hT⟩
  obtain ⟨M1, e1, t1, f1⟩ := c_pass (N := N) (p := 0) hN (Nat.zero_le _) t0 (by rw [← hM0, mI_pI_eq]; rfl)
  rw [e1, zBv_s, zBv_s]
  have c1 : CRd (aX A) (aT A) (tE pBl (aX A) (aT A) 0) M1 := ⟨t0.g f1, t1, (tE_le (Nat.zero_le _)).2, by rw [f1.2.2.1 _ _ _ (by omega), ← hM0, mI_pI_ne (by omega), mI_pI_ne (by omega), mI_pI_eq]⟩
  have cp0 : CP (1 - p) pUs M0 := ca.gg (fun t i k ht => q0 _ _ _ (by omega) (by omega)) (fun i k => by rw [L0]; exact (mL_2 fa.1 _ _ _).symm)
  have j1 : CJ (1 - p) pUs 0 M1 := ⟨cp0.cf f1.f, by rw [f1.2.2.1 _ _ _ (by omega), ← hM0, mI_pI_ne (by omega), mI_pI_eq]; rfl, by rw [f1.2.1 2 (by omega), R0]; rfl⟩
  have hs := c_park28 (N := N) hN 1001 0 _ N pUs 0 M1 (by omega) (by omega) (by omega) (by omega) c1 j1 pUs_v pUs_q (by omega)
  rw [show ((0 : Nat) : Int) = 0 from rfl] at hs
  have fin : ∀ M', zcF (fPz (1 - p)) M1 M' → (∀ t i k, t ≠ 8 → t ≠ 5 → ¬ ((t = 4 ∨ (28 ≤ t ∧ t ≤ 32)) ∧ i = 1 - p) → ¬ ((t = 3 ∨ t = 26) ∧ 7 * (1 - p) ≤ i ∧ i ≤ 7 * (1 - p) + 5) → ¬ (t = 27 ∧ i = 1 - p) → mI M' t i k = mI M t i k) ∧ (∀ t i k, t ≠ 8 → t ≠ 5 → ¬ ((t = 4 ∨ (27 ≤ t ∧ t ≤ 32)) ∧ i = 1 - p) → ¬ ((t = 3 ∨ t = 26) ∧ 7 * (1 - p) ≤ i ∧ i ≤ 7 * (1 - p) + 5) → mL M' t i k = mL M t i k) ∧ mK M' = mK M ∧ (∀ k, k < 2 → zrg (mR M') k = zrg (mR M) k) := fun M' f => by
    refine ⟨fun t i k a1 a2 a3 a4 a5 => ?_, fun t i k a1 a2 a3 a4 => ?_, f.1.trans (f1.1.trans K0), fun k hk => ?_⟩
    · rw [f.2.2.1 t i k (by unfold fPz fPk fRd; omega), f1.2.2.1 _ _ _ (by omega), q0 _ _ _ (by omega) (by omega), qa _ _ _ (by omega) (by omega)]
    · rw [f.2.2.2 t i k (by omega) (by unfold fPz fPk fRd; omega), f1.2.2.2 _ _ _ (by omega), L0]
    · rw [f.2.1 k (by omega), f1.2.1 k (by omega), R0]
      have : k = 0 ∨ k = 1 := by omega
      rcases this with rfl | rfl <;> rfl
  unfold CPy at hs
  unfold dPark
  cases ho : oPark (aX A) (aT A) 1001 (tE pBl (aX A) (aT A) 0) pUs 0 with
  | inl e =>
    rw [ho] at hs
    obtain ⟨M', a1, a2, a3, a4⟩ := hs
    obtain ⟨Q, LQ, KQ, RQ⟩ := fin M' a4
    rw [a1, zB_s, if_neg a2]
    refine ⟨M', rfl, ⟨h1.k KQ, ⟨p, ⟨(RQ 0 (by omega)).trans h2.1, (RQ 1 (by omega)).trans h2.2⟩, h3.gp (fun t k ht => Q _ _ _ (by omega) (by omega) (by omega) (by omega) (by omega)) (fun t i k ht a b => Q _ _ _ (by omega) (by omega) (by omega) (by omega) (by omega)) (fun k => LQ _ _ _ (by omega) (by omega) (by omega) (by omega))⟩, h4.g (fun t k ht => Q _ _ _ (by omega) (by omega) (by omega) (by omega) (by omega)), h5.g (fun t k ht => Q _ _ _ (by omega) (by omega) (by omega) (by omega) (by omega)), h6.g (fun t k ht => Q _ _ _ (by omega) (by omega) (by omega) (by omega) (by omega)), fun m' hm' => (h7 m' hm').g (Q _ _ _ (by omega) (by omega) (by omega) (by omega) (by omega)) (fun t k ht => Q _ _ _ (by omega) (by omega) (by omega) (by omega) (by omega)) (fun t i k ht hi => Q _ _ _ (by omega) (by omega) (by omega) (by omega) (by omega)), h8.g (fun k _ => Q _ _ _ (by omega) (by omega) (by omega) (by omega) (by omega)) (fun t i k ht _ _ => Q _ _ _ (by omega) (by omega) (by omega) (by omega) (by omega)), h9.g (fun t i k ht => Q _ _ _ (by omega) (by omega) (by omega) (by omega) (by omega)), a3, fun k hk => absurd hk (by show ¬ k < 0; omega)⟩, KQ, fun t i k hrk => ?_, fun t i k hrk => ?_⟩
    · have : t = 11 ∨ 50 ≤ t := by simp [rk] at hrk; omega
      exact Q _ _ _ (by omega) (by omega) (by omega) (by omega) (by omega)
    · have : t = 11 ∨ 50 ≤ t := by simp [rk] at hrk; omega
      exact LQ _ _ _ (by omega) (by omega) (by omega) (by omega)
  | inr P =>
    rw [ho] at hs
    obtain ⟨M2, a1, a3, a5, a4⟩ := hs
    obtain ⟨Q, LQ, KQ, RQ⟩ := fin M2 a4
    have hvP := (oPark_v hT 1001 _ pUs 0 (tE_le (by omega)).2 pUs_v pUs_q (by omega) ho).1
    rw [a1, zB_s, if_pos rfl, (RQ 0 (by omega)).trans h2.1, zW_e, (RQ 1 (by omega)).trans h2.2, zO_s, zW_e, zO_s, zW_e]
    generalize hM3 : pR (pR M2 (zsr (mR M2) 0 (some (1 - p)))) (zsr (mR (pR M2 (zsr (mR M2) 0 (some (1 - p))))) 1 (some p)) = M3
    have i3 : ∀ t i k, mI M3 t i k = mI M2 t i k := fun t i k => by rw [← hM3]; rfl
    have l3 : ∀ t i k, mL M3 t i k = mL M2 t i k := fun t i k => by rw [← hM3]; rfl
    have k3 : mK M3 = mK M2 := by rw [← hM3]; rfl
    have r30 : zrg (mR M3) 0 = some (1 - p) := by rw [← hM3]; rfl
    have r31 : zrg (mR M3) 1 = some p := by rw [← hM3]; rfl
    have km3 : KM M3 := h1.k (k3.trans KQ)
    have cp3 : CP (1 - p) P M3 := a5.gg (fun t i k _ => i3 _ _ _) (fun i k => l3 _ _ _)
    obtain ⟨M4, e4, f4, s4⟩ := c_begin (N := N) (i := 0) hvP km3 cp3 hN
    rw [e4, zBv_s, zW_e, zW_e]
    obtain ⟨M5, e5, g1, g2, g3, g4, g5, g6⟩ := c_park65 (N := N) hN 4 0 N (pI (pI M4 3 13 1 0) 3 14 1 0) (by omega) (by omega) (fun i hi => absurd hi (by omega))
    rw [show ((0 : Nat) : Int) = 0 from rfl] at e5
    rw [e5]
    have K5 : M5.2 = M3.2 := g5.trans f4.1
    have q5 : ∀ t i k, ¬ (t = 2 ∧ k = 3) → ¬ (t = 10 ∧ (k = 7 ∨ k = 8)) → ¬ (t = 6 ∧ k = 2) → ¬ (t = 3 ∧ (i = 13 ∨ i = 14)) → ¬ ((t = 7 ∨ t = 40 ∨ t = 41) ∧ i = 0) → mI M5 t i k = mI M2 t i k := fun t i k a1 a2 a3 a4 a5 => by
      rw [g6 t i k a1 a2 a3, mI_pI_ne (by omega), mI_pI_ne (by omega), f4.2 _ _ _ (by simp [fS]; omega), i3]
    have cs5 : CS 0 (mBeg P) M5 := s4.g (fun t k ht => by rw [g6 _ _ _ (by omega) (by omega) (by omega), mI_pI_ne (by omega), mI_pI_ne (by omega)])
    have n13 : mI M5 3 13 1 = 0 := by rw [g6 _ _ _ (by omega) (by omega) (by omega), mI_pI_ne (by omega), mI_pI_eq]
    have n14 : mI M5 3 14 1 = 0 := by rw [g6 _ _ _ (by omega) (by omega) (by omega), mI_pI_eq]
    have er : mR M5 = mR M3 := mR_2 K5
    have Q5 : ∀ t i k, t = 33 ∨ t = 39 ∨ t = 42 ∨ t = 11 ∨ 50 ≤ t → mI M5 t i k = mI M t i k := fun t i k ht => (q5 t i k (by omega) (by omega) (by omega) (by omega) (by omega)).trans (Q _ _ _ (by omega) (by omega) (by omega) (by omega) (by omega))
    refine ⟨M5, rfl, ⟨km3.e K5, ⟨1 - p, ⟨by rw [er]; exact r30, by rw [er, r31]; congr 1; omega⟩, a5.gp (fun t k ht => q5 _ _ _ (by omega) (by omega) (by omega) (by omega) (by omega)) (fun t i k ht a b => q5 _ _ _ (by omega) (by omega) (by omega) (by omega) (by omega)) (fun k => (mL_2 K5 _ _ _).trans (l3 _ _ _))⟩, cs5, ⟨n13, fun i hi => (by cases hi)⟩, ⟨n14, fun i hi => (by cases hi)⟩, fun m hm => .inl ⟨rfl, g1 m hm⟩, ⟨0, by omega, g2, g3, fun j hj => (by cases hj)⟩, fun o ho => ⟨fun j hj => (Q5 _ _ _ (by omega)).trans ((h9 o ho).1 j hj), .inl (g4 o ho)⟩, (q5 _ _ _ (by omega) (by omega) (by omega) (by omega) (by omega)).trans a3, fun k hk => absurd hk (by show ¬ k < 0; omega)⟩, (mK_2 K5).trans (k3.trans KQ), fun t i k hrk => ?_, fun t i k hrk => ?_⟩
    · have : t = 11 ∨ 50 ≤ t := by simp [rk] at hrk; omega
      exact Q5 _ _ _ (by omega)
    · have : t = 11 ∨ 50 ≤ t := by simp [rk] at hrk; omega
      rw [mL_2 K5, l3]
      exact LQ _ _ _ (by omega) (by omega) (by omega) (by omega)
end CPARK
