section RPARK
variable {N n b c T : Nat} {x : Nat → Int} {P : PK} {tb : Bool} {A : AK} {M M' : ZM}
theorem r_usual2 : ∀ (f k g : Nat) (M : ZM), k + f = 9 → f < g → (∀ j, j < k → mI M 51 0 (9 + j) = 0) → ∃ M', Mo_usual_2 N g 0 1 (k : Int) M = some M' ∧ (∀ j, j < 9 → mI M' 51 0 (9 + j) = if j = 4 then 20 else if j = 5 then 6 else if j = 6 then 5 else if j = 7 then 3 else if j = 8 then 1 else 0) ∧ M'.2 = M.2 ∧ (∀ t i j, ¬ (t = 51 ∧ i = 0 ∧ 9 ≤ j) → mI M' t i j = mI M t i j) := by
  intro f
  induction f with
  | zero =>
    intro k g M hk hg h
    obtain ⟨g, rfl⟩ : ∃ g', g = g' + 1 := ⟨g - 1, by omega⟩
    have e4 : z32 (z32 (9 * 1) + 4) = ((13 : Nat) : Int) := by decide
    have e5 : z32 (z32 (9 * 1) + 5) = ((14 : Nat) : Int) := by decide
    have e6 : z32 (z32 (9 * 1) + 6) = ((15 : Nat) : Int) := by decide
    have e7 : z32 (((15 : Nat) : Int) + 1) = ((16 : Nat) : Int) := by decide
    have e8 : z32 (((15 : Nat) : Int) + 2) = ((17 : Nat) : Int) := by decide
    rw [Mo_usual_2, if_neg (by omega), e4, e5, e6, e7, e8]
    clear e4 e5 e6 e7 e8
    rw [zI_t (by decide), zW_e, zI_t (by decide), zW_e, zI_t (by decide), zW_e, zI_t (by decide), zW_e, zI_t (by decide), zW_e, Int.toNat_natCast, Int.toNat_natCast, Int.toNat_natCast, Int.toNat_natCast, Int.toNat_natCast]
    refine ⟨_, rfl, fun j hj => ?_, rfl, fun t i j hn => ?_⟩
    · have : j = 0 ∨ j = 1 ∨ j = 2 ∨ j = 3 ∨ j = 4 ∨ j = 5 ∨ j = 6 ∨ j = 7 ∨ j = 8 := by omega
      have g0 := fun j (hj : j < 4) => h j (by omega)
      rcases this with rfl | rfl | rfl | rfl | rfl | rfl | rfl | rfl | rfl
      · rw [mI_pI_ne (by omega), mI_pI_ne (by omega), mI_pI_ne (by omega), mI_pI_ne (by omega), mI_pI_ne (by omega), g0 0 (by omega)]; rfl
      · rw [mI_pI_ne (by omega), mI_pI_ne (by omega), mI_pI_ne (by omega), mI_pI_ne (by omega), mI_pI_ne (by omega), g0 1 (by omega)]; rfl
      · rw [mI_pI_ne (by omega), mI_pI_ne (by omega), mI_pI_ne (by omega), mI_pI_ne (by omega), mI_pI_ne (by omega), g0 2 (by omega)]; rfl
      · rw [mI_pI_ne (by omega), mI_pI_ne (by omega), mI_pI_ne (by omega), mI_pI_ne (by omega), mI_pI_ne (by omega), g0 3 (by omega)]; rfl
      · rw [mI_pI_ne (by omega), mI_pI_ne (by omega), mI_pI_ne (by omega), mI_pI_ne (by omega), mI_pI_eq]; rfl
      · rw [mI_pI_ne (by omega), mI_pI_ne (by omega), mI_pI_ne (by omega), mI_pI_eq]; rfl
      · rw [mI_pI_ne (by omega), mI_pI_ne (by omega), mI_pI_eq]; rfl
      · rw [mI_pI_ne (by omega), mI_pI_eq]; rfl
      · rw [mI_pI_eq]; rfl
    · rw [mI_pI_ne (by omega), mI_pI_ne (by omega), mI_pI_ne (by omega), mI_pI_ne (by omega), mI_pI_ne (by omega)]
  | succ f ih =>
    intro k g M hk hg h
    obtain ⟨g, rfl⟩ : ∃ g', g = g' + 1 := ⟨g - 1, by omega⟩
    have e9 : z32 (z32 (9 * 1) + (k : Int)) = ((9 + k : Nat) : Int) := by
      rw [zs (x := 9 * 1) (by omega), zs (by omega)]; omega
    rw [Mo_usual_2, if_pos (by omega), e9]
    clear e9
    rw [zI_t (by omega), zW_e, zsucc (by omega), zW_e, Int.toNat_natCast]
    obtain ⟨M', e1, r1, r2, r3⟩ := ih (k + 1) g (pI M 51 0 (9 + k) 0) (by omega) (by omega) (fun j hj => by
      by_cases e : j = k
      · subst e; exact mI_pI_eq
      · rw [mI_pI_ne (by omega)]; exact h j (by omega))
    exact ⟨M', e1, r1, r2, fun t i j hn => (r3 t i j hn).trans (mI_pI_ne (by omega))⟩
theorem r_shift2 {t m : Nat} (hm2 : m ≤ 1000) : ∀ (f k g : Nat) (M : ZM), (mN M t 0 : Int) = ((2 * m : Nat) : Int) → k + f = m → f < g → ∃ M', Mo_shifts_2 N g t 0 (m : Int) (k : Int) M = some M' ∧ (∀ j, k ≤ j → j < m → mI M' t 0 j = mI M t 0 (m + j)) ∧ M'.2 = M.2 ∧ (∀ s i j, ¬ (s = t ∧ i = 0 ∧ k ≤ j ∧ j < m) → mI M' s i j = mI M s i j) := by
  intro f
  induction f with
  | zero =>
    intro k g M hn hk hg
    obtain ⟨g, rfl⟩ : ∃ g', g = g' + 1 := ⟨g - 1, by omega⟩
    rw [Mo_shifts_2, if_neg (by omega)]
    exact ⟨M, rfl, fun j h1 h2 => by omega, rfl, fun _ _ _ _ => rfl⟩
  | succ f ih =>
    intro k g M hn hk hg
    obtain ⟨g, rfl⟩ : ∃ g', g = g' + 1 := ⟨g - 1, by omega⟩
    have e1 : z32 ((m : Int) + (k : Int)) = ((m + k : Nat) : Int) := by rw [zs (by omega)]; omega
    rw [Mo_shifts_2, if_pos (by omega), e1, hn]
    clear e1
    rw [zI_t (by omega), zI_t (by omega), zW_e, zsucc (by omega), zW_e, Int.toNat_natCast, Int.toNat_natCast]
    obtain ⟨M', e2, r1, r2, r3⟩ := ih (k + 1) g (pI M t 0 k (mI M t 0 (m + k))) hn (by omega) (by omega)
    refine ⟨M', e2, fun j h1 h2 => ?_, r2, fun s i j hh => (r3 s i j (by omega)).trans (mI_pI_ne (by omega))⟩
    by_cases e : j = k
    · subst e
      rw [r3 _ _ _ (by omega), mI_pI_eq]
    · rw [r1 j (by omega) h2, mI_pI_ne (by omega)]
theorem r_shifts {t m : Nat} {v : Int} (hk : KM M) (hv : v = (m : Int)) (hm2 : m ≤ 1000) (hl : ∀ sl, zlen sl t 0 = 2 * m) (hN : 2000 ≤ N) : ∃ M', Mo_shifts N t 0 v M = some M' ∧ (∀ j, j < m → mI M' t 0 j = mI M t 0 (m + j)) ∧ M'.2 = M.2 ∧ (∀ s i j, ¬ (s = t ∧ i = 0 ∧ j < m) → mI M' s i j = mI M s i j) := by
  obtain ⟨M', e, r1, r2, r3⟩ := r_shift2 (N := N) (t := t) hm2 m 0 N M (by rw [hk.n (2 * m) hl]) (by omega) (by omega)
  unfold Mo_shifts
  rw [hv]
  exact ⟨M', e, fun j hj => r1 j (by omega) hj, r2, fun s i j hh => r3 s i j (by omega)⟩
theorem r_lays11 : ∀ (f k g : Nat) (M : ZM), k + f = 6 → f < g → ∃ M', Mo_lays_11 N g 0 (k : Int) M = (zBv (Mo_shifts N 53 0 6 M') fun M104 => zBv (Mo_shifts N 54 0 6 M104) fun M105 => zBv (Mo_shifts N 55 0 6 M105) fun M106 => zBv (Mo_shifts N 56 0 6 M106) fun M107 => zBv (Mo_shifts N 57 0 6 M107) fun M108 => zBv (Mo_shifts N 58 0 24 M108) fun M109 => zBv (Mo_shifts N 61 0 1000 M109) fun M110 => zW (pI M110 59 0 0 (z32 ((mI M110 59 0 1) - 1000))) fun M111 => zW (pI M111 60 0 0 (z32 ((mI M111 60 0 1) - 1000))) fun M112 => some M112) ∧ (∀ j, k ≤ j → j < 6 → mL M' 52 0 j = mL M 52 0 (6 + j)) ∧ (∀ s i j, ¬ (s = 52 ∧ i = 0 ∧ k ≤ j ∧ j < 6) → mL M' s i j = mL M s i j) ∧ mR M' = mR M ∧ mK M' = mK M ∧ (∀ s i j, mI M' s i j = mI M s i j) := by
  intro f
  induction f with
  | zero =>
    intro k g M hk hg
    obtain ⟨g, rfl⟩ : ∃ g', g = g' + 1 := ⟨g - 1, by omega⟩
    rw [Mo_lays_11, if_neg (by omega)]
    exact ⟨M, rfl, fun j h1 h2 => by omega, fun _ _ _ _ => rfl, rfl, rfl, fun _ _ _ => rfl⟩
  | succ f ih =>
    intro k g M hk hg
    obtain ⟨g, rfl⟩ : ∃ g', g = g' + 1 := ⟨g - 1, by omega⟩
    have e1 : z32 (6 + (k : Int)) = ((6 + k : Nat) : Int) := by rw [zs (by omega)]; omega
    rw [Mo_lays_11, if_pos (by omega), e1]
    clear e1
    rw [zI_t (by omega), zI_t (by omega), zW_e, zsucc (by omega), zW_e, Int.toNat_natCast, Int.toNat_natCast]
    obtain ⟨M', e2, r1, r2, r3, r4, r5⟩ := ih (k + 1) g (pL M 52 0 k (mL M 52 0 (6 + k))) (by omega) (by omega)
    have ne : ∀ s i j, ¬ (s = 52 ∧ i = 0 ∧ j = k) → mL (pL M 52 0 k (mL M 52 0 (6 + k))) s i j = mL M s i j := fun s i j h => if_neg h
    refine ⟨M', e2, fun j h1 h2 => ?_, fun s i j hh => (r2 s i j (by omega)).trans (ne _ _ _ (by omega)), r3, r4, r5⟩
    by_cases e : j = k
    · subst e
      rw [r2 _ _ _ (by omega)]
      exact if_pos ⟨rfl, rfl, rfl⟩
    · rw [r1 j (by omega) h2, ne _ _ _ (by omega)]
theorem r_lays (hk : KM M) (hv : VP P) (h : RJ0 P tb M) (hN : 2000 ≤ N) : ∃ M', Mo_lays N 0 M = some M' ∧ RP P M' ∧ mK M' = mK M ∧ mR M' = mR M ∧ (∀ t i k, ¬ (t = 51 ∨ (53 ≤ t ∧ t ≤ 61)) → mI M' t i k = mI M t i k) ∧ (∀ t i k, t ≠ 52 → mL M' t i k = mL M t i k) := by
  have h6 := hv.n
  unfold Mo_lays
  obtain ⟨M1, e1, a1, k1, q1⟩ := r_shifts (N := N) (t := 51) (m := 9) (v := 9) hk rfl (by omega) (fun _ => rfl) hN
  rw [e1, zBv_s]
  obtain ⟨M2, e2, b2, c2, r2, k2, q2⟩ := r_lays11 (N := N) 6 0 N M1 (by omega) (by omega)
  rw [show ((0 : Nat) : Int) = 0 from rfl] at e2
  rw [e2]
  have km2 : KM M2 := (hk.e k1).k k2
  obtain ⟨M3, e3, a3, k3, q3⟩ := r_shifts (N := N) (t := 53) (m := 6) (v := 6) km2 rfl (by omega) (fun _ => rfl) hN
  rw [e3, zBv_s]
  obtain ⟨M4, e4, a4, k4, q4⟩ := r_shifts (N := N) (t := 54) (m := 6) (v := 6) (km2.e k3) rfl (by omega) (fun _ => rfl) hN
  rw [e4, zBv_s]
  obtain ⟨M5, e5, a5, k5, q5⟩ := r_shifts (N := N) (t := 55) (m := 6) (v := 6) ((km2.e k3).e k4) rfl (by omega) (fun _ => rfl) hN
  rw [e5, zBv_s]
  obtain ⟨M6, e6, a6, k6, q6⟩ := r_shifts (N := N) (t := 56) (m := 6) (v := 6) (((km2.e k3).e k4).e k5) rfl (by omega) (fun _ => rfl) hN
  rw [e6, zBv_s]
  obtain ⟨M7, e7, a7, k7, q7⟩ := r_shifts (N := N) (t := 57) (m := 6) (v := 6) ((((km2.e k3).e k4).e k5).e k6) rfl (by omega) (fun _ => rfl) hN
  rw [e7, zBv_s]
  obtain ⟨M8, e8, a8, k8, q8⟩ := r_shifts (N := N) (t := 58) (m := 24) (v := 24) (((((km2.e k3).e k4).e k5).e k6).e k7) rfl (by omega) (fun _ => rfl) hN
  rw [e8, zBv_s]
  obtain ⟨M9, e9, a9, k9, q9⟩ := r_shifts (N := N) (t := 61) (m := 1000) (v := 1000) ((((((km2.e k3).e k4).e k5).e k6).e k7).e k8) rfl (by omega) (fun _ => rfl) hN
  rw [e9, zBv_s, zW_e, zW_e]
  have kk : M9.2 = M2.2 := k9.trans (k8.trans (k7.trans (k6.trans (k5.trans (k4.trans k3)))))
  have Q9 : ∀ s i j, s ≠ 51 → ¬ (53 ≤ s ∧ s ≤ 58) → s ≠ 61 → mI M9 s i j = mI M s i j := fun s i j h1 h2 h3 => by
    rw [q9 _ _ _ (by omega), q8 _ _ _ (by omega), q7 _ _ _ (by omega), q6 _ _ _ (by omega), q5 _ _ _ (by omega), q4 _ _ _ (by omega), q3 _ _ _ (by omega), q2, q1 _ _ _ (by omega)]
  have v51 : ∀ j, j < 9 → mI M9 51 0 j = mI M 51 0 (9 + j) := fun j hj => by
    rw [q9 _ _ _ (by omega), q8 _ _ _ (by omega), q7 _ _ _ (by omega), q6 _ _ _ (by omega), q5 _ _ _ (by omega), q4 _ _ _ (by omega), q3 _ _ _ (by omega), q2, a1 j hj]
  have v53 : ∀ j, j < 6 → mI M9 53 0 j = mI M 53 0 (6 + j) := fun j hj => by
    rw [q9 _ _ _ (by omega), q8 _ _ _ (by omega), q7 _ _ _ (by omega), q6 _ _ _ (by omega), q5 _ _ _ (by omega), q4 _ _ _ (by omega), a3 j hj, q2, q1 _ _ _ (by omega)]
  have v54 : ∀ j, j < 6 → mI M9 54 0 j = mI M 54 0 (6 + j) := fun j hj => by
    rw [q9 _ _ _ (by omega), q8 _ _ _ (by omega), q7 _ _ _ (by omega), q6 _ _ _ (by omega), q5 _ _ _ (by omega), a4 j hj, q3 _ _ _ (by omega), q2, q1 _ _ _ (by omega)]
  have v55 : ∀ j, j < 6 → mI M9 55 0 j = mI M 55 0 (6 + j) := fun j hj => by
    rw [q9 _ _ _ (by omega), q8 _ _ _ (by omega), q7 _ _ _ (by omega), q6 _ _ _ (by omega), a5 j hj, q4 _ _ _ (by omega), q3 _ _ _ (by omega), q2, q1 _ _ _ (by omega)]
  have v56 : ∀ j, j < 6 → mI M9 56 0 j = mI M 56 0 (6 + j) := fun j hj => by
    rw [q9 _ _ _ (by omega), q8 _ _ _ (by omega), q7 _ _ _ (by omega), a6 j hj, q5 _ _ _ (by omega), q4 _ _ _ (by omega), q3 _ _ _ (by omega), q2, q1 _ _ _ (by omega)]
  have v57 : ∀ j, j < 6 → mI M9 57 0 j = mI M 57 0 (6 + j) := fun j hj => by
    rw [q9 _ _ _ (by omega), q8 _ _ _ (by omega), a7 j hj, q6 _ _ _ (by omega), q5 _ _ _ (by omega), q4 _ _ _ (by omega), q3 _ _ _ (by omega), q2, q1 _ _ _ (by omega)]
  have v58 : ∀ j, j < 24 → mI M9 58 0 j = mI M 58 0 (24 + j) := fun j hj => by
    rw [q9 _ _ _ (by omega), a8 j hj, q7 _ _ _ (by omega), q6 _ _ _ (by omega), q5 _ _ _ (by omega), q4 _ _ _ (by omega), q3 _ _ _ (by omega), q2, q1 _ _ _ (by omega)]
  have v61 : ∀ j, j < 1000 → mI M9 61 0 j = mI M 61 0 (1000 + j) := fun j hj => by
    rw [a9 j hj, q8 _ _ _ (by omega), q7 _ _ _ (by omega), q6 _ _ _ (by omega), q5 _ _ _ (by omega), q4 _ _ _ (by omega), q3 _ _ _ (by omega), q2, q1 _ _ _ (by omega)]
  have L9 : ∀ s i j, mL M9 s i j = mL M2 s i j := fun s i j => mL_2 kk _ _ _
  have L1 : ∀ s i j, mL M1 s i j = mL M s i j := fun s i j => mL_2 k1 _ _ _
  obtain ⟨h1, h2, h3, h4, h5, h6', h7, h8⟩ := h
  have w59 : mI M9 59 0 1 = 1000 := (Q9 _ _ _ (by omega) (by omega) (by omega)).trans h7
  rw [mI_pI_ne (by omega), w59, show z32 (1000 - 1000) = 0 from by decide]
  generalize hMe : pI (pI M9 59 0 0 0) 60 0 0 (z32 (mI M9 60 0 1 - 1000)) = Me
  have qe : ∀ s i j, s ≠ 59 → s ≠ 60 → mI Me s i j = mI M9 s i j := fun s i j a b => by rw [← hMe, mI_pI_ne (by omega), mI_pI_ne (by omega)]
  have e59 : mI Me 59 0 0 = 0 := by rw [← hMe, mI_pI_ne (by omega), mI_pI_eq]
  have e60 : mI Me 60 0 0 = z32 (mI M 60 0 1 - 1000) := by rw [← hMe, mI_pI_eq, Q9 _ _ _ (by omega) (by omega) (by omega)]
  have ke : Me.2 = M9.2 := by rw [← hMe]; rfl
  clear hMe
  refine ⟨Me, rfl, ⟨by rw [qe _ _ _ (by omega) (by omega), v51 0 (by omega)]; exact h1, fun k hk => ?_, fun j hj => ?_, fun k hk => ?_, ?_, ?_, ?_⟩, (mK_2 (ke.trans kk)).trans (k2.trans (mK_2 k1)), (mR_2 (ke.trans kk)).trans (r2.trans (mR_2 k1)), fun t i k ht => (qe _ _ _ (by omega) (by omega)).trans (Q9 _ _ _ (by omega) (by omega) (by omega)), fun t i k ht => (mL_2 ke _ _ _).trans ((L9 _ _ _).trans ((c2 _ _ _ (by omega)).trans (L1 _ _ _)))⟩
  · obtain ⟨b1, b2', b3, b4, b5, b6⟩ := h2 k hk
    refine ⟨?_, ?_, ?_, ?_, ?_, ?_⟩
    · rw [qe _ _ _ (by omega) (by omega), v53 k (by omega)]; exact b1
    · rw [qe _ _ _ (by omega) (by omega), v54 k (by omega)]; exact b2'
    · rw [qe _ _ _ (by omega) (by omega), v55 k (by omega)]; exact b3
    · rw [qe _ _ _ (by omega) (by omega), v56 k (by omega)]; exact b4
    · rw [qe _ _ _ (by omega) (by omega), v57 k (by omega)]; exact b5
    · rw [mL_2 ke, L9, b2 k (by omega) (by omega), L1]; exact b6
  · have hl8 := hv.l hj
    have r51 : mI Me 51 0 (1 + j) = mI M 51 0 (10 + j) := by
      rw [qe _ _ _ (by omega) (by omega), v51 (1 + j) (by omega), show 9 + (1 + j) = 10 + j by omega]
    rcases h3 j hj with ⟨b1, b2', b3⟩ | ⟨b1, b2'⟩
    · exact .inl ⟨r51.trans b1, b2', b3⟩
    · refine .inr ⟨r51.trans b1, fun k hk => ?_⟩
      rw [qe _ _ _ (by omega) (by omega), v58 (8 * j + k) (by omega), show 24 + (8 * j + k) = 24 + 8 * j + k by omega]
      exact b2' k hk
  · rw [qe _ _ _ (by omega) (by omega), v51 (6 + k) (by omega), show 9 + (6 + k) = 15 + k by omega]
    exact h4 k hk
  · rw [qe _ _ _ (by omega) (by omega), v51 4 (by omega)]; exact h5
  · rw [qe _ _ _ (by omega) (by omega), v51 5 (by omega)]; exact h6'
  · rcases h8 with ⟨b1, b2', b3, b4⟩ | ⟨b1, u, b2', b3, b4, b5, b6⟩
    · refine .inl ⟨e59, ?_, b4⟩
      rw [e60, b2']
      decide
    · refine .inr ⟨u, e59, ?_, b3, b4, fun i hi => ?_, b6⟩
      · rw [e60, b2', zs (by omega)]
        omega
      · rw [qe _ _ _ (by omega) (by omega), v61 i (by omega)]
        exact b5 i hi
def RPy (M : ZM) (o : Int ⊕ PK) (r : Option (Int × ZM)) : Prop := match o with
  | .inl e => ∃ M', r = some (0, M') ∧ mI M' 11 0 9 = e ∧ zrF fPr M M'
  | .inr P => ∃ T M', r = some (1, M') ∧ RJ P T M' ∧ zrF fPr M M'
theorem RPy.w {o : Int ⊕ PK} {M0 : ZM} {r : Option (Int × ZM)} (f : zrF fPr M0 M) (h : RPy M o r) : RPy M0 o r := by
  unfold RPy at h ⊢
  cases o with
  | inl e => obtain ⟨M', a, b, g⟩ := h; exact ⟨M', a, b, f.tr g⟩
  | inr z => obtain ⟨T, M', a, b, g⟩ := h; exact ⟨T, M', a, b, f.tr g⟩
theorem r_all39 (hN : 2000 ≤ N) : ∀ (f b g : Nat) (P : PK) (T : Nat) (M : ZM), n < b + f → n - b + 1 < g → RRd x n b M → RJ P T M → VP P → VQP P → T < 128 → RPy M (oPark x n f b P T) (Mo_readsAll_39 N g 0 M) := by
  intro f
  induction f with
  | zero => intro b g P T M h1 _ h2; have := h2.2.2; omega
  | succ f ih =>
    intro b g P T M hf hg h hJ hv hq hT
    obtain ⟨g, rfl⟩ : ∃ g', g = g' + 1 := ⟨g - 1, by omega⟩
    have hn := h.1.2.2
    have hb := h.2.2
    rw [oPark, Mo_readsAll_39]
    by_cases c0 : tKi x n b = 0
    · rw [if_pos c0, if_pos (h.2.1.w0.2 c0)]
      exact ⟨T, M, rfl, hJ, zrF.rf M⟩
    · have hlt := (tNx_gt c0).1
      rw [if_neg c0, if_neg (fun p => c0 (h.2.1.w0.1 p))]
      have hs := r_parkLine (N := N) hv hq h hJ hN
      unfold RPo at hs
      cases ho : oPl x n b P T with
      | inl e =>
        rw [ho] at hs
        obtain ⟨M1, a1, a2, a5⟩ := hs
        rw [a1, zB_s, if_pos rfl, uB_l]
        exact ⟨M1, rfl, a2, a5⟩
      | inr z =>
        rw [ho] at hs
        obtain ⟨M1, a1, a2, a3, a5⟩ := hs
        rw [a1, zB_s, if_neg (by decide), uB_r]
        have r := oPl_r hb hn hv hq hT ho
        exact (ih z.1 g z.2.1 z.2.2 M1 (by omega) (by omega) a2 a3 r.2.2.1 r.2.2.2.1 r.2.2.2.2).w a5
theorem RP.gq (h : RP P M) (hv : VP P) (e : ∀ t k, (t = 51 ∧ k < 9) ∨ ((53 ≤ t ∧ t ≤ 57) ∧ k < 6) ∨ (t = 58 ∧ k < 24) ∨ ((t = 59 ∨ t = 60) ∧ k = 0) ∨ (t = 61 ∧ k < 1000) → mI M' t 0 k = mI M t 0 k) (e2 : ∀ k, k < 6 → mL M' 52 0 k = mL M 52 0 k) : RP P M' := by
  have h6 := hv.n
  obtain ⟨h1, h2, h3, h4, h5, h6', h7⟩ := h
  refine ⟨(e _ _ (by omega)).trans h1, fun k hk => ?_, fun j hj => ?_, fun k hk => (e _ _ (by omega)).trans (h4 k hk), (e _ _ (by omega)).trans h5, (e _ _ (by omega)).trans h6', ?_⟩
  · obtain ⟨a1, a2, a3, a4, a5, a6⟩ := h2 k hk
    exact ⟨(e _ _ (by omega)).trans a1, (e _ _ (by omega)).trans a2, (e _ _ (by omega)).trans a3, (e _ _ (by omega)).trans a4, (e _ _ (by omega)).trans a5, (e2 _ (by omega)).trans a6⟩
  · have hl8 := hv.l hj
    rcases h3 j hj with a | a
    · exact .inl ⟨(e _ _ (by omega)).trans a.1, a.2⟩
    · exact .inr ⟨(e _ _ (by omega)).trans a.1, fun k hk => (e _ _ (by omega)).trans (a.2 k hk)⟩
  · rcases h7 with a | ⟨u, a⟩
    · exact .inl ⟨(e _ _ (by omega)).trans a.1, (e _ _ (by omega)).trans a.2.1, a.2.2⟩
    · exact .inr ⟨u, (e _ _ (by omega)).trans a.1, (e _ _ (by omega)).trans a.2.1, a.2.2.1, a.2.2.2.1, fun i hi => (e _ _ (by have := a.2.2.2.1; omega)).trans (a.2.2.2.2.1 i hi), a.2.2.2.2.2⟩
theorem r_park46 : ∀ (f m g : Nat) (M : ZM), m + f = 4 → f < g → (∀ i, i < m → mI M 86 0 i = 0) → ∃ M', Mo_park_46 N g 0 (m : Int) M = some (0, M') ∧ (∀ i, i < 4 → mI M' 86 0 i = 0) ∧ M'.2 = M.2 ∧ (∀ t i k, t ≠ 86 → mI M' t i k = mI M t i k) := by
  intro f
  induction f with
  | zero =>
    intro m g M hm hg h
    obtain ⟨g, rfl⟩ : ∃ g', g = g' + 1 := ⟨g - 1, by omega⟩
    rw [Mo_park_46, if_neg (by omega)]
    exact ⟨M, rfl, fun i hi => h i (by omega), rfl, fun _ _ _ _ => rfl⟩
  | succ f ih =>
    intro m g M hm hg h
    obtain ⟨g, rfl⟩ : ∃ g', g = g' + 1 := ⟨g - 1, by omega⟩
    rw [Mo_park_46, if_pos (by omega), zI_t (by omega), zb10, zsucc (by omega), zW_e, zW_e, Int.toNat_natCast]
    obtain ⟨M', e1, r1, r5, r6⟩ := ih (m + 1) g (pI M 86 0 m 0) (by omega) (by omega) (fun i hi => by
      by_cases e : i = m
      · subst e; exact mI_pI_eq
      · rw [mI_pI_ne (by omega)]; exact h i (by omega))
    exact ⟨M', e1, r1, r5, fun t i k a1 => (r6 t i k a1).trans (mI_pI_ne (by omega))⟩
/-- the reference reads a park -/
theorem m_park (h : RA A M) (hv : VA c A) (hN : 2000 ≤ N) : ∃ M', Mo_park N 0 M = some ((dPark A).1, M') ∧ RA (dPark A).2 M' ∧ zRl M M' := by
  obtain ⟨h1, h2, h3, h4, h5, h6, h7, h8⟩ := id h
  have hT := hv.2.2.2.2.2.2.1
  unfold Mo_park Mo_readsAll Mo_usual Mo_begins
  rw [zW_e]
  obtain ⟨Ma, ea, ua, ka, qa⟩ := r_usual2 (N := N) 9 0 N (pI M 11 0 0 0) (by omega) (by omega) (fun j hj => absurd hj (by omega))
  rw [show ((0 : Nat) : Int) = 0 from rfl] at ea
  rw [ea, zBv_s, zW_e, zW_e, zW_e, zW_e, zW_e, zW_e, zW_e]
  have e11 : mI (pI (pI (pI (pI Ma 59 0 1 1000) 60 0 1 1000) 11 0 22 0) 11 0 21 1000) 11 0 1 = (aT A : Int) := by
    rw [mI_pI_ne (by omega), mI_pI_ne (by omega), mI_pI_ne (by omega), mI_pI_ne (by omega), qa _ _ _ (by omega), mI_pI_ne (by omega)]; exact h8.1
  rw [e11]
  generalize hM0 : pI (pI (pI (pI (pI (pI (pI Ma 59 0 1 1000) 60 0 1 1000) 11 0 22 0) 11 0 21 1000) 11 0 3 (aT A : Int)) 11 0 1 0) 11 0 4 0 = M0
  clear e11
  have q0 : ∀ t i k, ¬ (t = 11 ∧ i = 0 ∧ (k = 0 ∨ k = 3 ∨ k = 1 ∨ k = 4 ∨ k = 21 ∨ k = 22)) → ¬ ((t = 59 ∨ t = 60) ∧ i = 0 ∧ k = 1) → ¬ (t = 51 ∧ i = 0 ∧ 9 ≤ k) → mI M0 t i k = mI M t i k := fun t i k a1 a2 a3 => by
    rw [← hM0, mI_pI_ne (by omega), mI_pI_ne (by omega), mI_pI_ne (by omega), mI_pI_ne (by omega), mI_pI_ne (by omega), mI_pI_ne (by omega), mI_pI_ne (by omega), qa _ _ _ a3, mI_pI_ne (by omega)]
  have k0 : M0.2 = M.2 := by rw [← hM0]; exact ka
  have t0 : rTp (aT A) (aX A) M0 := ⟨by rw [← hM0, mI_pI_ne (by omega), mI_pI_ne (by omega), mI_pI_eq], fun k hk => by rw [q0 _ _ _ (by omega) (by omega) (by omega)]; exact h8.2 k hk, hT⟩
  have j0 : RJ pUs 0 M0 := by
    have u51 : ∀ j, j < 9 → mI M0 51 0 (9 + j) = if j = 4 then 20 else if j = 5 then 6 else if j = 6 then 5 else if j = 7 then 3 else if j = 8 then 1 else 0 := fun j hj => by
      rw [← hM0, mI_pI_ne (by omega), mI_pI_ne (by omega), mI_pI_ne (by omega), mI_pI_ne (by omega), mI_pI_ne (by omega), mI_pI_ne (by omega), mI_pI_ne (by omega)]
      exact ua j hj
    have v59 : mI M0 59 0 1 = 1000 := by rw [← hM0, mI_pI_ne (by omega), mI_pI_ne (by omega), mI_pI_ne (by omega), mI_pI_ne (by omega), mI_pI_ne (by omega), mI_pI_ne (by omega), mI_pI_eq]
    have v60 : mI M0 60 0 1 = 1000 := by rw [← hM0, mI_pI_ne (by omega), mI_pI_ne (by omega), mI_pI_ne (by omega), mI_pI_ne (by omega), mI_pI_ne (by omega), mI_pI_eq]
    have v22 : mI M0 11 0 22 = 0 := by rw [← hM0, mI_pI_ne (by omega), mI_pI_ne (by omega), mI_pI_ne (by omega), mI_pI_ne (by omega), mI_pI_eq]
    have v21 : mI M0 11 0 21 = 1000 := by rw [← hM0, mI_pI_ne (by omega), mI_pI_ne (by omega), mI_pI_ne (by omega), mI_pI_eq]
    refine ⟨⟨u51 0 (by omega), fun k hk => absurd hk (by show ¬ k < 0; omega), fun j hj => .inl ?_, fun k hk => ?_, u51 4 (by omega), u51 5 (by omega), v59, .inl ⟨by decide, v60, v21, rfl⟩⟩, 0, v22, by omega, fun j hj => by unfold zbt; rw [Nat.zero_testBit, Nat.zero_testBit]⟩
    · have : j = 0 ∨ j = 1 ∨ j = 2 := by omega
      rcases this with rfl | rfl | rfl
      · exact ⟨u51 1 (by omega), rfl, rfl⟩
      · exact ⟨u51 2 (by omega), rfl, rfl⟩
      · exact ⟨u51 3 (by omega), rfl, rfl⟩
    · have : k = 0 ∨ k = 1 ∨ k = 2 := by omega
      rcases this with rfl | rfl | rfl
      · exact u51 6 (by omega)
      · exact u51 7 (by omega)
      · exact u51 8 (by omega)
  obtain ⟨M1, e1, t1, f1⟩ := r_pass (N := N) (p := 0) hN (Nat.zero_le _) t0 (by rw [← hM0, mI_pI_eq]; rfl)
  rw [e1, zBv_s, zBv_s]
  have c1 : RRd (aX A) (aT A) (tE pBl (aX A) (aT A) 0) M1 := ⟨t0.g f1, t1, (tE_le (Nat.zero_le _)).2⟩
  have j1 : RJ pUs 0 M1 := j0.f f1.f
  have e01 : mI M1 11 0 1 = 0 := by rw [f1.2.2.1 _ _ _ (by omega), ← hM0, mI_pI_ne (by omega), mI_pI_eq]
  have hs := r_all39 (N := N) hN 1001 _ N pUs 0 M1 (by omega) (by omega) c1 j1 pUs_v pUs_q (by omega)
  have fin : ∀ M', zrF fPr M1 M' → (∀ t i k, t ≠ 11 → ¬ (t = 51 ∧ 9 ≤ k) → ¬ ((52 ≤ t ∧ t ≤ 57) ∧ 6 ≤ k) → ¬ (t = 58 ∧ 24 ≤ k) → ¬ ((t = 59 ∨ t = 60) ∧ k = 1) → ¬ (t = 61 ∧ 1000 ≤ k) → t ≠ 62 → t ≠ 63 → mI M' t i k = mI M t i k) ∧ (∀ t i k, t ≠ 11 → ¬ (51 ≤ t ∧ t ≤ 63 ∧ ¬ (t = 52 ∧ k < 6)) → mL M' t i k = mL M t i k) ∧ mK M' = mK M ∧ mR M' = mR M ∧ (mI M' 11 0 49 = mI M 11 0 49) ∧ mI M' 11 0 1 = 0 := fun M' f => by
    refine ⟨fun t i k a1 a2 a3 a4 a5 a6 a7 a8 => ?_, fun t i k a1 a2 => ?_, f.1.trans (f1.1.trans (mK_2 k0)), f.2.1.trans (f1.2.1.trans (mR_2 k0)), ?_, ?_⟩
    · rw [f.2.2.1 t i k (by unfold fPr fRr; omega), f1.2.2.1 _ _ _ (by omega), q0 _ _ _ (by omega) (by omega) (by omega)]
    · rw [f.2.2.2 t i k (by omega) (by unfold fPr fRr; omega), f1.2.2.2 _ _ _ (by omega), mL_2 k0]
    · rw [f.2.2.1 _ _ _ (by unfold fPr fRr; omega), f1.2.2.1 _ _ _ (by omega), q0 _ _ _ (by omega) (by omega) (by omega)]
    · rw [f.2.2.1 _ _ _ (by unfold fPr fRr; omega), e01]
  unfold RPy at hs
  unfold dPark
  cases ho : oPark (aX A) (aT A) 1001 (tE pBl (aX A) (aT A) 0) pUs 0 with
  | inl e =>
    rw [ho] at hs
    obtain ⟨M', a1, a2, a4⟩ := hs
    obtain ⟨Q, LQ, KQ, RQ', H49, E1⟩ := fin M' a4
    rw [a1, zB_s, if_pos rfl, a2]
    have Qe : ∀ t i k, t = 50 ∨ 64 ≤ t → mI M' t i k = mI M t i k := fun t i k ht => Q _ _ _ (by omega) (by omega) (by omega) (by omega) (by omega) (by omega) (by omega) (by omega)
    refine ⟨M', rfl, ⟨h1.k KQ, h2.gq hv.1 (fun t k ht => Q _ _ _ (by omega) (by omega) (by omega) (by omega) (by omega) (by omega) (by omega) (by omega)) (fun k hk => LQ _ _ _ (by omega) (by omega)), h3.g (fun k _ _ => Qe _ _ _ (by omega)), ⟨(Qe _ _ _ (by omega)).trans h4.1, h4.2.g (fun t k ht _ _ => Qe _ _ _ (by omega))⟩, ⟨(Qe _ _ _ (by omega)).trans h5.1, h5.2.g (fun t k ht _ _ => Qe _ _ _ (by omega))⟩, fun m' hm' => (h6 m' hm').g (fun t k ht a1 a2 a3 a4 a5 => Qe _ _ _ (by omega)), h7.g H49 (fun k => Qe _ _ _ (by omega)), E1, fun k hk => absurd hk (by show ¬ k < 0; omega)⟩, KQ, RQ', fun t i k hrk => ?_, fun t i k hrk => ?_⟩
    · have := rk_ne hrk
      exact Q _ _ _ (by omega) (by omega) (by omega) (by omega) (by omega) (by omega) (by omega) (by omega)
    · have := rk_ne hrk
      exact LQ _ _ _ (by omega) (by omega)
  | inr P =>
    rw [ho] at hs
    obtain ⟨T, M2, a1, a3, a4⟩ := hs
    obtain ⟨Q, LQ, KQ, RQ', H49, E1⟩ := fin M2 a4
    have hvP := (oPark_v hT 1001 _ pUs 0 (tE_le (by omega)).2 pUs_v pUs_q (by omega) ho).1
    have km2 : KM M2 := h1.k KQ
    rw [a1, zB_s, if_neg (by decide)]
    obtain ⟨M3, e3, p3, k3, r3, q3, l3⟩ := r_lays (N := N) km2 hvP a3.1 hN
    rw [e3, zBv_s]
    obtain ⟨M4, e4, f4, s4⟩ := r_fresh (N := N) (M := M3) (P := P) hN
    rw [e4, zBv_s, zW_e, zW_e, zW_e]
    obtain ⟨M5, e5, g1, g5, g6⟩ := r_park46 (N := N) 4 0 N (pI (pI (pI M4 74 0 0 0) 78 0 0 0) 11 0 49 0) (by omega) (by omega) (fun i hi => absurd hi (by omega))
    rw [show ((0 : Nat) : Int) = 0 from rfl] at e5
    rw [e5]
    have K5 : M5.2 = M3.2 := g5.trans f4.1
    have q5 : ∀ t i k, t ≠ 86 → t ≠ 81 → ¬ (t = 74 ∧ i = 0 ∧ k = 0) → ¬ (t = 78 ∧ i = 0 ∧ k = 0) → ¬ (t = 11 ∧ i = 0 ∧ k = 49) → mI M5 t i k = mI M3 t i k := fun t i k b1 b2 b3 b4 b5 => by
      rw [g6 t i k b1, mI_pI_ne b5, mI_pI_ne b4, mI_pI_ne b3, f4.2 _ _ _ (by simp [f81]; omega)]
    have n74 : mI M5 74 0 0 = 0 := by rw [g6 _ _ _ (by omega), mI_pI_ne (by omega), mI_pI_ne (by omega), mI_pI_eq]
    have n78 : mI M5 78 0 0 = 0 := by rw [g6 _ _ _ (by omega), mI_pI_ne (by omega), mI_pI_eq]
    have n49 : mI M5 11 0 49 = 0 := by rw [g6 _ _ _ (by omega), mI_pI_eq]
    have s5 : R0 (qN P) (mBeg P) M5 := s4.g (fun k _ _ => by rw [g6 _ _ _ (by omega), mI_pI_ne (by omega), mI_pI_ne (by omega), mI_pI_ne (by omega)])
    refine ⟨M5, rfl, ⟨(km2.k k3).e K5, p3.gg (fun t k ht => q5 _ _ _ (by omega) (by omega) (by omega) (by omega) (by omega)) (fun k => mL_2 K5 _ _ _), s5, ⟨n74, fun i hi => (by cases hi)⟩, ⟨n78, fun i hi => (by cases hi)⟩, fun m hm => .inl ⟨rfl, g1 m hm⟩, ⟨n49, fun j hj => (by cases hj)⟩, by rw [show mI M5 11 0 1 = mI M3 11 0 1 from q5 _ _ _ (by omega) (by omega) (by omega) (by omega) (by omega), q3 _ _ _ (by omega)]; exact E1, fun k hk => absurd hk (by show ¬ k < 0; omega)⟩, (mK_2 K5).trans (k3.trans KQ), (mR_2 K5).trans (r3.trans RQ'), fun t i k hrk => ?_, fun t i k hrk => ?_⟩
    · have := rk_ne hrk
      rw [q5 _ _ _ (by omega) (by omega) (by omega) (by omega) (by omega), q3 _ _ _ (by omega)]
      exact Q _ _ _ (by omega) (by omega) (by omega) (by omega) (by omega) (by omega) (by omega) (by omega)
    · have := rk_ne hrk
      rw [mL_2 K5, l3 _ _ _ (by omega)]
      exact LQ _ _ _ (by omega) (by omega)
end RPARK
