section MRK2
variable {N c : Nat} {A : AK} {M M' : ZM}
def qMark (A : AK) (x y : Int) : Int := if 0 ≤ x ∧ x < 4 then (if y = 0 then 1 else match aM A x.toNat with
  | none => 0
  | some _ => 1) else 0
def dMark (A : AK) (x y : Int) : AK := if 0 ≤ x ∧ x < 4 then (if y = 0 then (aP A, aS A, aL A, aV A, fun m => if m = x.toNat then some (aS A, aL A, aV A) else aM A m, aH A, aT A, aX A) else match aM A x.toNat with
  | none => A
  | some z => (aP A, z.1, z.2.1, z.2.2, aM A, [], aT A, aX A)) else A
theorem dMark_v (hv : VA c A) {x y : Int} : VA (c + 1) (dMark A x y) := by
  obtain ⟨h1, h2, h3, h4, h5, h6, h7⟩ := hv.up (Nat.le_succ c)
  unfold dMark
  split
  · next hx =>
    split
    · refine ⟨h1, h2, h3, h4, fun m hm z hz => ?_, h6, h7⟩
      have hz' : (if m = x.toNat then some (aS A, aL A, aV A) else aM A m) = some z := hz
      by_cases e : m = x.toNat
      · rw [if_pos e] at hz'
        cases hz'
        exact ⟨h2, h3, h4⟩
      · rw [if_neg e] at hz'
        exact h5 m hm z hz'
    · cases hm : aM A x.toNat with
      | none => exact ⟨h1, h2, h3, h4, h5, h6, h7⟩
      | some z =>
        obtain ⟨z1, z2, z3⟩ := h5 x.toNat (by omega) z hm
        exact ⟨h1, z1, z2, z3, h5, ⟨by simp [aH], fun y hy => by simp [aH] at hy⟩, h7⟩
  · exact ⟨h1, h2, h3, h4, h5, h6, h7⟩
theorem zlN_m {m : Nat} (hm : m < 4) : zlN (15 + 2 * m) = 40 ∧ zlN (16 + 2 * m) = 8 := by
  have : m = 0 ∨ m = 1 ∨ m = 2 ∨ m = 3 := by omega
  rcases this with rfl | rfl | rfl | rfl <;> exact ⟨rfl, rfl⟩
theorem w_mark (h : CA A M) (hv : VA c A) (hN : 2000 ≤ N) (x y : Int) : ∃ M', Wp_mark N 0 x y M = some (qMark A x y, M') ∧ CA (dMark A x y) M' ∧ zCl M M' := by
  unfold Wp_mark qMark dMark
  by_cases b1 : x < 0
  · rw [if_pos b1, if_neg (by omega), if_neg (by omega)]; exact ⟨M, rfl, h, zCl.rf M⟩
  · rw [if_neg b1]
    by_cases b2 : x < 4
    · obtain ⟨m, rfl⟩ : ∃ m : Nat, x = m := ⟨x.toNat, by omega⟩
      have hm : m < 4 := by omega
      have hz := zlN_m hm
      have hL40 := hv.2.2.1.1
      have hV8 := hv.2.2.2.1.1
      rw [if_pos b2, zI_t (by omega), if_pos (show 0 ≤ (m : Int) ∧ (m : Int) < 4 by omega), if_pos (show 0 ≤ (m : Int) ∧ (m : Int) < 4 by omega), Int.toNat_natCast]
      simp only [zW_e]
      obtain ⟨h1, ⟨p', h2, h3⟩, h4, h5, h7, h8, h9, h10, h11⟩ := id h
      have hp2 := h3.p2
      by_cases by0 : y = 0
      · rw [if_pos by0, if_pos by0, if_pos by0]
        unfold Mk_lay
        obtain ⟨M1, e1, f1, s1⟩ := c_copy (N := N) (a := 18 + m) (b := 0) (by omega) h4
        rw [e1, zBv_s]
        obtain ⟨M2, e2, f2, s2⟩ := c_ncopy (N := N) (M := M1) (q := 15 + 2 * m) (r := 13) (l := aL A) (by omega) (h5.g (fun t k ht => f1.2 _ _ _ (by simp [fS] <;> omega))) (by rw [hz.1]; omega) (by show _ ≤ 40; omega)
        rw [e2, zBv_s]
        obtain ⟨M3, e3, f3, s3⟩ := c_ncopy (N := N) (M := M2) (q := 16 + 2 * m) (r := 14) (l := aV A) (by omega) ((h7.g (fun t k ht => f1.2 _ _ _ (by simp [fS] <;> omega))).g (fun t k ht => f2.2 _ _ _ (by simp <;> omega))) (by rw [hz.2]; omega) (by show _ ≤ 8; omega)
        rw [e3, zBv_s]
        simp only [zW_e]
        rw [zBv_s]
        generalize hM4 : pI M3 2 m 3 1 = M4
        have q : ∀ t i k, ¬ ((t = 7 ∨ t = 40 ∨ t = 41) ∧ i = 18 + m) → ¬ ((t = 3 ∨ t = 26) ∧ (i = 15 + 2 * m ∨ i = 16 + 2 * m)) → ¬ (t = 2 ∧ i = m ∧ k = 3) → mI M4 t i k = mI M t i k := fun t i k a1 a2 a3 => by
          rw [← hM4, mI_pI_ne a3, f3.2 _ _ _ (by simp <;> omega), f2.2 _ _ _ (by simp <;> omega), f1.2 _ _ _ (by simp [fS] <;> omega)]
        have k4 : M4.2 = M.2 := by rw [← hM4]; exact f3.1.trans (f2.1.trans f1.1)
        have er := mR_2 k4
        refine ⟨M4, rfl, ⟨h1.e k4, ⟨p', ⟨by rw [er]; exact h2.1, by rw [er]; exact h2.2⟩, h3.gi (fun t i k ht => q t i k (by omega) (by omega) (by omega)) (fun i k => mL_2 k4 _ _ _)⟩, h4.g (fun t k ht => q _ _ _ (by omega) (by omega) (by omega)), h5.g (fun t k ht => q _ _ _ (by omega) (by omega) (by omega)), h7.g (fun t k ht => q _ _ _ (by omega) (by omega) (by omega)), fun m' hm' => ?_, h9.g (fun k _ => q _ _ _ (by omega) (by omega) (by omega)) (fun t i k ht _ _ => q _ _ _ (by omega) (by omega) (by omega)), h10.g (fun t i k ht => q _ _ _ (by omega) (by omega) (by omega)), h11.g (fun t i k ht => q _ _ _ (by omega) (by omega) (by omega))⟩, mK_2 k4, fun t i k hrk => q t i k (by rintro ⟨h, _⟩; rcases h with rfl | rfl | rfl <;> cases hrk) (by rintro ⟨h, _⟩; rcases h with rfl | rfl <;> cases hrk) (by rintro ⟨rfl, _⟩; cases hrk), fun t i k _ => mL_2 k4 _ _ _⟩
        show CM M4 m' (if m' = m then some (aS A, aL A, aV A) else aM A m')
        by_cases e : m' = m
        · subst e
          rw [if_pos rfl]
          refine .inr ⟨_, rfl, by rw [← hM4, mI_pI_eq], s1.g (fun t k ht => ?_), s2.g (fun t k ht => ?_), s3.g (fun t k ht => ?_)⟩
          · rw [← hM4, mI_pI_ne (by omega), f3.2 _ _ _ (by simp <;> omega), f2.2 _ _ _ (by simp <;> omega)]
          · rw [← hM4, mI_pI_ne (by omega), f3.2 _ _ _ (by simp <;> omega)]
          · rw [← hM4, mI_pI_ne (by omega)]
        · rw [if_neg e]
          exact (h8 m' hm').g (q _ _ _ (by omega) (by omega) (by omega)) (fun t k ht => q _ _ _ (by omega) (by omega) (by omega)) (fun t i k ht hi => q _ _ _ (by omega) (by omega) (by omega))
      · rw [if_neg by0, if_neg by0, if_neg by0]
        rcases h8 m hm with ⟨m1, m2⟩ | ⟨z, m1, m2, m3, m4, m5⟩
        · rw [m2, if_pos rfl, m1]
          exact ⟨M, rfl, h, zCl.rf M⟩
        · obtain ⟨vz1, vz2, vz3⟩ := hv.2.2.2.2.1 m hm z m1
          rw [m2, if_neg (by decide), m1]
          obtain ⟨M1, e1, f1, s1⟩ := c_copy (N := N) (a := 0) (b := 18 + m) (by omega) m3
          rw [e1, zBv_s]
          obtain ⟨M2, e2, f2, s2⟩ := c_ncopy (N := N) (M := M1) (q := 13) (r := 15 + 2 * m) (l := z.2.1) (by omega) (m4.g (fun t k ht => f1.2 _ _ _ (by simp [fS] <;> omega))) (by have := vz2.1; show _ ≤ 40; omega) (by rw [hz.1]; exact vz2.1)
          rw [e2, zBv_s]
          obtain ⟨M3, e3, f3, s3⟩ := c_ncopy (N := N) (M := M2) (q := 14) (r := 16 + 2 * m) (l := z.2.2) (by omega) ((m5.g (fun t k ht => f1.2 _ _ _ (by simp [fS] <;> omega))).g (fun t k ht => f2.2 _ _ _ (by simp <;> omega))) (by have := vz3.1; show _ ≤ 8; omega) (by rw [hz.2]; exact vz3.1)
          rw [e3, zBv_s]
          unfold Wp_forgetPast
          simp only [zW_e]
          rw [zBv_s]
          generalize hM4 : pI (pI M3 10 0 7 0) 10 0 8 0 = M4
          unfold Wp_forgetSearches
          obtain ⟨M5, e5, f5, g5⟩ := c_forget (N := N) hN N 0 M4 (fun o ho => by omega) (by omega) (by omega)
          rw [show ((0 : Nat) : Int) = 0 from rfl] at e5
          rw [e5, zBv_s]
          have r5 : ∀ t i k, t ≠ 6 → mI M5 t i k = mI M4 t i k := fun t i k ht => f5.2 t i k (by simp [ht])
          have r4 : ∀ t i k, t ≠ 10 → mI M4 t i k = mI M3 t i k := fun t i k ht => by rw [← hM4, mI_pI_ne (by omega), mI_pI_ne (by omega)]
          have q : ∀ t i k, ¬ ((t = 7 ∨ t = 40 ∨ t = 41) ∧ i = 0) → ¬ ((t = 3 ∨ t = 26) ∧ (i = 13 ∨ i = 14)) → ¬ (t = 10 ∧ (k = 7 ∨ k = 8)) → ¬ (t = 6 ∧ k = 2) → mI M5 t i k = mI M t i k := fun t i k a1 a2 a3 a4 => by
            rw [f5.2 _ _ _ (by simp <;> omega), ← hM4, mI_pI_ne (by omega), mI_pI_ne (by omega), f3.2 _ _ _ (by simp <;> omega), f2.2 _ _ _ (by simp <;> omega), f1.2 _ _ _ (by simp [fS] <;> omega)]
          have k5 : M5.2 = M.2 := f5.1.trans (by rw [← hM4]; exact f3.1.trans (f2.1.trans f1.1))
          have er := mR_2 k5
          refine ⟨M5, rfl, ⟨h1.e k5, ⟨p', ⟨by rw [er]; exact h2.1, by rw [er]; exact h2.2⟩, h3.gi (fun t i k ht => q t i k (by omega) (by omega) (by omega) (by omega)) (fun i k => mL_2 k5 _ _ _)⟩, s1.g (fun t k ht => ?_), s2.g (fun t k ht => ?_), s3.g (fun t k ht => ?_), fun m' hm' => (h8 m' hm').g (q _ _ _ (by omega) (by omega) (by omega) (by omega)) (fun t k ht => q _ _ _ (by omega) (by omega) (by omega) (by omega)) (fun t i k ht hi => q _ _ _ (by omega) (by omega) (by omega) (by omega)), ⟨0, by omega, ?_, ?_, fun j hj => by simp [aH] at hj⟩, fun o ho => ⟨fun j hj => (q _ _ _ (by omega) (by omega) (by omega) (by omega)).trans ((h10 o ho).1 j hj), .inl (g5 o ho)⟩, h11.g (fun t i k ht => q _ _ _ (by omega) (by omega) (by omega) (by omega))⟩, mK_2 k5, fun t i k hrk => q t i k (by rintro ⟨h, _⟩; rcases h with rfl | rfl | rfl <;> cases hrk) (by rintro ⟨h, _⟩; rcases h with rfl | rfl <;> cases hrk) (by rintro ⟨rfl, _⟩; cases hrk) (by rintro ⟨rfl, _⟩; cases hrk), fun t i k _ => mL_2 k5 _ _ _⟩
          · rw [r5 _ _ _ (by omega), r4 _ _ _ (by omega), f3.2 _ _ _ (by simp <;> omega), f2.2 _ _ _ (by simp <;> omega)]
          · rw [r5 _ _ _ (by omega), r4 _ _ _ (by omega), f3.2 _ _ _ (by simp <;> omega)]
          · rw [r5 _ _ _ (by omega), r4 _ _ _ (by omega)]
          · rw [r5 _ _ _ (by omega), ← hM4, mI_pI_ne (by omega), mI_pI_eq]; rfl
          · rw [r5 _ _ _ (by omega), ← hM4, mI_pI_eq]; rfl
    · rw [if_neg b2, if_neg (by omega), if_neg (by omega)]; exact ⟨M, rfl, h, zCl.rf M⟩
theorem r_ll14 {a b : Nat} (ha : a < 6) (hb : b < 6) (hab : a ≠ b) : ∀ (n k : Nat) (M : ZM), k ≤ 40 → 40 - k < n → ∃ M', Mo_laysLines_14 N n 0 a b k M = some M' ∧ M'.2 = M.2 ∧ (∀ t j, 75 ≤ t ∧ t ≤ 77 → k ≤ j → j < 40 → mI M' t 0 (40 * b + j) = mI M t 0 (40 * a + j)) ∧ (∀ t i j, ¬ (75 ≤ t ∧ t ≤ 77 ∧ i = 0 ∧ 40 * b + k ≤ j ∧ j < 40 * b + 40) → mI M' t i j = mI M t i j) := by
  intro n
  induction n with
  | zero => intros; omega
  | succ n ih =>
    intro k M hk hn
    unfold Mo_laysLines_14
    by_cases e : k = 40
    · subst e
      rw [if_neg (by omega)]
      exact ⟨M, rfl, rfl, fun t j _ _ _ => by omega, fun _ _ _ _ => rfl⟩
    · have e1 : z32 (z32 (40 * (a : Int)) + (k : Int)) = ((40 * a + k : Nat) : Int) := by rw [zs (x := 40 * (a : Int)) (by omega), zs (by omega)]; omega
      have e2 : z32 (z32 (40 * (b : Int)) + (k : Int)) = ((40 * b + k : Nat) : Int) := by rw [zs (x := 40 * (b : Int)) (by omega), zs (by omega)]; omega
      rw [if_pos (by omega), e1, e2]
      clear e1 e2
      simp only [zW_e, Int.toNat_natCast]
      have ia : (0 : Int) ≤ ((40 * a + k : Nat) : Int) ∧ ((40 * a + k : Nat) : Int) < 240 := by omega
      have ib : (0 : Int) ≤ ((40 * b + k : Nat) : Int) ∧ ((40 * b + k : Nat) : Int) < 240 := by omega
      rw [zI_t ia, zI_t ib, zI_t ia, zI_t ib, zI_t ia, zI_t ib, zsucc (by omega)]
      generalize hM1 : pI (pI (pI M 75 0 (40 * b + k) (mI M 75 0 (40 * a + k))) 76 0 (40 * b + k) (mI (pI M 75 0 (40 * b + k) (mI M 75 0 (40 * a + k))) 76 0 (40 * a + k))) 77 0 (40 * b + k) (mI (pI (pI M 75 0 (40 * b + k) (mI M 75 0 (40 * a + k))) 76 0 (40 * b + k) (mI (pI M 75 0 (40 * b + k) (mI M 75 0 (40 * a + k))) 76 0 (40 * a + k))) 77 0 (40 * a + k)) = M1
      have r1 : ∀ t i j, ¬ (75 ≤ t ∧ t ≤ 77 ∧ i = 0 ∧ j = 40 * b + k) → mI M1 t i j = mI M t i j := fun t i j h => by
        rw [← hM1, mI_pI_ne (by omega), mI_pI_ne (by omega), mI_pI_ne (by omega)]
      have g1 : ∀ t, 75 ≤ t ∧ t ≤ 77 → mI M1 t 0 (40 * b + k) = mI M t 0 (40 * a + k) := fun t ht => by
        have : t = 75 ∨ t = 76 ∨ t = 77 := by omega
        rcases this with rfl | rfl | rfl
        · rw [← hM1, mI_pI_ne (by omega), mI_pI_ne (by omega), mI_pI_eq]
        · rw [← hM1, mI_pI_ne (by omega), mI_pI_eq, mI_pI_ne (by omega)]
        · rw [← hM1, mI_pI_eq, mI_pI_ne (by omega), mI_pI_ne (by omega)]
      have k1 : M1.2 = M.2 := by rw [← hM1]; rfl
      obtain ⟨M', e3, k3, g3, r3⟩ := ih (k + 1) M1 (by omega) (by omega)
      refine ⟨M', e3, k3.trans k1, fun t j ht h1 h2 => ?_, fun t i j h => ?_⟩
      · by_cases e4 : j = k
        · subst e4; rw [r3 _ _ _ (by omega), g1 t ht]
        · rw [g3 t j ht (by omega) h2, r1 _ _ _ (by omega)]
      · rw [r3 _ _ _ (by omega), r1 _ _ _ (by omega)]
theorem r_ls14 {a b : Nat} (ha : a < 5) (hb : b < 5) (hab : a ≠ b) : ∀ (n k : Nat) (M : ZM), k ≤ 8 → 8 - k < n → ∃ M', Mo_laysSeen_14 N n 0 a b k M = some M' ∧ M'.2 = M.2 ∧ (∀ t j, 79 ≤ t ∧ t ≤ 80 → k ≤ j → j < 8 → mI M' t 0 (8 * b + j) = mI M t 0 (8 * a + j)) ∧ (∀ t i j, ¬ (79 ≤ t ∧ t ≤ 80 ∧ i = 0 ∧ 8 * b + k ≤ j ∧ j < 8 * b + 8) → mI M' t i j = mI M t i j) := by
  intro n
  induction n with
  | zero => intros; omega
  | succ n ih =>
    intro k M hk hn
    unfold Mo_laysSeen_14
    by_cases e : k = 8
    · subst e
      rw [if_neg (by omega)]
      exact ⟨M, rfl, rfl, fun t j _ _ _ => by omega, fun _ _ _ _ => rfl⟩
    · have e1 : z32 (z32 (8 * (a : Int)) + (k : Int)) = ((8 * a + k : Nat) : Int) := by rw [zs (x := 8 * (a : Int)) (by omega), zs (by omega)]; omega
      have e2 : z32 (z32 (8 * (b : Int)) + (k : Int)) = ((8 * b + k : Nat) : Int) := by rw [zs (x := 8 * (b : Int)) (by omega), zs (by omega)]; omega
      rw [if_pos (by omega), e1, e2]
      clear e1 e2
      simp only [zW_e, Int.toNat_natCast]
      have ia : (0 : Int) ≤ ((8 * a + k : Nat) : Int) ∧ ((8 * a + k : Nat) : Int) < 40 := by omega
      have ib : (0 : Int) ≤ ((8 * b + k : Nat) : Int) ∧ ((8 * b + k : Nat) : Int) < 40 := by omega
      rw [zI_t ia, zI_t ib, zI_t ia, zI_t ib, zsucc (by omega)]
      generalize hM1 : pI (pI M 79 0 (8 * b + k) (mI M 79 0 (8 * a + k))) 80 0 (8 * b + k) (mI (pI M 79 0 (8 * b + k) (mI M 79 0 (8 * a + k))) 80 0 (8 * a + k)) = M1
      have r1 : ∀ t i j, ¬ (79 ≤ t ∧ t ≤ 80 ∧ i = 0 ∧ j = 8 * b + k) → mI M1 t i j = mI M t i j := fun t i j h => by
        rw [← hM1, mI_pI_ne (by omega), mI_pI_ne (by omega)]
      have g1 : ∀ t, 79 ≤ t ∧ t ≤ 80 → mI M1 t 0 (8 * b + k) = mI M t 0 (8 * a + k) := fun t ht => by
        have : t = 79 ∨ t = 80 := by omega
        rcases this with rfl | rfl
        · rw [← hM1, mI_pI_ne (by omega), mI_pI_eq]
        · rw [← hM1, mI_pI_eq, mI_pI_ne (by omega)]
      have k1 : M1.2 = M.2 := by rw [← hM1]; rfl
      obtain ⟨M', e3, k3, g3, r3⟩ := ih (k + 1) M1 (by omega) (by omega)
      refine ⟨M', e3, k3.trans k1, fun t j ht h1 h2 => ?_, fun t i j h => ?_⟩
      · by_cases e4 : j = k
        · subst e4; rw [r3 _ _ _ (by omega), g1 t ht]
        · rw [g3 t j ht (by omega) h2, r1 _ _ _ (by omega)]
      · rw [r3 _ _ _ (by omega), r1 _ _ _ (by omega)]
theorem r_laysLines {a b : Nat} (ha : a < 6) (hb : b < 6) (hab : a ≠ b) (hN : 2000 ≤ N) : ∃ M', Mo_laysLines N 0 a b M = some M' ∧ M'.2 = M.2 ∧ mI M' 74 0 b = mI M 74 0 a ∧ (∀ t j, 75 ≤ t ∧ t ≤ 77 → j < 40 → mI M' t 0 (40 * b + j) = mI M t 0 (40 * a + j)) ∧ (∀ t i j, ¬ (75 ≤ t ∧ t ≤ 77 ∧ i = 0 ∧ 40 * b ≤ j ∧ j < 40 * b + 40) → ¬ (t = 74 ∧ i = 0 ∧ j = b) → mI M' t i j = mI M t i j) := by
  unfold Mo_laysLines
  rw [zI_t (by omega), zI_t (by omega), Int.toNat_natCast, Int.toNat_natCast]
  simp only [zW_e]
  obtain ⟨M', e3, k3, g3, r3⟩ := r_ll14 (N := N) ha hb hab N 0 (pI M 74 0 b (mI M 74 0 a)) (by omega) (by omega)
  refine ⟨M', e3, k3, ?_, fun t j ht hj => ?_, fun t i j h1 h2 => ?_⟩
  · rw [r3 _ _ _ (by omega), mI_pI_eq]
  · rw [g3 t j ht (by omega) hj, mI_pI_ne (by omega)]
  · rw [r3 _ _ _ (by omega), mI_pI_ne (by omega)]
theorem r_laysSeen {a b : Nat} (ha : a < 5) (hb : b < 5) (hab : a ≠ b) (hN : 2000 ≤ N) : ∃ M', Mo_laysSeen N 0 a b M = some M' ∧ M'.2 = M.2 ∧ mI M' 78 0 b = mI M 78 0 a ∧ (∀ t j, 79 ≤ t ∧ t ≤ 80 → j < 8 → mI M' t 0 (8 * b + j) = mI M t 0 (8 * a + j)) ∧ (∀ t i j, ¬ (79 ≤ t ∧ t ≤ 80 ∧ i = 0 ∧ 8 * b ≤ j ∧ j < 8 * b + 8) → ¬ (t = 78 ∧ i = 0 ∧ j = b) → mI M' t i j = mI M t i j) := by
  unfold Mo_laysSeen
  rw [zI_t (by omega), zI_t (by omega), Int.toNat_natCast, Int.toNat_natCast]
  simp only [zW_e]
  obtain ⟨M', e3, k3, g3, r3⟩ := r_ls14 (N := N) ha hb hab N 0 (pI M 78 0 b (mI M 78 0 a)) (by omega) (by omega)
  refine ⟨M', e3, k3, ?_, fun t j ht hj => ?_, fun t i j h1 h2 => ?_⟩
  · rw [r3 _ _ _ (by omega), mI_pI_eq]
  · rw [g3 t j ht (by omega) hj, mI_pI_ne (by omega)]
  · rw [r3 _ _ _ (by omega), mI_pI_ne (by omega)]
theorem zm_1 {m : Nat} (hm : m < 4) : z32 (1 + (m : Int)) = ((1 + m : Nat) : Int) := by rw [zs (by omega)]; omega
theorem zm_16 {m : Nat} (hm : m < 4) : z32 (16 * (m : Int)) = ((16 * m : Nat) : Int) := by rw [zs (by omega)]; omega
theorem rk_ne {t : Nat} (h : rk t = false) : t ≠ 11 ∧ (t < 50 ∨ 91 < t) := by
  simp [rk] at h
  omega
def aLay (A : AK) (m : Nat) : AK := (aP A, aS A, aL A, aV A, fun m' => if m' = m then some (aS A, aL A, aV A) else aM A m', aH A, aT A, aX A)
def aBack (A : AK) (z : MK) : AK := (aP A, z.1, z.2.1, z.2.2, aM A, [], aT A, aX A)
theorem m_lay (h : RA A M) (hv : VA c A) (hN : 2000 ≤ N) {m : Nat} (hm : m < 4) : ∃ M', Mo_mark_29 N 0 m 0 M = some (1, M') ∧ RA (aLay A m) M' ∧ zRl M M' := by
  have hL40 := hv.2.2.1.1
  have hV8 := hv.2.2.2.1.1
  obtain ⟨h1, h2, h3, h4, h5, h6, h7, h8⟩ := id h
  unfold Mo_mark_29
  rw [zI_t (by omega), Int.toNat_natCast, zW_e, if_pos rfl]
  unfold Mo_mark_47
  rw [if_pos rfl]
  unfold Mo_mark_59
  rw [zm_1 hm, zm_16 hm, show z_b1 1 = 1 from rfl]
  generalize hM1 : pI M 86 0 m 1 = M1
  have r1 : ∀ t i j, ¬ (t = 86 ∧ i = 0 ∧ j = m) → mI M1 t i j = mI M t i j := fun t i j hne => by rw [← hM1, mI_pI_ne hne]
  have k1 : M1.2 = M.2 := by rw [← hM1]; rfl
  have km1 : KM M1 := h1.e k1
  obtain ⟨M2, e2, k2, g2, g2', r2⟩ := r_laysLines (N := N) (M := M1) (a := 0) (b := 1 + m) (by omega) (by omega) (by omega) hN
  obtain ⟨M3, e3, k3, g3, g3', r3⟩ := r_laysSeen (N := N) (M := M2) (a := 0) (b := 1 + m) (by omega) (by omega) (by omega) hN
  rw [show ((0 : Nat) : Int) = 0 from rfl] at e2 e3
  have km3 : KM M3 := (km1.e k2).e k3
  obtain ⟨M4, e4, k4, s4, r4⟩ := r_copies (N := N) (M := M3) (t := 81) (t2 := 84) (a := 0) (b := 16 * m) (x := 0) (y := ((16 * m : Nat) : Int)) (n := qN (aP A)) (S := aS A) (by omega) rfl rfl (by omega) (by omega) (by rw [km3.n 16 (fun _ => rfl)]; omega) (by rw [km3.n 64 (fun _ => rfl)]; omega) hN (h3.g (fun k _ _ => by rw [r3 _ _ _ (by omega) (by omega), r2 _ _ _ (by omega) (by omega), r1 _ _ _ (by omega)]))
  rw [e2, zBv_s, e3, zBv_s, if_pos rfl, e4, zBv_s]
  have q : ∀ t i j, ¬ (t = 86 ∧ i = 0 ∧ j = m) → ¬ (75 ≤ t ∧ t ≤ 77 ∧ i = 0 ∧ 40 * (1 + m) ≤ j ∧ j < 40 * (1 + m) + 40) → ¬ (t = 74 ∧ i = 0 ∧ j = 1 + m) → ¬ (79 ≤ t ∧ t ≤ 80 ∧ i = 0 ∧ 8 * (1 + m) ≤ j ∧ j < 8 * (1 + m) + 8) → ¬ (t = 78 ∧ i = 0 ∧ j = 1 + m) → ¬ (t = 84 ∧ i = 0 ∧ 16 * m ≤ j ∧ j < 16 * m + 16) → mI M4 t i j = mI M t i j := fun t i j a1 a2 a3 a4 a5 a6 => by
    rw [r4 _ _ _ (by omega), r3 _ _ _ (by omega) (by omega), r2 _ _ _ (by omega) (by omega), r1 _ _ _ (by omega)]
  have kk : M4.2 = M.2 := k4.trans (k3.trans (k2.trans k1))
  refine ⟨M4, rfl, ⟨h1.e kk, h2.gg (fun t k ht => q _ _ _ (by omega) (by omega) (by omega) (by omega) (by omega) (by omega)) (fun k => mL_2 kk _ _ _), h3.g (fun k _ _ => q _ _ _ (by omega) (by omega) (by omega) (by omega) (by omega) (by omega)), ⟨(q _ _ _ (by omega) (by omega) (by omega) (by omega) (by omega) (by omega)).trans h4.1, h4.2.g (fun t k ht hk hk' => q _ _ _ (by omega) (by omega) (by omega) (by omega) (by omega) (by omega))⟩, ⟨(q _ _ _ (by omega) (by omega) (by omega) (by omega) (by omega) (by omega)).trans h5.1, h5.2.g (fun t k ht hk hk' => q _ _ _ (by omega) (by omega) (by omega) (by omega) (by omega) (by omega))⟩, fun m' hm' => ?_, h7.g (q _ _ _ (by omega) (by omega) (by omega) (by omega) (by omega) (by omega)) (fun k => q _ _ _ (by omega) (by omega) (by omega) (by omega) (by omega) (by omega)), h8.g (fun t k ht => q _ _ _ (by omega) (by omega) (by omega) (by omega) (by omega) (by omega))⟩, mK_2 kk, mR_2 kk, fun t i k hrk => ?_, fun t i k _ => mL_2 kk _ _ _⟩
  · show RM (qN (aP A)) M4 m' (if m' = m then some (aS A, aL A, aV A) else aM A m')
    by_cases e : m' = m
    · subst e
      rw [if_pos rfl]
      refine .inr ⟨_, rfl, ?_, s4, ?_, fun i hi => ?_, ?_, fun i hi => ?_⟩
      · rw [r4 _ _ _ (by omega), r3 _ _ _ (by omega) (by omega), r2 _ _ _ (by omega) (by omega), ← hM1, mI_pI_eq]
      · rw [r4 _ _ _ (by omega), r3 _ _ _ (by omega) (by omega), g2, r1 _ _ _ (by omega), h4.1]
      · have hi' : i < (aL A).length := hi
        have hq := h4.2 i hi'
        have gl : ∀ t, 75 ≤ t ∧ t ≤ 77 → mI M4 t 0 (40 * (1 + m') + i) = mI M t 0 (0 + i) := fun t ht => by
          rw [r4 _ _ _ (by omega), r3 _ _ _ (by omega) (by omega), g2' t i ht (by omega), r1 _ _ _ (by omega)]
        rw [gl _ (by omega), gl _ (by omega), gl _ (by omega)]
        exact hq
      · rw [r4 _ _ _ (by omega), g3, r2 _ _ _ (by omega) (by omega), r1 _ _ _ (by omega), h5.1]
      · have hi' : i < (aV A).length := hi
        have hq := h5.2 i hi'
        have gl : ∀ t, 79 ≤ t ∧ t ≤ 80 → mI M4 t 0 (8 * (1 + m') + i) = mI M t 0 (0 + i) := fun t ht => by
          rw [r4 _ _ _ (by omega), g3' t i ht (by omega), r2 _ _ _ (by omega) (by omega), r1 _ _ _ (by omega)]
        rw [gl _ (by omega), gl _ (by omega)]
        exact hq
    · rw [if_neg e]
      rcases h6 m' hm' with ⟨n1, n2⟩ | ⟨z, n1, n2⟩
      · exact .inl ⟨n1, (q _ _ _ (by omega) (by omega) (by omega) (by omega) (by omega) (by omega)).trans n2⟩
      · have v5 := hv.2.2.2.2.1 m' hm' z n1
        have v6 := v5.2.1.1
        have v7 := v5.2.2.1
        refine (h6 m' hm').g (fun t k ht a1 a2 a3 a4 a5 => ?_)
        refine q _ _ _ (by omega) (fun hh => ?_) (by omega) (fun hh => ?_) (by omega) (by omega)
        · have := (a4 ⟨hh.1, hh.2.1⟩).2 z n1; have := (a4 ⟨hh.1, hh.2.1⟩).1; omega
        · have := (a5 ⟨hh.1, hh.2.1⟩).2 z n1; have := (a5 ⟨hh.1, hh.2.1⟩).1; omega
  · have := rk_ne hrk
    exact q t i k (by omega) (by omega) (by omega) (by omega) (by omega) (by omega)
theorem m_back (h : RA A M) (hv : VA c A) (hN : 2000 ≤ N) {m : Nat} (hm : m < 4) {z : MK} (hz : aM A m = some z) {y : Int} (hy : y ≠ 0) : ∃ M', Mo_mark_29 N 0 m y M = some (1, M') ∧ RA (aBack A z) M' ∧ zRl M M' := by
  obtain ⟨h1, h2, h3, h4, h5, h6, h7, h8⟩ := id h
  have v5 := hv.2.2.2.2.1 m hm z hz
  have v6 := v5.2.1.1
  have v7 := v5.2.2.1
  have hm6 := h6 m hm
  rw [hz] at hm6
  rcases hm6 with ⟨n1, _⟩ | ⟨z', n1, n2, n3, n4, n5, n6, n7⟩
  · cases n1
  cases n1
  unfold Mo_mark_29
  rw [zI_t (by omega), Int.toNat_natCast, zW_e, if_neg hy]
  unfold Mo_mark_47
  rw [if_neg hy]
  unfold Mo_mark_59
  rw [zm_1 hm, zm_16 hm, show z_b1 1 = 1 from rfl]
  generalize hM1 : pI M 86 0 m 1 = M1
  have r1 : ∀ t i j, mI M1 t i j = mI M t i j := fun t i j => by
    by_cases e : t = 86 ∧ i = 0 ∧ j = m
    · obtain ⟨rfl, rfl, rfl⟩ := e
      rw [← hM1, mI_pI_eq, n2]
    · rw [← hM1, mI_pI_ne e]
  have k1 : M1.2 = M.2 := by rw [← hM1]; rfl
  have km1 : KM M1 := h1.e k1
  obtain ⟨M2, e2, k2, g2, g2', r2⟩ := r_laysLines (N := N) (M := M1) (a := 1 + m) (b := 0) (by omega) (by omega) (by omega) hN
  obtain ⟨M3, e3, k3, g3, g3', r3⟩ := r_laysSeen (N := N) (M := M2) (a := 1 + m) (b := 0) (by omega) (by omega) (by omega) hN
  rw [show ((0 : Nat) : Int) = 0 from rfl] at e2 e3
  have km3 : KM M3 := (km1.e k2).e k3
  obtain ⟨M4, e4, k4, s4, r4⟩ := r_copies (N := N) (M := M3) (t := 84) (t2 := 81) (a := 16 * m) (b := 0) (x := ((16 * m : Nat) : Int)) (y := 0) (n := qN (aP A)) (S := z.1) (by omega) rfl rfl (by omega) (by omega) (by rw [km3.n 64 (fun _ => rfl)]; omega) (by rw [km3.n 16 (fun _ => rfl)]; omega) hN (n3.g (fun k _ _ => by rw [r3 _ _ _ (by omega) (by omega), r2 _ _ _ (by omega) (by omega), r1]))
  rw [e2, zBv_s, e3, zBv_s, if_neg hy, e4, zBv_s, zW_e]
  generalize hM5 : pI M4 11 0 49 0 = M5
  have r5 : ∀ t i j, ¬ (t = 11 ∧ i = 0 ∧ j = 49) → mI M5 t i j = mI M4 t i j := fun t i j hne => by rw [← hM5, mI_pI_ne hne]
  have q : ∀ t i j, ¬ (75 ≤ t ∧ t ≤ 77 ∧ i = 0 ∧ j < 40) → ¬ (t = 74 ∧ i = 0 ∧ j = 0) → ¬ (79 ≤ t ∧ t ≤ 80 ∧ i = 0 ∧ j < 8) → ¬ (t = 78 ∧ i = 0 ∧ j = 0) → ¬ (t = 81 ∧ i = 0 ∧ j < 16) → ¬ (t = 11 ∧ i = 0 ∧ j = 49) → mI M5 t i j = mI M t i j := fun t i j a1 a2 a3 a4 a5 a6 => by
    rw [r5 _ _ _ (by omega), r4 _ _ _ (by omega), r3 _ _ _ (by omega) (by omega), r2 _ _ _ (by omega) (by omega), r1]
  have kk : M5.2 = M.2 := by rw [← hM5]; exact k4.trans (k3.trans (k2.trans k1))
  refine ⟨M5, rfl, ⟨h1.e kk, h2.gg (fun t k ht => q _ _ _ (by omega) (by omega) (by omega) (by omega) (by omega) (by omega)) (fun k => mL_2 kk _ _ _), s4.g (fun k _ _ => r5 _ _ _ (by omega)), ⟨?_, fun i hi => ?_⟩, ⟨?_, fun i hi => ?_⟩, fun m' hm' => (h6 m' hm').g (fun t k ht a1 a2 a3 a4 a5 => q _ _ _ (by omega) (by omega) (by omega) (by omega) (by omega) (by omega)), ⟨?_, fun j hj => by simp [aH, aBack] at hj⟩, h8.g (fun t k ht => q _ _ _ (by omega) (by omega) (by omega) (by omega) (by omega) (by omega))⟩, mK_2 kk, mR_2 kk, fun t i k hrk => ?_, fun t i k _ => mL_2 kk _ _ _⟩
  · rw [r5 _ _ _ (by omega), r4 _ _ _ (by omega), r3 _ _ _ (by omega) (by omega), g2, r1]
    exact n4
  · have hi' : i < z.2.1.length := hi
    have hq := n5 i hi'
    have gl : ∀ t, 75 ≤ t ∧ t ≤ 77 → mI M5 t 0 (0 + i) = mI M t 0 (40 * (1 + m) + i) := fun t ht => by
      have g := g2' t i ht (by omega)
      rw [Nat.mul_zero] at g
      rw [r5 _ _ _ (by omega), r4 _ _ _ (by omega), r3 _ _ _ (by omega) (by omega), g, r1]
    rw [gl _ (by omega), gl _ (by omega), gl _ (by omega)]
    exact hq
  · rw [r5 _ _ _ (by omega), r4 _ _ _ (by omega), g3, r2 _ _ _ (by omega) (by omega), r1]
    exact n6
  · have hi' : i < z.2.2.length := hi
    have hq := n7 i hi'
    have gl : ∀ t, 79 ≤ t ∧ t ≤ 80 → mI M5 t 0 (0 + i) = mI M t 0 (8 * (1 + m) + i) := fun t ht => by
      have g := g3' t i ht (by omega)
      rw [Nat.mul_zero] at g
      rw [r5 _ _ _ (by omega), r4 _ _ _ (by omega), g, r2 _ _ _ (by omega) (by omega), r1]
    rw [gl _ (by omega), gl _ (by omega)]
    exact hq
  · rw [← hM5, mI_pI_eq]; rfl
  · have := rk_ne hrk
    exact q t i k (by omega) (by omega) (by omega) (by omega) (by omega) (by omega)
theorem m_mark (h : RA A M) (hv : VA c A) (hN : 2000 ≤ N) (x y : Int) : ∃ M', Mo_mark N 0 x y M = some (qMark A x y, M') ∧ RA (dMark A x y) M' ∧ zRl M M' := by
  have h0 := h.z 0
  unfold Mo_mark qMark dMark
  rw [zW_e, r_within, zB_s]
  by_cases b : 0 ≤ x ∧ x ≤ 3
  · obtain ⟨m, rfl⟩ : ∃ m : Nat, x = m := ⟨x.toNat, by omega⟩
    have hm : m < 4 := by omega
    rw [if_pos b, if_neg (by decide), if_pos (show 0 ≤ (m : Int) ∧ (m : Int) < 4 by omega), if_pos (show 0 ≤ (m : Int) ∧ (m : Int) < 4 by omega), Int.toNat_natCast]
    by_cases by0 : y = 0
    · subst by0
      rw [if_pos rfl, if_pos rfl, if_pos rfl]
      obtain ⟨M1, e1, a1, f1⟩ := m_lay h0 hv hN hm
      exact ⟨M1, e1, a1, (zRl.z 0).tr f1⟩
    · rw [if_neg by0, if_neg by0, if_neg by0, zI_t (by omega)]
      rcases h0.2.2.2.2.2.1 m hm with ⟨n1, n2⟩ | ⟨z, n1, n2, _⟩
      · rw [n2, if_pos rfl, n1]
        exact ⟨_, rfl, h0, zRl.z 0⟩
      · rw [n2, if_neg (by decide), n1]
        obtain ⟨M1, e1, a1, f1⟩ := m_back h0 hv hN hm n1 by0
        exact ⟨M1, e1, a1, (zRl.z 0).tr f1⟩
  · rw [if_neg b, if_pos rfl, if_neg (by omega), if_neg (by omega)]
    exact ⟨_, rfl, h0, zRl.z 0⟩
end MRK2
