section MARK
variable {N c : Nat} {A : AK} {M M' : ZM}
theorem CP.gi {p : Nat} {P : PK} (h : CP p P M) (e : ∀ t i k, (t = 4 ∨ (28 ≤ t ∧ t ≤ 32)) ∨ ((t = 3 ∨ t = 26) ∧ 7 * p ≤ i ∧ i ≤ 7 * p + 5) → mI M' t i k = mI M t i k) (e2 : ∀ i k, mL M' 27 i k = mL M 27 i k) : CP p P M' := by
  obtain ⟨h1, h2, h3, h4, h5, h6, h7, ⟨w, h8⟩, h9⟩ := h
  refine ⟨(e 4 p 0 (by omega)).trans h1, fun k hk => ?_, ⟨(e _ _ _ (by omega)).trans h3.1, fun i hi => (e _ _ _ (by omega)).trans (h3.2 i hi)⟩, fun j hj => ⟨(e _ _ _ (by omega)).trans (h4 j hj).1, fun k hk => (e _ _ _ (by omega)).trans ((h4 j hj).2 k hk)⟩, ⟨(e _ _ _ (by omega)).trans h5.1, fun i hi => (e _ _ _ (by omega)).trans (h5.2 i hi)⟩, (e _ _ _ (by omega)).trans h6, (e _ _ _ (by omega)).trans h7, ⟨w, (e _ _ _ (by omega)).trans h8.1, h8.2.1, fun i hi => (e _ _ _ (by omega)).trans (h8.2.2.1 i hi), h8.2.2.2⟩, h9⟩
  obtain ⟨a1, a2, a3, a4, a5, a6⟩ := h2 k hk
  exact ⟨(e _ _ _ (by omega)).trans a1, (e _ _ _ (by omega)).trans a2, (e _ _ _ (by omega)).trans a3, (e _ _ _ (by omega)).trans a4, (e _ _ _ (by omega)).trans a5, (e2 _ _).trans a6⟩
/-- one more number -/
theorem c_add {q : Nat} {l : List Int} {x : Int} (h : CN q l M) (hz : (l.length : Int) < (zlN q : Int)) (hz2 : zlN q ≤ 1000) : ∃ M', Nu_add N q x M = some (1, M') ∧ zfr (fun t i _ => (t == 3 || t == 26) && i == q) M M' ∧ CN q (l ++ [x]) M' := by
  unfold Nu_add
  rw [h.1, if_pos hz, zI_t (by omega)]
  simp only [zW_e, Int.toNat_natCast]
  rw [mI_pI_ne (by omega), h.1, zsucc (by omega)]
  refine ⟨_, rfl, ((zfr.rf M).pI (by simp)).pI (by simp), ?_, fun i hi => ?_⟩
  · rw [mI_pI_eq, List.length_append]; rfl
  · rw [mI_pI_ne (by omega), mI_pI]
    by_cases e : i = l.length
    · subst e; rw [if_pos ⟨rfl, rfl, rfl⟩, List.getElem_append_right (Nat.le_refl _)]; simp
    · rw [List.length_append, List.length_singleton] at hi
      rw [if_neg (by omega), h.2 i (by omega), List.getElem_append_left]
theorem c_ncopy {q r : Nat} {l : List Int} (hqr : q ≠ r) (h : CN r l M) (hz : l.length ≤ zlN q) (hz2 : l.length ≤ zlN r) : ∃ M', Nu_copy N q r M = some M' ∧ zfr (fun t i _ => (t == 3 || t == 26) && i == q) M M' ∧ CN q l M' := by
  unfold Nu_copy
  have e1 : zmin (l.length : Int) (zlN q : Int) = (l.length : Int) := by unfold zmin; rw [if_neg (by omega)]
  rw [h.1, e1]
  simp only [zW_e]
  rw [mI_pI_eq, zI_t (by omega), Int.toNat_natCast]
  refine ⟨_, rfl, ((zfr.rf M).pI (by simp)).pC (fun k => by simp), ?_, fun i hi => ?_⟩
  · rw [mI_pCp, if_neg (by omega), mI_pI_eq]
  · rw [mI_pCp, if_pos (by omega), mI_pI_ne (by omega), show 0 + (i - 0) = i by omega, h.2 i hi]
def qSee (A : AK) (x y : Int) : Int := if (0 ≤ x ∧ x < qN (aP A)) ∧ (0 ≤ y ∧ y ≤ 99) ∧ (aV A).length < 8 then 1 else 0
def dSee (A : AK) (x y : Int) : AK := if (0 ≤ x ∧ x < qN (aP A)) ∧ (0 ≤ y ∧ y ≤ 99) ∧ (aV A).length < 8 then (aP A, aS A, aL A, aV A ++ [x * 100 + y], aM A, aH A, aT A, aX A) else A
theorem dSee_v (hv : VA c A) {x y : Int} : VA (c + 1) (dSee A x y) := by
  unfold dSee
  split
  · next h =>
    obtain ⟨h1, h2, h3, h4, h5, h6, h7⟩ := hv.up (Nat.le_succ c)
    refine ⟨h1, h2, h3, ⟨?_, fun z hz => ?_⟩, h5, h6, h7⟩
    · show (aV A ++ [x * 100 + y]).length ≤ 8
      rw [List.length_append, List.length_singleton]; omega
    · rcases List.mem_append.1 hz with e | e
      · exact h4.2 z e
      · have : z = x * 100 + y := by simpa using e
        subst this
        show 0 ≤ x * 100 + y ∧ (x * 100 + y) / 100 < (qN (aP A) : Int)
        omega
  · exact hv.up (Nat.le_succ c)
theorem w_see (h : CA A M) (hv : VA c A) (x y : Int) : ∃ M', Wp_see N 0 x y M = some (qSee A x y, M') ∧ CA (dSee A x y) M' ∧ zCl M M' := by
  obtain ⟨p, hr, hp⟩ := h.2.1
  have h6 := hv.p.n
  have h8 := hv.2.2.2.1.1
  unfold Wp_see qSee dSee
  rw [c_stands hr hp, zB_s]
  by_cases b : 0 ≤ x ∧ x < qN (aP A)
  · rw [if_pos b, if_neg (by decide)]
    by_cases b1 : y < 0
    · rw [if_pos b1, if_neg (by omega), if_neg (by omega)]; exact ⟨M, rfl, h, zCl.rf M⟩
    · rw [if_neg b1]
      by_cases b2 : 99 < y
      · rw [if_pos b2, if_neg (by omega), if_neg (by omega)]; exact ⟨M, rfl, h, zCl.rf M⟩
      · rw [if_neg b2, zs (x := x * 100) (by omega), zs (x := x * 100 + y) (by omega)]
        have hcn := h.2.2.2.2.1
        by_cases b3 : (aV A).length < 8
        · rw [if_pos ⟨b, by omega, b3⟩, if_pos ⟨b, by omega, b3⟩]
          obtain ⟨M1, e1, f1, g1⟩ := c_add (N := N) (x := x * 100 + y) hcn (by show _ < ((8 : Nat) : Int); omega) (by decide)
          rw [e1, zB_s]
          refine ⟨M1, rfl, ?_, f1.cl (fun t i k h => by simp [rk] at h; simp; omega)⟩
          obtain ⟨h1, ⟨p', h2, h3⟩, h4, h5, h7, h8', h9, h10, h11⟩ := h
          have q : ∀ t i k, ¬ ((t = 3 ∨ t = 26) ∧ i = 14) → mI M1 t i k = mI M t i k := fun t i k hne => f1.2 t i k (by simp; omega)
          have er := mR_2 f1.1
          have hp2 := h3.p2
          exact ⟨h1.e f1.1, ⟨p', ⟨by rw [er]; exact h2.1, by rw [er]; exact h2.2⟩, h3.gi (fun t i k ht => q t i k (by omega)) (fun i k => mL_2 f1.1 _ _ _)⟩, h4.g (fun t k ht => q _ _ _ (by omega)), h5.g (fun t k ht => q _ _ _ (by omega)), g1, fun m hm => (h8' m hm).g (q _ _ _ (by omega)) (fun t k ht => q _ _ _ (by omega)) (fun t i k ht _ => q _ _ _ (by omega)), h9.g (fun k _ => q _ _ _ (by omega)) (fun t i k ht _ _ => q _ _ _ (by omega)), h10.g (fun t i k ht => q _ _ _ (by omega)), h11.g (fun t i k ht => q _ _ _ (by omega))⟩
        · rw [if_neg (fun h => b3 h.2.2), if_neg (fun h => b3 h.2.2)]
          unfold Nu_add
          rw [hcn.1, if_neg (by show ¬ _ < ((8 : Nat) : Int); omega), zB_s]
          exact ⟨M, rfl, h, zCl.rf M⟩
  · rw [if_neg b, if_pos rfl, if_neg (fun h => b h.1), if_neg (fun h => b h.1)]; exact ⟨M, rfl, h, zCl.rf M⟩
theorem m_see (h : RA A M) (hv : VA c A) (x y : Int) : ∃ M', Mo_see N 0 x y M = some (qSee A x y, M') ∧ RA (dSee A x y) M' ∧ zRl M M' := by
  have h0 := h.z 0
  have h6 := hv.p.n
  have h8 := hv.2.2.2.1.1
  unfold Mo_see qSee dSee
  simp only [zW_e]
  rw [r_isTurbine h0.p, zB_s]
  by_cases b : 0 ≤ x ∧ x < qN (aP A)
  · rw [if_pos b, if_neg (by decide), r_within, zB_s]
    by_cases b1 : 0 ≤ y ∧ y ≤ 99
    · have h78 : mI (pI M 11 0 0 0) 78 0 0 = ((aV A).length : Int) := h0.2.2.2.2.1.1
      rw [if_pos b1, if_neg (by decide), h78]
      by_cases b3 : (aV A).length < 8
      · rw [if_neg (by omega), if_pos ⟨b, b1, b3⟩, if_pos ⟨b, b1, b3⟩, zI_t (by omega), mI_pI_ne (by omega), h78, zI_t (by omega), Int.toNat_natCast, mI_pI_ne (by omega), mI_pI_ne (by omega), h78, zsucc (by omega)]
        generalize hM1 : pI (pI (pI (pI M 11 0 0 0) 79 0 (aV A).length x) 80 0 (aV A).length y) 78 0 0 (((aV A).length + 1 : Nat) : Int) = M1
        have q : ∀ t i k, ¬ (t = 79 ∧ i = 0 ∧ k = (aV A).length) → ¬ (t = 80 ∧ i = 0 ∧ k = (aV A).length) → ¬ (t = 78 ∧ i = 0 ∧ k = 0) → mI M1 t i k = mI (pI M 11 0 0 0) t i k := fun t i k a1 a2 a3 => by
          rw [← hM1, mI_pI_ne a3, mI_pI_ne a2, mI_pI_ne a1]
        have k1 : M1.2 = M.2 := by rw [← hM1]; rfl
        obtain ⟨h1, h2, h3, h4, h5, h6', h7, h9⟩ := h0
        have hR1 : mI M1 78 0 0 = ((aV A ++ [x * 100 + y]).length : Int) := by rw [← hM1, mI_pI_eq, List.length_append]; rfl
        have hR2 : RV 0 (aV A ++ [x * 100 + y]) M1 := fun i hi => by
          rw [List.length_append, List.length_singleton] at hi
          by_cases e : i = (aV A).length
          · subst e
            rw [List.getElem_append_right (Nat.le_refl _)]
            simp only [Nat.sub_self, List.getElem_cons_zero]
            rw [Nat.zero_add, ← hM1, mI_pI_ne (by omega), mI_pI_ne (by omega), mI_pI_eq, mI_pI_ne (by omega), mI_pI_eq]
            omega
          · rw [List.getElem_append_left (by omega), q _ _ _ (by omega) (by omega) (by omega), q _ _ _ (by omega) (by omega) (by omega)]
            exact h5.2 i (by omega)
        refine ⟨M1, rfl, ?_, mK_2 k1, mR_2 k1, fun t i k hrk => ?_, fun t i k _ => mL_2 k1 _ _ _⟩
        · exact ⟨h1.e (by rw [k1]; rfl), h2.gg (fun t k ht => q _ _ _ (by omega) (by omega) (by omega)) (fun k => mL_2 k1 _ _ _), h3.g (fun k _ _ => q _ _ _ (by omega) (by omega) (by omega)), ⟨(q _ _ _ (by omega) (by omega) (by omega)).trans h4.1, h4.2.g (fun t k ht _ _ => q _ _ _ (by omega) (by omega) (by omega))⟩, ⟨hR1, hR2⟩, fun m hm => (h6' m hm).g (fun t k ht a1 a2 a3 a4 a5 => q _ _ _ (by omega) (by omega) (by omega)), h7.g (q _ _ _ (by omega) (by omega) (by omega)) (fun k => q _ _ _ (by omega) (by omega) (by omega)), h9.g (fun t k ht => q _ _ _ (by omega) (by omega) (by omega))⟩
        · rw [q t i k (by rintro ⟨rfl, _⟩; cases hrk) (by rintro ⟨rfl, _⟩; cases hrk) (by rintro ⟨rfl, _⟩; cases hrk), mI_pI_ne (by rintro ⟨rfl, _⟩; cases hrk)]
      · rw [if_pos (by omega), if_neg (fun h => b3 h.2.2), if_neg (fun h => b3 h.2.2)]
        exact ⟨_, rfl, h0, zRl.z 0⟩
    · rw [if_neg b1, if_pos rfl, if_neg (fun h => b1 h.2.1), if_neg (fun h => b1 h.2.1)]
      exact ⟨_, rfl, h0, zRl.z 0⟩
  · rw [if_neg b, if_pos rfl, if_neg (fun h => b h.1), if_neg (fun h => b h.1)]
    exact ⟨_, rfl, h0, zRl.z 0⟩
end MARK
