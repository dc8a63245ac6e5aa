/-! What changes: the reference. -/
def fJ (t _i k : Nat) : Bool := (t == 11 && (k == 0 || k == 49 || k == 50 || k == 51)) || (64 ≤ t && t ≤ 73) || t == 81 || t == 85 || t == 87 || t == 88
theorem fJ_rk : ∀ t i k, rk t = false → fJ t i k = false := by
  intro t i k h; simp [rk] at h; simp [fJ]; omega
theorem fJ_p : ∀ t k, t = 51 ∨ (53 ≤ t ∧ t ≤ 61) → fJ t 0 k = false := by
  intro t k h; simp [fJ]; omega
theorem fp_J : ∀ t i k, fJ t i k = false → fp t i k = false := by
  intro t i k h; simp [fJ] at h; simp [fp, fr]; omega
section CHR
variable {N c : Nat} {A : AK} {M M' : ZM}
theorem RA.fj (h : RA A M) (f : zfr fJ M M') {S : SK} {H : List SK} (hs : R0 (qN (aP A)) S M') (hh : RHi (qN (aP A)) H M') : RA (aSet A S H) M' ∧ zRl M M' := by
  obtain ⟨h1, h2, h3, h4, h5, h6, h7, h8⟩ := h
  have q : ∀ t i k, fJ t i k = false → mI M' t i k = mI M t i k := f.2
  exact ⟨⟨h1.e f.1, h2.fr f fJ_p, hs, ⟨(q _ _ _ (by simp [fJ])).trans h4.1, h4.2.g (fun t k ht _ _ => q _ _ _ (by simp [fJ]; omega))⟩, ⟨(q _ _ _ (by simp [fJ])).trans h5.1, h5.2.g (fun t k ht _ _ => q _ _ _ (by simp [fJ]; omega))⟩, fun m hm => (h6 m hm).g (fun t k ht _ _ _ _ _ => q _ _ _ (by simp [fJ]; omega)), hh, h8.g (fun t k ht => q _ _ _ (by simp [fJ]; omega))⟩, f.rl fJ_rk⟩
theorem r_ke11 : ∀ (n k : Nat) (M M0 : ZM), (∀ j, j < k → mI M 85 0 j = mI M0 85 0 (j + 16)) → (∀ j, k ≤ j → mI M 85 0 j = mI M0 85 0 j) → k ≤ 240 → 240 - k < n → ∃ M1, Mo_keeps_11 N n 0 k M = Mo_keeps_49 N 0 (pI M1 11 0 49 (z32 (mI M 11 0 49 - 1))) ∧ zfr (fun t _ _ => t == 85) M M1 ∧ (∀ j, j < 240 → mI M1 85 0 j = mI M0 85 0 (j + 16)) := by
  intro n
  induction n with
  | zero => intros; omega
  | succ n ih =>
    intro k M M0 h1 h2 hk hn
    unfold Mo_keeps_11
    by_cases e : k = 240
    · subst e
      rw [if_neg (by omega)]
      simp only [zW_e]
      exact ⟨M, rfl, zfr.rf M, h1⟩
    · have e1 : z32 ((k : Int) + 16) = ((k + 16 : Nat) : Int) := by rw [zs (by omega)]; omega
      rw [if_pos (by omega), e1]
      clear e1
      simp only [zW_e, Int.toNat_natCast]
      rw [zI_t (by omega), zI_t (by omega), zsucc (by omega), h2 (k + 16) (by omega)]
      have f1 : zfr (fun t _ _ => t == 85) M (pI M 85 0 k (mI M0 85 0 (k + 16))) := (zfr.rf M).pI (by simp)
      obtain ⟨M1, e2, f2, g2⟩ := ih (k + 1) (pI M 85 0 k (mI M0 85 0 (k + 16))) M0 (fun j hj => by
        rw [mI_pI]
        by_cases e4 : j = k
        · rw [if_pos ⟨rfl, rfl, e4⟩, e4]
        · rw [if_neg (by omega), h1 j (by omega)]) (fun j hj => by rw [mI_pI_ne (by omega), h2 j (by omega)]) (by omega) (by omega)
      rw [mI_pI_ne (by omega)] at e2
      exact ⟨M1, e2, f1.tr f2, g2⟩
theorem r_ke49 (hN : 2000 ≤ N) (hk : KM M) {n d : Nat} {S : SK} (hs : R0 n S M) (hd : mI M 11 0 49 = (d : Int)) (hd16 : d < 16) : ∃ M', Mo_keeps_49 N 0 M = some M' ∧ M'.2 = M.2 ∧ RS 85 (16 * d) n S M' ∧ mI M' 11 0 49 = ((d + 1 : Nat) : Int) ∧ (∀ t i j, ¬ (t = 85 ∧ i = 0 ∧ 16 * d ≤ j ∧ j < 16 * d + 16) → ¬ (t = 11 ∧ i = 0 ∧ j = 49) → mI M' t i j = mI M t i j) := by
  unfold Mo_keeps_49
  have e1 : z32 (16 * (d : Int)) = ((16 * d : Nat) : Int) := by rw [zs (by omega)]; omega
  rw [hd, e1]
  clear e1
  obtain ⟨M1, e1, k1, s1, r1⟩ := r_copies (N := N) (t := 81) (t2 := 85) (a := 0) (b := 16 * d) (x := 0) (y := ((16 * d : Nat) : Int)) (by omega) rfl rfl (by omega) (by omega) (by rw [hk.n 16 (fun _ => rfl)]; omega) (by rw [hk.n 256 (fun _ => rfl)]; omega) hN hs
  rw [e1, zBv_s]
  simp only [zW_e]
  rw [r1 _ _ _ (by omega), hd, zsucc (by omega)]
  exact ⟨_, rfl, k1, s1.g (fun k _ _ => mI_pI_ne (by omega)), mI_pI_eq, fun t i j h1 h2 => by rw [mI_pI_ne (by omega), r1 _ _ _ (by omega)]⟩
theorem r_keeps (h : RA A M) (hv : VA c A) (hN : 2000 ≤ N) : ∃ M', Mo_keeps N 0 M = some M' ∧ zfr fJ M M' ∧ R0 (qN (aP A)) (aS A) M' ∧ RHi (qN (aP A)) (hPush (aS A) (aH A)) M' := by
  obtain ⟨q1, q2⟩ := h.2.2.2.2.2.2.1
  have hl := hv.2.2.2.2.2.1.1
  unfold Mo_keeps
  rw [q1]
  by_cases b : (aH A).length = 16
  · rw [if_pos (by omega)]
    obtain ⟨M1, e1, f1, g1⟩ := r_ke11 (N := N) N 0 M M (fun j hj => by omega) (fun j _ => rfl) (by omega) (by omega)
    rw [show ((0 : Nat) : Int) = 0 from rfl, q1, b, show z32 (((16 : Nat) : Int) - 1) = ((15 : Nat) : Int) by decide] at e1
    rw [e1]
    have f1j : zfr fJ M M1 := f1.mo (fun t i k h => by simp [fJ] at h; simp; omega)
    have r1 : ∀ t i j, t ≠ 85 → mI M1 t i j = mI M t i j := fun t i j ht => f1.2 t i j (by simp [ht])
    obtain ⟨M2, e2, k2, s2, g2, r2⟩ := r_ke49 (N := N) (M := pI M1 11 0 49 ((15 : Nat) : Int)) hN (h.k.e f1.1) (h.s.g (fun k _ _ => by rw [mI_pI_ne (by omega), r1 _ _ _ (by omega)])) mI_pI_eq (by omega)
    rw [e2]
    refine ⟨M2, rfl, ⟨k2.trans f1.1, fun t i k hf => ?_⟩, h.s.g (fun k _ _ => ?_), ?_, fun j hj => ?_⟩
    · simp [fJ] at hf
      rw [r2 _ _ _ (by omega) (by omega), mI_pI_ne (by omega), r1 _ _ _ (by omega)]
    · rw [r2 _ _ _ (by omega) (by omega), mI_pI_ne (by omega), r1 _ _ _ (by omega)]
    · rw [g2]; unfold hPush; rw [List.length_take, List.length_cons, b]; rfl
    · have hpl : (hPush (aS A) (aH A)).length = 16 := by unfold hPush; rw [List.length_take, List.length_cons, b]; rfl
      rw [hpl] at hj ⊢
      rw [hPush_get (by omega) (by rw [List.length_cons]; omega)]
      cases j with
      | zero => rw [List.getElem_cons_zero]; exact s2
      | succ j =>
        rw [List.getElem_cons_succ]
        have hq := q2 j (by omega)
        have eb : 16 * ((aH A).length - 1 - j) = 16 * (16 - 1 - j) := by omega
        rw [eb] at hq
        obtain ⟨a1, a2, a3, a4, a5⟩ := hq
        have gg : ∀ k, k < 16 → mI M2 85 0 (16 * (16 - 1 - (j + 1)) + k) = mI M 85 0 (16 * (16 - 1 - j) + k) := fun k hk => by
          rw [r2 _ _ _ (by omega) (by omega), mI_pI_ne (by omega), g1 _ (by omega)]
          congr 1
          omega
        refine ⟨fun k hk => ⟨?_, ?_⟩, ?_, ?_, ?_, ?_⟩
        · rw [Nat.add_assoc, gg _ (by omega), ← Nat.add_assoc]; exact (a1 k hk).1
        · rw [Nat.add_assoc, gg _ (by omega), ← Nat.add_assoc]; exact (a1 k hk).2
        · have := gg 0 (by omega); rw [Nat.add_zero, Nat.add_zero] at this; rw [this]; exact a2
        · rw [gg _ (by omega)]; exact a3
        · rw [gg _ (by omega)]; exact a4
        · rw [gg _ (by omega)]; exact a5
  · rw [if_neg (by omega)]
    obtain ⟨M2, e2, k2, s2, g2, r2⟩ := r_ke49 (N := N) hN h.k h.s q1 (by omega)
    rw [e2]
    have hpl : (hPush (aS A) (aH A)).length = (aH A).length + 1 := by unfold hPush; rw [List.length_take, List.length_cons]; omega
    refine ⟨M2, rfl, ⟨k2, fun t i k hf => ?_⟩, h.s.g (fun k _ _ => ?_), ?_, fun j hj => ?_⟩
    · simp [fJ] at hf
      exact r2 _ _ _ (by omega) (by omega)
    · exact r2 _ _ _ (by omega) (by omega)
    · rw [g2, hpl]
    · rw [hpl] at hj ⊢
      rw [hPush_get (by rw [hpl]; exact hj) (by rw [List.length_cons]; omega)]
      cases j with
      | zero => rw [List.getElem_cons_zero, show (aH A).length + 1 - 1 - 0 = (aH A).length by omega]; exact s2
      | succ j =>
        rw [List.getElem_cons_succ, show (aH A).length + 1 - 1 - (j + 1) = (aH A).length - 1 - j by omega]
        exact (q2 j (by omega)).g (fun k h1 h2 => r2 _ _ _ (by omega) (by omega))
theorem fJ0 {x : Int} : zfr fJ M (pI M 11 0 0 x) := (zfr.rf M).pI (by simp [fJ])
theorem m_turn (h : RA A M) (hv : VA c A) (hN : 2000 ≤ N) (x y : Int) : ∃ M', Mo_turn N 0 x y M = some (qTurn A x y, M') ∧ RA (dTurn A x y) M' ∧ zRl M M' := by
  have h0 := h.z 0
  have h6 := hv.p.n
  unfold Mo_turn qTurn dTurn
  simp only [zW_e]
  rw [r_isTurbine h0.p, zB_s]
  by_cases b : 0 ≤ x ∧ x < qN (aP A)
  · rw [if_pos b, if_neg (by decide), r_within, zB_s]
    by_cases b2 : 0 ≤ y ∧ y ≤ 4
    · obtain ⟨t, rfl⟩ : ∃ t : Nat, x = t := ⟨x.toNat, by omega⟩
      obtain ⟨M1, e1, f1, s1, g1⟩ := r_keeps (N := N) h0 hv hN
      rw [if_pos b2, if_neg (by decide), if_pos ⟨b, b2⟩, if_pos ⟨b, b2⟩, e1, zBv_s]
      have e4 : z32 (4 + (t : Int)) = ((4 + t : Nat) : Int) := by rw [zs (by omega)]; omega
      rw [e4]
      clear e4
      rw [zI_t (by omega), zI_t (by omega), Int.toNat_natCast, Int.toNat_natCast, s1.a (by omega)]
      have f2 : zfr fJ M1 (pI M1 81 0 (4 + t) y) := (zfr.rf M1).pI (by simp [fJ])
      obtain ⟨a1, a2⟩ := h.fj ((fJ0.tr f1).tr f2) (R0.wa s1 (t := t) (by omega) y) (g1.g (mI_pI_ne (by omega)) (fun k => mI_pI_ne (by omega)))
      refine ⟨_, rfl, ?_, a2⟩
      unfold dDo
      rw [if_pos ⟨b, rfl⟩, Int.toNat_natCast, mAct, if_pos rfl]
      exact a1
    · rw [if_neg b2, if_pos rfl, if_neg (fun h => b2 h.2), if_neg (fun h => b2 h.2)]
      exact ⟨_, rfl, h0, zRl.z 0⟩
  · rw [if_neg b, if_pos rfl, if_neg (fun h => b h.1), if_neg (fun h => b h.1)]
    exact ⟨_, rfl, h0, zRl.z 0⟩
theorem m_shut (h : RA A M) (hv : VA c A) (hN : 2000 ≤ N) (x : Int) : ∃ M', Mo_shut N 0 x M = some (dAn A 1 x, M') ∧ RA (dDo A 1 x 0) M' ∧ zRl M M' := by
  have h0 := h.z 0
  have h6 := hv.p.n
  unfold Mo_shut dAn dDo
  simp only [zW_e]
  rw [r_isTurbine h0.p, zB_s]
  by_cases b : 0 ≤ x ∧ x < qN (aP A)
  · obtain ⟨t, rfl⟩ : ∃ t : Nat, x = t := ⟨x.toNat, by omega⟩
    have ht : t < qN (aP A) := by omega
    have hcan : mCan (aP A) (aS A) 1 t = zbt (sO (aS A)) t := rfl
    rw [if_pos b, if_neg (by decide), r_isShut hv.p h0.s ht, zB_s, Int.toNat_natCast, hcan]
    cases hb : zbt (sO (aS A)) t
    · have e1 : (if (false : Bool) = true then (0 : Int) else 1) = 1 := rfl
      rw [e1, if_neg (show ¬ (1 : Int) = 0 by decide), if_neg (fun h => by cases h.2), if_neg (fun h => by cases h.2)]
      exact ⟨_, rfl, h0, zRl.z 0⟩
    · have e1 : (if (true : Bool) = true then (0 : Int) else 1) = 0 := rfl
      obtain ⟨M1, e2, f1, s1, g1⟩ := r_keeps (N := N) h0 hv hN
      rw [e1, if_pos (show (0 : Int) = 0 from rfl), if_pos ⟨b, rfl⟩, if_pos ⟨b, rfl⟩, e2, zBv_s, s1.o, zsh_n t (by omega), zor_n _ (zshu_lt h6) _ (p2_64 (by omega)), zshu_s h6 hv.s.1 ht]
      have f2 : zfr fJ M1 (pI M1 81 0 2 (zshu (qN (aP A)) (zdif (sO (aS A)) (2 ^ t)) : Int)) := (zfr.rf M1).pI (by simp [fJ])
      obtain ⟨a1, a2⟩ := h.fj ((fJ0.tr f1).tr f2) (R0.wo s1 (zdif (sO (aS A)) (2 ^ t))) (g1.g (mI_pI_ne (by omega)) (fun k => mI_pI_ne (by omega)))
      refine ⟨_, rfl, ?_, a2⟩
      rw [mAct, if_neg (by decide), if_pos rfl]
      exact a1
  · rw [if_neg b, if_pos rfl, if_neg (fun h => b h.1), if_neg (fun h => b h.1)]
    exact ⟨_, rfl, h0, zRl.z 0⟩
theorem m_open (h : RA A M) (hv : VA c A) (hN : 2000 ≤ N) (x : Int) : ∃ M', Mo_open N 0 x M = some (dAn A 2 x, M') ∧ RA (dDo A 2 x 0) M' ∧ zRl M M' := by
  have h0 := h.z 0
  have h6 := hv.p.n
  unfold Mo_open dAn dDo
  simp only [zW_e]
  rw [r_isTurbine h0.p, zB_s]
  by_cases b : 0 ≤ x ∧ x < qN (aP A)
  · obtain ⟨t, rfl⟩ : ∃ t : Nat, x = t := ⟨x.toNat, by omega⟩
    have ht : t < qN (aP A) := by omega
    have hcan : mCan (aP A) (aS A) 2 t = !zbt (sO (aS A)) t := rfl
    rw [if_pos b, if_neg (by decide), r_isShut hv.p h0.s ht, zB_s, Int.toNat_natCast, hcan]
    cases hb : zbt (sO (aS A)) t
    · have e1 : (if (false : Bool) = true then (0 : Int) else 1) = 1 := rfl
      obtain ⟨M1, e2, f1, s1, g1⟩ := r_keeps (N := N) h0 hv hN
      rw [e1, if_neg (show ¬ (1 : Int) = 0 by decide), if_pos ⟨b, rfl⟩, if_pos ⟨b, rfl⟩, e2, zBv_s, s1.o, zsh_n t (by omega), zdif_n _ (zshu_lt h6) _ (p2_64 (by omega)), zshu_o h6 ht]
      have f2 : zfr fJ M1 (pI M1 81 0 2 (zshu (qN (aP A)) (sO (aS A) ||| 2 ^ t) : Int)) := (zfr.rf M1).pI (by simp [fJ])
      obtain ⟨a1, a2⟩ := h.fj ((fJ0.tr f1).tr f2) (R0.wo s1 (sO (aS A) ||| 2 ^ t)) (g1.g (mI_pI_ne (by omega)) (fun k => mI_pI_ne (by omega)))
      refine ⟨_, rfl, ?_, a2⟩
      rw [mAct, if_neg (by decide), if_neg (by decide), if_pos rfl]
      exact a1
    · have e1 : (if (true : Bool) = true then (0 : Int) else 1) = 0 := rfl
      rw [e1, if_pos (show (0 : Int) = 0 from rfl), if_neg (fun h => by cases h.2), if_neg (fun h => by cases h.2)]
      exact ⟨_, rfl, h0, zRl.z 0⟩
  · rw [if_neg b, if_pos rfl, if_neg (fun h => b h.1), if_neg (fun h => b h.1)]
    exact ⟨_, rfl, h0, zRl.z 0⟩
theorem m_mend (h : RA A M) (hv : VA c A) (hN : 2000 ≤ N) (x : Int) : ∃ M', Mo_mend N 0 x M = some (dAn A 3 x, M') ∧ RA (dDo A 3 x 0) M' ∧ zRl M M' := by
  have h0 := h.z 0
  have h6 := hv.p.n
  unfold Mo_mend dAn dDo
  simp only [zW_e]
  rw [r_isTurbine h0.p, zB_s]
  by_cases b : 0 ≤ x ∧ x < qN (aP A)
  · obtain ⟨t, rfl⟩ : ∃ t : Nat, x = t := ⟨x.toNat, by omega⟩
    rw [if_pos b, if_neg (by decide), r_canMend hv.p hv.s h0.p h0.s (by omega), zB_s, Int.toNat_natCast]
    by_cases b2 : mCan (aP A) (aS A) 3 t = true
    · obtain ⟨M1, e1, f1, s1, g1⟩ := r_keeps (N := N) h0 hv hN
      obtain ⟨M2, e2, f2, s2⟩ := r_mends (N := N) (A := A) hv.p hv.s s1 (t := t) (by omega) 0
      rw [if_pos b2, if_neg (by decide), if_pos ⟨b, b2⟩, if_pos ⟨b, b2⟩, e1, zBv_s, e2, zBv_s]
      have f2j : zfr fJ M1 M2 := f2.mo (fun t i k h => by simp [fJ] at h; simp [f81]; omega)
      obtain ⟨a1, a2⟩ := h.fj ((fJ0.tr f1).tr f2j) s2 (g1.g (f2.2 _ _ _ (by simp [f81])) (fun k => f2.2 _ _ _ (by simp [f81])))
      exact ⟨M2, rfl, a1, a2⟩
    · rw [if_neg b2, if_pos rfl, if_neg (fun h => b2 h.2), if_neg (fun h => b2 h.2)]
      exact ⟨_, rfl, h0, zRl.z 0⟩
  · rw [if_neg b, if_pos rfl, if_neg (fun h => b h.1), if_neg (fun h => b h.1)]
    exact ⟨_, rfl, h0, zRl.z 0⟩
theorem m_step (h : RA A M) (hv : VA c A) (hc : c < 1000) (hN : 2000 ≤ N) : ∃ M', Mo_step N 0 M = some (mSold (aP A) (aS A), M') ∧ RA (dStep A) M' ∧ zRl M M' := by
  have h0 := h.z 0
  unfold Mo_step
  simp only [zW_e]
  obtain ⟨M1, e1, f1, s1, g1⟩ := r_keeps (N := N) h0 hv hN
  rw [e1, zBv_s]
  obtain ⟨M2, e2, f2, s2⟩ := r_passes (N := N) hv.p hv.s (by omega) hN (h0.p.fr f1 fJ_p) s1
  rw [e2, zB_s]
  obtain ⟨a1, a2⟩ := h.fj ((fJ0.tr f1).tr (f2.mo fp_J)) s2 (g1.g (f2.2 _ _ _ (by simp [fp, fr])) (fun k => f2.2 _ _ _ (by simp [fp, fr])))
  exact ⟨M2, rfl, a1, a2⟩
theorem m_undo (h : RA A M) (hv : VA c A) (hN : 2000 ≤ N) : ∃ M', Mo_undo N 0 M = some (qUndo A, M') ∧ RA (dUndo A) M' ∧ zRl M M' := by
  have h0 := h.z 0
  obtain ⟨q1, q2⟩ := h0.2.2.2.2.2.2.1
  have hl := hv.2.2.2.2.2.1.1
  unfold Mo_undo qUndo dUndo
  simp only [zW_e]
  rw [q1]
  cases hH : aH A with
  | nil =>
    rw [if_pos (by simp)]
    exact ⟨_, rfl, h0, zRl.z 0⟩
  | cons S H =>
    rw [hH] at hl
    simp only [List.length_cons] at hl
    rw [List.length_cons, if_neg (by omega), zs (x := ((H.length + 1 : Nat) : Int) - 1) (by omega), show ((H.length + 1 : Nat) : Int) - 1 = (H.length : Int) by omega, mI_pI_eq]
    have e1 : z32 (16 * (H.length : Int)) = ((16 * H.length : Nat) : Int) := by rw [zs (by omega)]; omega
    rw [e1]
    clear e1
    have f1 : zfr fJ M (pI (pI M 11 0 0 0) 11 0 49 (H.length : Int)) := fJ0.pI (by simp [fJ])
    have hq0 := q2 0 (by rw [hH]; simp)
    simp only [hH, List.getElem_cons_zero, List.length_cons] at hq0
    rw [show H.length + 1 - 1 - 0 = H.length by omega] at hq0
    obtain ⟨M2, e2, k2, s2, r2⟩ := r_copies (N := N) (M := pI (pI M 11 0 0 0) 11 0 49 (H.length : Int)) (t := 85) (t2 := 81) (a := 16 * H.length) (b := 0) (x := ((16 * H.length : Nat) : Int)) (y := 0) (n := qN (aP A)) (S := S) (by omega) rfl rfl (by omega) (by omega) (by rw [(h.k.e f1.1).n 256 (fun _ => rfl)]; omega) (by rw [(h.k.e f1.1).n 16 (fun _ => rfl)]; omega) hN (hq0.g (fun k _ _ => mI_pI_ne (by omega)))
    rw [e2, zBv_s]
    have f2 : zfr fJ (pI (pI M 11 0 0 0) 11 0 49 (H.length : Int)) M2 := ⟨k2, fun t i k hf => r2 _ _ _ (by simp [fJ] at hf; omega)⟩
    have hh : RHi (qN (aP A)) H M2 := by
      refine ⟨?_, fun j hj => ?_⟩
      · rw [r2 _ _ _ (by omega), mI_pI_eq]
      · have hq := q2 (j + 1) (by rw [hH, List.length_cons]; omega)
        simp only [hH, List.getElem_cons_succ, List.length_cons] at hq
        rw [show H.length + 1 - 1 - (j + 1) = H.length - 1 - j by omega] at hq
        exact hq.g (fun k _ _ => by rw [r2 _ _ _ (by omega), mI_pI_ne (by omega)])
    obtain ⟨a1, a2⟩ := h.fj (f1.tr f2) s2 hh
    exact ⟨M2, rfl, a1, a2⟩
end CHR
