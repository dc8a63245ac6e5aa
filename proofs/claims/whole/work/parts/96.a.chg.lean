/-! What changes: the class. -/
def aSet (A : AK) (S : SK) (H : List SK) : AK := (aP A, S, aL A, aV A, aM A, H, aT A, aX A)
def fN (t i k : Nat) : Bool := fF t i k || ((t == 7 || t == 40 || t == 41) && decide (i < 18) && i != 1) || (t == 10 && (k == 7 || k == 8)) || (t == 6 && k == 2)
def hPush (S : SK) (H : List SK) : List SK := (S :: H).take 16
theorem hPush_get {S : SK} {H : List SK} {j : Nat} (h : j < (hPush S H).length) (h' : j < (S :: H).length) : (hPush S H)[j] = (S :: H)[j] := List.getElem_take
theorem fN_rk : ∀ t i k, rk t = true → fN t i k = false := by
  intro t i k h; simp [rk] at h; simp [fN, fF]; omega
section CHG
variable {N c : Nat} {A : AK} {M M' : ZM}
theorem CA.fn (h : CA A M) (f : zfr fN M M') {S : SK} {H : List SK} (hs : CS 0 S M') (hh : CHi H M') (h6 : ∀ o, o < 3 → mI M' 6 o 2 = 0) : CA (aSet A S H) M' := by
  obtain ⟨h1, ⟨p, h2, h3⟩, h4, h5, h7, h8, h9, h10, h11⟩ := h
  have q : ∀ t i k, fN t i k = false → mI M' t i k = mI M t i k := f.2
  have er := mR_2 f.1
  refine ⟨h1.e f.1, ⟨p, ⟨by rw [er]; exact h2.1, by rw [er]; exact h2.2⟩, h3.gg (fun t i k ht => q t i k (by simp [fN, fF]; omega)) (fun i k => mL_2 f.1 _ _ _)⟩, hs, h5.g (fun t k ht => q _ _ _ (by simp [fN, fF]; omega)), h7.g (fun t k ht => q _ _ _ (by simp [fN, fF]; omega)), fun m hm => (h8 m hm).g (q _ _ _ (by simp [fN, fF])) (fun t k ht => q _ _ _ (by simp [fN, fF]; omega)) (fun t i k ht _ => q _ _ _ (by simp [fN, fF]; omega)), hh, fun o ho => ⟨fun j hj => (q _ _ _ (by simp [fN, fF])).trans ((h10 o ho).1 j hj), .inl (h6 o ho)⟩, h11.g (fun t i k ht => q _ _ _ (by simp [fN, fF]; omega))⟩
theorem c_forget (hN : 2000 ≤ N) : ∀ (n k : Nat) (M : ZM), (∀ o, o < k → mI M 6 o 2 = 0) → k ≤ 3 → 3 - k < n → ∃ M', Wp_forgetSearches_2 N n 0 k M = some M' ∧ zfr (fun t _ k => t == 6 && k == 2) M M' ∧ (∀ o, o < 3 → mI M' 6 o 2 = 0) := by
  intro n
  induction n with
  | zero => intros; omega
  | succ n ih =>
    intro k M h hk hn
    unfold Wp_forgetSearches_2
    by_cases e : k = 3
    · subst e
      rw [if_neg (by omega)]
      exact ⟨M, rfl, zfr.rf M, h⟩
    · rw [if_pos (by omega), zI_t (by omega)]
      simp only [zW_e, Int.toNat_natCast]
      rw [zsucc (by omega)]
      have f1 : zfr (fun t _ k => t == 6 && k == 2) M (pI M 6 k 2 0) := (zfr.rf M).pI (by simp)
      obtain ⟨M', e2, f2, g2⟩ := ih (k + 1) (pI M 6 k 2 0) (fun o ho => by
        rw [mI_pI]
        by_cases e4 : o = k
        · rw [if_pos ⟨rfl, e4, rfl⟩]
        · rw [if_neg (by omega), h o (by omega)]) (by omega) (by omega)
      exact ⟨M', e2, f1.tr f2, g2⟩
theorem c_remember (h : CA A M) (hv : VA c A) (hN : 2000 ≤ N) : ∃ M', Wp_remember N 0 M = some M' ∧ zfr fN M M' ∧ CS 0 (aS A) M' ∧ CHi (hPush (aS A) (aH A)) M' ∧ (∀ o, o < 3 → mI M' 6 o 2 = 0) := by
  obtain ⟨q, q1, q2, q3, q4⟩ := h.2.2.2.2.2.2.1
  have hl := hv.2.2.2.2.2.1.1
  unfold Wp_remember
  rw [q2, zI_t (by omega), Int.toNat_natCast]
  obtain ⟨M1, e1, f1, g1⟩ := c_copy (N := N) (a := 2 + q) (b := 0) (by omega) h.s
  rw [e1, zBv_s]
  simp only [zW_e]
  have r7 : mI M1 10 0 7 = (q : Int) := by rw [f1.2 _ _ _ (by simp [fS]), q2]
  have r8 : mI M1 10 0 8 = ((aH A).length : Int) := by rw [f1.2 _ _ _ (by simp [fS]), q3]
  have e7 : (z32 ((q : Int) + 1)).tmod 16 = (((q + 1) % 16 : Nat) : Int) := by
    rw [zsucc (by omega), Int.tmod_eq_emod_of_nonneg (by omega)]; omega
  rw [r7, e7, mI_pI_ne (by omega), r8, zsucc (by omega)]
  clear e7
  generalize hM2 : pI (pI M1 10 0 7 (((q + 1) % 16 : Nat) : Int)) 10 0 8 (zmin (((aH A).length + 1 : Nat) : Int) 16) = M2
  have f2 : zfr fN M M2 := by
    rw [← hM2]
    refine zfr.pI (zfr.pI (f1.mo (fun t i k h => ?_)) (by simp [fN])) (by simp [fN])
    simp [fN, fF] at h; simp [fS]; omega
  unfold Wp_forgetSearches
  obtain ⟨M3, e3, f3, g3⟩ := c_forget (N := N) hN N 0 M2 (fun o ho => by omega) (by omega) (by omega)
  rw [show ((0 : Nat) : Int) = 0 from rfl] at e3
  rw [e3, zBv_s]
  have f3n : zfr fN M2 M3 := f3.mo (fun t i k h => by simp [fN, fF] at h; simp; omega)
  have rq : ∀ t i k, t ≠ 6 → mI M3 t i k = mI M2 t i k := fun t i k ht => f3.2 t i k (by simp [ht])
  have r2 : ∀ t i k, t ≠ 10 → mI M2 t i k = mI M1 t i k := fun t i k ht => by rw [← hM2, mI_pI_ne (by omega), mI_pI_ne (by omega)]
  have hst : ∀ i S, CS i S M1 → CS i S M3 := fun i S hc => hc.g (fun t k ht => by rw [rq _ _ _ (by omega), r2 _ _ _ (by omega)])
  refine ⟨M3, rfl, f2.tr f3n, hst _ _ (h.s.fr f1 (fS_s (by omega))), ⟨(q + 1) % 16, by omega, ?_, ?_, fun j hj => ?_⟩, g3⟩
  · rw [rq _ _ _ (by omega), ← hM2, mI_pI_ne (by omega), mI_pI_eq]
  · rw [rq _ _ _ (by omega), ← hM2, mI_pI_eq]
    unfold hPush zmin
    rw [List.length_take, List.length_cons]
    split <;> omega
  · have hj16 : j < 16 := by unfold hPush at hj; rw [List.length_take] at hj; omega
    have hjl : j < (aH A).length + 1 := by unfold hPush at hj; rw [List.length_take, List.length_cons] at hj; omega
    have eg : (hPush (aS A) (aH A))[j] = (aS A :: aH A)[j]'(by rw [List.length_cons]; omega) := hPush_get hj _
    rw [eg]
    cases j with
    | zero =>
      rw [List.getElem_cons_zero, show 2 + ((q + 1) % 16 + 15 - 0) % 16 = 2 + q by omega]
      exact hst _ _ g1
    | succ j =>
      rw [List.getElem_cons_succ, show 2 + ((q + 1) % 16 + 15 - (j + 1)) % 16 = 2 + (q + 15 - j) % 16 by omega]
      exact hst _ _ ((q4 j (by omega)).fr f1 (fS_s (by omega)))
theorem hPush_v (hv : VA c A) {S : SK} (hz : VS (c + 1) (aP A) S) : VA (c + 1) (aSet A S (hPush (aS A) (aH A))) := by
  obtain ⟨h1, h2, h3, h4, h5, h6, h7⟩ := hv.up (Nat.le_succ c)
  refine ⟨h1, hz, h3, h4, h5, ⟨?_, fun y hy => ?_⟩, h7⟩
  · show (hPush (aS A) (aH A)).length ≤ 16
    unfold hPush; rw [List.length_take]; omega
  · have hm : y ∈ aS A :: aH A := List.mem_of_mem_take hy
    rcases List.mem_cons.1 hm with e | e
    · rw [e]; exact h2
    · exact h6.2 y e
/-- one deed by hand -/
def dDo (A : AK) (d x a : Int) : AK := if (0 ≤ x ∧ x < qN (aP A)) ∧ mCan (aP A) (aS A) d x.toNat = true then aSet A (mAct (aS A) d x.toNat a) (hPush (aS A) (aH A)) else A
def dAn (A : AK) (d x : Int) : Int := if (0 ≤ x ∧ x < qN (aP A)) ∧ mCan (aP A) (aS A) d x.toNat = true then 1 else 0
theorem dDo_v (hv : VA c A) {d x a : Int} (ha : 0 ≤ a ∧ a ≤ 4) : VA (c + 1) (dDo A d x a) := by
  unfold dDo
  split
  · next h => exact hPush_v hv ((hv.s.up (Nat.le_succ c)).act (by omega) ha)
  · exact hv.up (Nat.le_succ c)
theorem w_act (h : CA A M) (hv : VA c A) (hN : 2000 ≤ N) {d x a : Int} (hd : 0 ≤ d ∧ d ≤ 3) : ∃ M', Wp_act N 0 d x a M = some (dAn A d x, M') ∧ CA (dDo A d x a) M' ∧ zCl M M' := by
  obtain ⟨p, hr, hp⟩ := h.2.1
  unfold Wp_act dAn dDo
  rw [hr.1, zO_s]
  by_cases b : 0 ≤ x ∧ x < qN (aP A)
  · obtain ⟨t, rfl⟩ : ∃ t : Nat, x = t := ⟨x.toNat, by omega⟩
    rw [c_can hv.p hv.s hp h.s d (by omega), zB_s, Int.toNat_natCast]
    by_cases b2 : mCan (aP A) (aS A) d t = true
    · rw [if_pos b2, if_neg (by decide), if_pos ⟨b, b2⟩, if_pos ⟨b, b2⟩]
      obtain ⟨M1, e1, f1, s1, g1, g2⟩ := c_remember (N := N) h hv hN
      have h1 := h.fn f1 s1 g1 g2
      obtain ⟨p', hr', hp'⟩ := h1.2.1
      rw [e1, zBv_s, hr'.1, zO_s]
      rcases c_act (N := N) (a := a) hv.p hv.s hp' s1 (d := d) hd (t := t) (by omega) with ⟨q1, _⟩ | ⟨_, M2, e2, f2, s2⟩
      · rw [q1] at b2; cases b2
      · rw [e2, zB_s]
        have f2n : zfr fN M1 M2 := f2.mo (fun t i k h => by simp [fN, fF] at h; simp [fS]; omega)
        refine ⟨M2, rfl, h.fn (f1.tr f2n) s2 (g1.g (fun k _ => f2.2 _ _ _ (by simp [fS])) (fun t i k ht h1 h2 => f2.2 _ _ _ (by simp [fS]; omega))) (fun o ho => by rw [f2.2 _ _ _ (by simp [fS]), g2 o ho]), (f1.tr f2n).cl fN_rk⟩
    · rw [if_neg b2, if_pos rfl, if_neg (fun h => b2 h.2), if_neg (fun h => b2 h.2)]
      exact ⟨M, rfl, h, zCl.rf M⟩
  · rw [c_can0 hp b, zB_s, if_pos rfl, if_neg (fun h => b h.1), if_neg (fun h => b h.1)]
    exact ⟨M, rfl, h, zCl.rf M⟩
theorem dAn_b {d x : Int} : z_b1 (dAn A d x) = dAn A d x := by
  unfold dAn; split <;> rfl
theorem w_shut (h : CA A M) (hv : VA c A) (hN : 2000 ≤ N) (x : Int) : ∃ M', Wp_shut N 0 x M = some (dAn A 1 x, M') ∧ CA (dDo A 1 x 0) M' ∧ zCl M M' := by
  obtain ⟨M1, e1, g⟩ := w_act (N := N) h hv hN (d := 1) (x := x) (a := 0) (by omega)
  unfold Wp_shut
  rw [e1, zB_s, dAn_b]
  exact ⟨M1, rfl, g⟩
theorem w_open (h : CA A M) (hv : VA c A) (hN : 2000 ≤ N) (x : Int) : ∃ M', Wp_open N 0 x M = some (dAn A 2 x, M') ∧ CA (dDo A 2 x 0) M' ∧ zCl M M' := by
  obtain ⟨M1, e1, g⟩ := w_act (N := N) h hv hN (d := 2) (x := x) (a := 0) (by omega)
  unfold Wp_open
  rw [e1, zB_s, dAn_b]
  exact ⟨M1, rfl, g⟩
theorem w_mend (h : CA A M) (hv : VA c A) (hN : 2000 ≤ N) (x : Int) : ∃ M', Wp_mend N 0 x M = some (dAn A 3 x, M') ∧ CA (dDo A 3 x 0) M' ∧ zCl M M' := by
  obtain ⟨M1, e1, g⟩ := w_act (N := N) h hv hN (d := 3) (x := x) (a := 0) (by omega)
  unfold Wp_mend
  rw [e1, zB_s, dAn_b]
  exact ⟨M1, rfl, g⟩
def qTurn (A : AK) (x y : Int) : Int := if (0 ≤ x ∧ x < qN (aP A)) ∧ (0 ≤ y ∧ y ≤ 4) then sA (aS A) x.toNat else -1
def dTurn (A : AK) (x y : Int) : AK := if (0 ≤ x ∧ x < qN (aP A)) ∧ (0 ≤ y ∧ y ≤ 4) then dDo A 0 x y else A
theorem w_turn (h : CA A M) (hv : VA c A) (hN : 2000 ≤ N) (x y : Int) : ∃ M', Wp_turn N 0 x y M = some (qTurn A x y, M') ∧ CA (dTurn A x y) M' ∧ zCl M M' := by
  obtain ⟨p, hr, hp⟩ := h.2.1
  have h6 := hv.p.n
  unfold Wp_turn qTurn dTurn
  rw [c_stands hr hp, zB_s]
  by_cases b : 0 ≤ x ∧ x < qN (aP A)
  · rw [if_pos b, if_neg (by decide)]
    by_cases b1 : y < 0
    · rw [if_pos b1, if_neg (by omega), if_neg (by omega)]; exact ⟨M, rfl, h, zCl.rf M⟩
    · rw [if_neg b1]
      by_cases b2 : y < 5
      · obtain ⟨M1, e1, g1, g2⟩ := w_act (N := N) h hv hN (d := 0) (x := x) (a := y) (by omega)
        rw [if_pos b2, zI_t (by omega), h.s.a (by omega)]
        simp only [zW_e]
        rw [e1, zB_s, if_pos ⟨b, by omega⟩, if_pos ⟨b, by omega⟩]
        exact ⟨M1, rfl, g1, g2⟩
      · rw [if_neg b2, if_neg (by omega), if_neg (by omega)]; exact ⟨M, rfl, h, zCl.rf M⟩
  · rw [if_neg b, if_pos rfl, if_neg (fun h => b h.1), if_neg (fun h => b h.1)]; exact ⟨M, rfl, h, zCl.rf M⟩
theorem dTurn_v (hv : VA c A) {x y : Int} : VA (c + 1) (dTurn A x y) := by
  unfold dTurn
  split
  · next h => exact dDo_v hv h.2
  · exact hv.up (Nat.le_succ c)
def dStep (A : AK) : AK := aSet A (mStep (aP A) (aS A)) (hPush (aS A) (aH A))
theorem dStep_v (hv : VA c A) : VA (c + 1) (dStep A) := hPush_v hv hv.s.step
theorem w_step (h : CA A M) (hv : VA c A) (hc : c < 1000) (hN : 2000 ≤ N) : ∃ M', Wp_step N 0 M = some (mSold (aP A) (aS A), M') ∧ CA (dStep A) M' ∧ zCl M M' := by
  unfold Wp_step
  obtain ⟨M1, e1, f1, s1, g1, g2⟩ := c_remember (N := N) h hv hN
  have h1 := h.fn f1 s1 g1 g2
  obtain ⟨p', hr', hp'⟩ := h1.2.1
  rw [e1, zBv_s, hr'.1, zO_s]
  obtain ⟨M2, e2, f2, s2⟩ := c_runStep (N := N) hv.p hv.s (by omega) h1.k hp' s1 hN
  rw [e2, zB_s]
  have f2n : zfr fN M1 M2 := f2.mo (fun t i k h => by simp [fN, fF] at h; simp [fG, fF, fS]; omega)
  exact ⟨M2, rfl, h.fn (f1.tr f2n) s2 (g1.g (fun k _ => f2.2 _ _ _ (by simp [fG, fF, fS])) (fun t i k ht h1 h2 => f2.2 _ _ _ (by simp [fG, fF, fS]; omega))) (fun o ho => by rw [f2.2 _ _ _ (by simp [fG, fF, fS]), g2 o ho]), (f1.tr f2n).cl fN_rk⟩
def dUndo (A : AK) : AK := match aH A with
  | [] => A
  | S :: H => aSet A S H
def qUndo (A : AK) : Int := match aH A with
  | [] => 0
  | _ :: _ => 1
theorem dUndo_v (hv : VA c A) : VA (c + 1) (dUndo A) := by
  obtain ⟨h1, h2, h3, h4, h5, h6, h7⟩ := hv.up (Nat.le_succ c)
  unfold dUndo
  cases hH : aH A with
  | nil => exact ⟨h1, h2, h3, h4, h5, h6, h7⟩
  | cons S H =>
    rw [hH] at h6
    exact ⟨h1, h6.2 S List.mem_cons_self, h3, h4, h5, ⟨by have := h6.1; rw [List.length_cons] at this; show H.length ≤ 16; omega, fun y hy => h6.2 y (List.mem_cons_of_mem _ hy)⟩, h7⟩
theorem fmod16 : ∀ q : Nat, q < 16 → z_xor (z32 ((q : Int) - 1)) 16 = z_xor (z32 ((q : Int) - 1)) 16 ∧ (if z_xor (z32 ((q : Int) - 1)) 16 < 0 then (if (z32 ((q : Int) - 1)).tmod 16 = 0 then (z32 ((q : Int) - 1)).tmod 16 else z32 ((z32 ((q : Int) - 1)).tmod 16 + 16)) else (z32 ((q : Int) - 1)).tmod 16) = (((q + 15) % 16 : Nat) : Int) := by decide +kernel
theorem w_undo (h : CA A M) (hv : VA c A) (hN : 2000 ≤ N) : ∃ M', Wp_undo N 0 M = some (qUndo A, M') ∧ CA (dUndo A) M' ∧ zCl M M' := by
  obtain ⟨q, q1, q2, q3, q4⟩ := h.2.2.2.2.2.2.1
  have hl := hv.2.2.2.2.2.1.1
  unfold Wp_undo qUndo dUndo
  rw [q3]
  cases hH : aH A with
  | nil =>
    rw [hH] at q3
    rw [if_neg (by simp)]
    exact ⟨M, rfl, h, zCl.rf M⟩
  | cons S H =>
    rw [hH] at q3 hl
    simp only [List.length_cons] at q3 hl
    rw [List.length_cons, if_pos (by omega)]
    simp only [zW_e]
    rw [zs (x := ((H.length + 1 : Nat) : Int) - 1) (by omega), mI_pI_ne (by omega), q2]
    generalize hM1 : pI M 10 0 8 (((H.length + 1 : Nat) : Int) - 1) = M1
    have hfm : Ma_floorMod N (z32 ((q : Int) - 1)) 16 M1 = some ((((q + 15) % 16 : Nat) : Int), M1) := by
      unfold Ma_floorMod
      simp only [zW_e]
      rw [if_neg (by decide), ← (fmod16 q q1).2]
      split
      · split <;> rfl
      · rfl
    rw [hfm, zB_s]
    have h10 : mI (pI M1 10 0 7 (((q + 15) % 16 : Nat) : Int)) 10 0 7 = (((q + 15) % 16 : Nat) : Int) := mI_pI_eq
    rw [h10, zI_t (by omega), Int.toNat_natCast]
    generalize hM2 : pI M1 10 0 7 (((q + 15) % 16 : Nat) : Int) = M2
    have r2 : ∀ t i k, t ≠ 10 → mI M2 t i k = mI M t i k := fun t i k ht => by rw [← hM2, ← hM1, mI_pI_ne (by omega), mI_pI_ne (by omega)]
    have f2 : zfr fN M M2 := by rw [← hM2, ← hM1]; exact ((zfr.rf M).pI (by simp [fN])).pI (by simp [fN])
    have hq0 := q4 0 (by rw [hH]; simp)
    simp only [hH, List.getElem_cons_zero, Nat.sub_zero] at hq0
    obtain ⟨M3, e3, f3, s3⟩ := c_copy (N := N) (M := M2) (a := 0) (b := 2 + (q + 15) % 16) (by omega) (hq0.g (fun t k ht => r2 _ _ _ (by omega)))
    rw [e3, zBv_s]
    unfold Wp_forgetSearches
    obtain ⟨M4, e4, f4, g4⟩ := c_forget (N := N) hN N 0 M3 (fun o ho => by omega) (by omega) (by omega)
    rw [show ((0 : Nat) : Int) = 0 from rfl] at e4
    rw [e4, zBv_s]
    have f3n : zfr fN M2 M3 := f3.mo (fun t i k h => by simp [fN, fF] at h; simp [fS]; omega)
    have f4n : zfr fN M3 M4 := f4.mo (fun t i k h => by simp [fN, fF] at h; simp; omega)
    have r4 : ∀ t i k, t ≠ 6 → mI M4 t i k = mI M3 t i k := fun t i k ht => f4.2 t i k (by simp [ht])
    refine ⟨M4, rfl, h.fn ((f2.tr f3n).tr f4n) (s3.g (fun t k ht => r4 _ _ _ (by omega))) ⟨(q + 15) % 16, by omega, ?_, ?_, fun j hj => ?_⟩ g4, ((f2.tr f3n).tr f4n).cl fN_rk⟩
    · rw [r4 _ _ _ (by omega), f3.2 _ _ _ (by simp [fS]), ← hM2, mI_pI_eq]
    · rw [r4 _ _ _ (by omega), f3.2 _ _ _ (by simp [fS]), ← hM2, mI_pI_ne (by omega), ← hM1, mI_pI_eq]; omega
    · have hq := q4 (j + 1) (by rw [hH, List.length_cons]; omega)
      simp only [hH, List.getElem_cons_succ] at hq
      rw [show 2 + ((q + 15) % 16 + 15 - j) % 16 = 2 + (q + 15 - (j + 1)) % 16 by omega]
      refine hq.g (fun t k ht => ?_)
      rw [r4 _ _ _ (by omega), f3.2 _ _ _ (by simp [fS]), r2 _ _ _ (by omega)]
end CHG
