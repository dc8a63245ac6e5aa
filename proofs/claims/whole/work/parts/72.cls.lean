/-! The class's memory: object p is the park P, object i is the state S. -/
def cJn (x a b : Int) : Int := if x = -11 then z32 (a - b) else if x = -10 then z32 (a + b) else if x = -9 then (if a = b then 1 else 0) else if x = -8 then (if a < b then 1 else 0) else if x = -7 then (if a = 0 then (if b = 0 then 0 else 1) else 1) else if x = -6 then (if a = 0 then 0 else if b = 0 then 0 else 1) else z32 (a * b)
def cFc (x a b c d : Int) : Int := if x = -3 then c else if x = -2 then b else if x = -1 then a else d
/-- the class's pile -/
def cEs (a b c d : Int) : List Int → List Int → Option (List Int)
  | [], st => some st
  | x :: w, st => if x < -4 then (match st with
      | [] => none
      | u :: r => if x = -5 then cEs a b c d w ((if u = 0 then 1 else 0) :: r) else (match r with
        | [] => none
        | u2 :: r2 => cEs a b c d w (cJn x u2 u :: r2)))
    else if st.length < 32 then cEs a b c d w ((if x < 0 then cFc x a b c d else x) :: st) else none
def CL (p : Nat) (L : Int → Int → Int → Int → Int) (M : ZM) : Prop := ∃ w : List Int, mI M 3 (7 * p + 5) 1 = w.length ∧ w.length ≤ 1000 ∧ (∀ i, (h : i < w.length) → mI M 26 (7 * p + 5) i = w[i]) ∧ ∀ a b c d, zr32 a → zr32 b → zr32 c → zr32 d → cEs a b c d w [] = some [L a b c d]
def CP (p : Nat) (P : PK) (M : ZM) : Prop :=
  mI M 4 p 0 = qN P
  ∧ (∀ k, k < qN P → mI M 28 p k = qT P 1 k ∧ mI M 29 p k = qT P 2 k ∧ mI M 30 p k = qT P 3 k ∧ mI M 31 p k = qT P 4 k ∧ mI M 32 p k = qT P 5 k ∧ mL M 27 p k = qT P 12 k)
  ∧ (mI M 3 (7 * p) 1 = (qO P).length ∧ ∀ i, (h : i < (qO P).length) → mI M 26 (7 * p) i = ((qO P)[i] : Int))
  ∧ (∀ j, j < 3 → mI M 3 (7 * p + 1 + j) 1 = qT P 7 j ∧ ∀ k : Nat, (k : Int) < qT P 7 j → mI M 26 (7 * p + 1 + j) k = qT P (8 + j) k)
  ∧ (mI M 3 (7 * p + 4) 1 = 3 ∧ ∀ k, k < 3 → mI M 26 (7 * p + 4) k = qT P 6 k)
  ∧ mI M 4 p 13 = qT P 11 0 ∧ mI M 4 p 14 = qT P 11 1
  ∧ CL p (qL P) M ∧ p < 2
def CS (i : Nat) (S : SK) (M : ZM) : Prop := (∀ k, k < 6 → mI M 40 i k = sA S k ∧ mI M 41 i k = sW S k) ∧ mI M 7 i 2 = (sO S : Int) ∧ mI M 7 i 3 = (sB S : Int) ∧ mI M 7 i 4 = sT S ∧ mI M 7 i 5 = sS S
section CPx
variable {p : Nat} {P : PK} {M : ZM}
theorem CP.n (h : CP p P M) : mI M 4 p 0 = (qN P : Int) := h.1
theorem CP.k (h : CP p P M) {k : Nat} (hk : k < qN P) : mI M 28 p k = qT P 1 k := (h.2.1 k hk).1
theorem CP.o (h : CP p P M) {k : Nat} (hk : k < qN P) : mI M 29 p k = qT P 2 k := (h.2.1 k hk).2.1
theorem CP.c (h : CP p P M) {k : Nat} (hk : k < qN P) : mI M 30 p k = qT P 3 k := (h.2.1 k hk).2.2.1
theorem CP.g (h : CP p P M) {k : Nat} (hk : k < qN P) : mI M 31 p k = qT P 4 k := (h.2.1 k hk).2.2.2.1
theorem CP.h (h : CP p P M) {k : Nat} (hk : k < qN P) : mI M 32 p k = qT P 5 k := (h.2.1 k hk).2.2.2.2.1
theorem CP.nm (h : CP p P M) {k : Nat} (hk : k < qN P) : mL M 27 p k = qT P 12 k := (h.2.1 k hk).2.2.2.2.2
theorem CP.ol (h : CP p P M) : mI M 3 (7 * p) 1 = ((qO P).length : Int) := h.2.2.1.1
theorem CP.oi (h : CP p P M) {i : Nat} (hi : i < (qO P).length) : mI M 26 (7 * p) i = ((qO P)[i] : Int) := h.2.2.1.2 i hi
theorem CP.rl (h : CP p P M) {j : Nat} (hj : j < 3) : mI M 3 (7 * p + 1 + j) 1 = qT P 7 j := (h.2.2.2.1 j hj).1
theorem CP.ri (h : CP p P M) {j : Nat} (hj : j < 3) {k : Nat} (hk : (k : Int) < qT P 7 j) : mI M 26 (7 * p + 1 + j) k = qT P (8 + j) k := (h.2.2.2.1 j hj).2 k hk
theorem CP.wl (h : CP p P M) : mI M 3 (7 * p + 4) 1 = 3 := h.2.2.2.2.1.1
theorem CP.wi (h : CP p P M) {k : Nat} (hk : k < 3) : mI M 26 (7 * p + 4) k = qT P 6 k := h.2.2.2.2.1.2 k hk
theorem CP.we (h : CP p P M) : mI M 4 p 13 = qT P 11 0 := h.2.2.2.2.2.1
theorem CP.sl (h : CP p P M) : mI M 4 p 14 = qT P 11 1 := h.2.2.2.2.2.2.1
theorem CP.lw (h : CP p P M) : CL p (qL P) M := h.2.2.2.2.2.2.2.1
theorem CP.p2 (h : CP p P M) : p < 2 := h.2.2.2.2.2.2.2.2
theorem CP.z0 (h : CP p P M) : zlN (7 * p) = 6 := by
  have := h.p2; rcases (show p = 0 ∨ p = 1 by omega) with rfl | rfl <;> rfl
theorem CP.z1 (h : CP p P M) {j : Nat} (hj : j < 3) : zlN (7 * p + 1 + j) = 8 := by
  have := h.p2; rcases (show p = 0 ∨ p = 1 by omega) with rfl | rfl <;> rcases (show j = 0 ∨ j = 1 ∨ j = 2 by omega) with rfl | rfl | rfl <;> rfl
theorem CP.z4 (h : CP p P M) : zlN (7 * p + 4) = 3 := by
  have := h.p2; rcases (show p = 0 ∨ p = 1 by omega) with rfl | rfl <;> rfl
theorem CP.z5 (h : CP p P M) : zlN (7 * p + 5) = 1000 := by
  have := h.p2; rcases (show p = 0 ∨ p = 1 by omega) with rfl | rfl <;> rfl
end CPx
section CSx
variable {i : Nat} {S : SK} {M : ZM}
theorem CS.a (h : CS i S M) {k : Nat} (hk : k < 6) : mI M 40 i k = sA S k := (h.1 k hk).1
theorem CS.w (h : CS i S M) {k : Nat} (hk : k < 6) : mI M 41 i k = sW S k := (h.1 k hk).2
theorem CS.o (h : CS i S M) : mI M 7 i 2 = (sO S : Int) := h.2.1
theorem CS.b (h : CS i S M) : mI M 7 i 3 = (sB S : Int) := h.2.2.1
theorem CS.t (h : CS i S M) : mI M 7 i 4 = sT S := h.2.2.2.1
theorem CS.s (h : CS i S M) : mI M 7 i 5 = sS S := h.2.2.2.2
end CSx
theorem CP.fr {p : Nat} {P : PK} {M M' : ZM} {F : Nat → Nat → Nat → Bool} (h : CP p P M) (hf : zfr F M M') (hF : ∀ t i k, t = 3 ∨ t = 4 ∨ t = 26 ∨ (28 ≤ t ∧ t ≤ 32) → F t i k = false) : CP p P M' := by
  have e : ∀ t i k, t = 3 ∨ t = 4 ∨ t = 26 ∨ (28 ≤ t ∧ t ≤ 32) → mI M' t i k = mI M t i k := fun t i k ht => hf.2 t i k (hF t i k ht)
  obtain ⟨h1, h2, h3, h4, h5, h6, h7, ⟨w, h8⟩, h9⟩ := h
  refine ⟨(e 4 p 0 (by omega)).trans h1, fun k hk => ?_, ⟨(e _ _ _ (by omega)).trans h3.1, fun i hi => (e _ _ _ (by omega)).trans (h3.2 i hi)⟩, fun j hj => ⟨(e _ _ _ (by omega)).trans (h4 j hj).1, fun k hk => (e _ _ _ (by omega)).trans ((h4 j hj).2 k hk)⟩, ⟨(e _ _ _ (by omega)).trans h5.1, fun i hi => (e _ _ _ (by omega)).trans (h5.2 i hi)⟩, (e _ _ _ (by omega)).trans h6, (e _ _ _ (by omega)).trans h7, ⟨w, (e _ _ _ (by omega)).trans h8.1, h8.2.1, fun i hi => (e _ _ _ (by omega)).trans (h8.2.2.1 i hi), h8.2.2.2⟩, h9⟩
  obtain ⟨a1, a2, a3, a4, a5, a6⟩ := h2 k hk
  exact ⟨(e _ _ _ (by omega)).trans a1, (e _ _ _ (by omega)).trans a2, (e _ _ _ (by omega)).trans a3, (e _ _ _ (by omega)).trans a4, (e _ _ _ (by omega)).trans a5, (mL_2 hf.1 _ _ _).trans a6⟩
theorem CS.fr {i : Nat} {S : SK} {M M' : ZM} {F : Nat → Nat → Nat → Bool} (h : CS i S M) (hf : zfr F M M') (hF : ∀ t k, t = 7 ∨ t = 40 ∨ t = 41 → F t i k = false) : CS i S M' := by
  have e : ∀ t k, t = 7 ∨ t = 40 ∨ t = 41 → mI M' t i k = mI M t i k := fun t k ht => hf.2 t i k (hF t k ht)
  obtain ⟨h1, h2, h3, h4, h5⟩ := h
  exact ⟨fun k hk => ⟨(e _ _ (by omega)).trans (h1 k hk).1, (e _ _ (by omega)).trans (h1 k hk).2⟩, (e _ _ (by omega)).trans h2, (e _ _ (by omega)).trans h3, (e _ _ (by omega)).trans h4, (e _ _ (by omega)).trans h5⟩
/-- of the class: what is written while it is measured -/
def fF (t _i _k : Nat) : Bool := t == 0 || (20 ≤ t && t ≤ 25)
theorem fF_p : ∀ t i k, t = 3 ∨ t = 4 ∨ t = 26 ∨ (28 ≤ t ∧ t ≤ 32) → fF t i k = false := by
  intro t i k h; simp [fF]; omega
theorem fF_s : ∀ t i k, t = 7 ∨ t = 40 ∨ t = 41 → fF t i k = false := by
  intro t i k h; simp [fF]; omega
section CLS
variable {N p i : Nat} {P : PK} {S : SK} {M : ZM}
theorem c_turnedBy {a : Int} (ha : 0 ≤ a ∧ a ≤ 4) : Pa_turnedBy N a M = some (mTb a, M) := by
  unfold Pa_turnedBy mTb
  rw [zs (by omega)]
theorem mTb_c {a : Int} (ha : 0 ≤ a ∧ a ≤ 4) : (a = 2 ∧ mTb a = 0) ∨ ((a = 1 ∨ a = 3) ∧ mTb a = 1) ∨ ((a = 0 ∨ a = 4) ∧ mTb a = 2) := by
  have : a = 0 ∨ a = 1 ∨ a = 2 ∨ a = 3 ∨ a = 4 := by omega
  rcases this with rfl | rfl | rfl | rfl | rfl <;> decide
theorem c_drift {a off : Int} (ha : 0 ≤ a ∧ a ≤ 4) : Pa_drift N a off M = some (mDr a off, M) := by
  unfold Pa_drift
  rw [c_turnedBy ha, zB_s]
  have : a = 0 ∨ a = 1 ∨ a = 2 ∨ a = 3 ∨ a = 4 := by omega
  rcases this with rfl | rfl | rfl | rfl | rfl <;> simp [mTb, mDr, zabs, z32] <;> split <;> simp_all
theorem c_tenths (hv : VP P) (h : CP p P M) {t o : Nat} (ht : t < qN P) (ho : o < qN P) {a fr : Int} (ha : 0 ≤ a ∧ a ≤ 4) (hf : 0 ≤ fr ∧ fr ≤ 3) : Pa_tenths N p t a o fr M = some (mTen P t a o fr, M) := by
  have hn := hv.n
  have c1 := hv.c ht
  have c2 := hv.c ho
  unfold Pa_tenths
  rw [zI_t (by omega), zI_t (by omega)]
  simp only [zW, Int.toNat_natCast, h.c ht, h.c ho]
  rw [zI_t (by omega), zI_t (by omega)]
  generalize hct : qT P 3 t = ct at c1
  generalize hco : qT P 3 o = co at c2
  rw [Int.tdiv_eq_ediv_of_nonneg (by omega), Int.tdiv_eq_ediv_of_nonneg (by omega), Int.tmod_eq_emod_of_nonneg (by omega), Int.tmod_eq_emod_of_nonneg (by omega)]
  rw [zs (x := co / 6) (by omega), zs (x := ct / 6) (by omega), zs (x := co / 6 - ct / 6) (by omega), zs (x := co % 6 - ct % 6) (by omega)]
  have key : ∀ (off asd : Int), (-5 ≤ off ∧ off ≤ 5) → off = mOff P t o fr → asd = mAsd P t o fr → Pa_tenths_105 N p t a off asd M = some (mTen P t a o fr, M) := by
    intro off asd hb e1 e2
    unfold Pa_tenths_105 mTen
    rw [← e1, ← e2]
    by_cases b1 : off < 1
    · simp [b1]
    · by_cases b2 : 3 < off
      · simp [b1, b2]
      · rw [if_neg b1, if_neg b2, c_drift ha, zB_s]
        by_cases b3 : asd = mDr a off
        · rw [if_pos b3, if_neg (by simp [b1, b2, b3])]
          unfold Nu_get
          rw [zs (x := off - 1) (by omega), if_neg (by omega), h.wl, if_pos (by omega), zI_t (by rw [h.z4]; omega), zB_s, zI_t (by omega), h.wi (by omega), Int.toNat_natCast, h.k ht]
          have hw := hv.w (k := (off - 1).toNat) (by omega)
          split
          · unfold Pa_tenths_156; rw [zs (by omega)]
          · unfold Pa_tenths_156; rw [zs (by omega)]
        · rw [if_neg b3, if_pos (by simp [b3])]
  have cc : fr = 0 ∨ fr = 1 ∨ fr = 2 ∨ fr = 3 := by omega
  rcases cc with rfl | rfl | rfl | rfl
  · simp only [if_true, Pa_tenths_58, Pa_tenths_86]
    simp only [show ¬ ((1 : Int) = 0) by decide, if_false, show ¬ ((0 : Int) = 2) by decide, show ¬ ((0 : Int) = 1) by decide]
    exact key _ _ (by omega) (by simp [mOff, hct, hco]) (by simp [mAsd, hct, hco])
  · simp only [if_true, Pa_tenths_58, Pa_tenths_86, show ¬ ((1 : Int) = 0) by decide, if_false, show ¬ ((1 : Int) = 2) by decide, zW]
    exact key _ _ (by rw [zs (by omega)]; omega) (by rw [zs (by omega)]; simp [mOff, hct, hco]; omega) (by simp [mAsd, hct, hco])
  · simp only [if_true, Pa_tenths_58, Pa_tenths_86, show ¬ ((2 : Int) = 0) by decide, show ¬ ((1 : Int) = 0) by decide, if_false, zW]
    exact key _ _ (by rw [zs (by omega)]; omega) (by rw [zs (by omega)]; simp [mOff, hct, hco]; omega) (by simp [mAsd, hct, hco])
  · simp only [if_true, Pa_tenths_58, Pa_tenths_86, show ¬ ((3 : Int) = 0) by decide, if_false, show ¬ ((3 : Int) = 2) by decide, show ¬ ((3 : Int) = 1) by decide]
    exact key _ _ (by omega) (by simp [mOff, hct, hco]) (by simp [mAsd, hct, hco])
end CLS
