/-- the pile alone -/
def fL (t _i _k : Nat) : Bool := t == 25
theorem fL_n {t i k : Nat} (h : t ≠ 25) : fL t i k = false := by simp [fL, h]
theorem fL_F : ∀ t i k, fF t i k = false → fL t i k = false := by
  intro t i k h; simp [fF] at h; simp [fL]; omega
section FLW
variable {N p i : Nat} {P : PK} {S : SK} {M : ZM}
theorem pow64 {n b : Nat} (h : n ≤ 6) (hb : b < 2 ^ n) : b < 64 := Nat.lt_of_lt_of_le hb (Nat.pow_le_pow_right (by decide) h)
theorem c_isOpen (hs : CS i S M) (hb : sO S < 64) {t : Nat} (ht : t < 6) : St_isOpen N i t M = some (if zbt (sO S) t then 1 else 0, M) := by
  unfold St_isOpen
  rw [hs.o, zan_b _ hb _ ht]
  split <;> split <;> simp_all
theorem c_isBroken (hs : CS i S M) (hb : sB S < 64) {t : Nat} (ht : t < 6) : St_isBroken N i t M = some (if zbt (sB S) t then 1 else 0, M) := by
  unfold St_isBroken
  rw [hs.b, zan_b _ hb _ ht]
  split <;> split <;> simp_all
theorem c_runs (hs : CS i S M) (ho : sO S < 64) (hb : sB S < 64) {t : Nat} (ht : t < 6) : St_runs N i t M = some (if mRun S t then 1 else 0, M) := by
  unfold St_runs mRun
  rw [c_isOpen hs ho ht, zB_s]
  cases zbt (sO S) t
  · simp
  · rw [c_isBroken hs hb ht]
    cases zbt (sB S) t <;> simp [zB_s]
/-- the pile as it lies -/
def cPl (p : Nat) (M : ZM) : List Int → Prop
  | [] => True
  | u :: r => mI M 25 p r.length = u ∧ cPl p M r
theorem cPl_up {p k : Nat} {x : Int} {M : ZM} : ∀ {r : List Int}, cPl p M r → r.length ≤ k → cPl p (pI M 25 p k x) r
  | [], _, _ => trivial
  | u :: r, h, hk => by
    simp only [List.length_cons] at hk
    refine ⟨?_, cPl_up h.2 (by omega)⟩
    rw [mI_pI_ne (by omega)]; exact h.1
theorem c_get {q : Nat} {l : Int} {j : Nat} {x : Int} (hl : mI M 3 q 1 = l) (hj : (j : Int) < l) (hz : l ≤ (zlN q : Int)) (hx : mI M 26 q j = x) : Nu_get N q j M = some (x, M) := by
  unfold Nu_get
  rw [if_neg (by omega), hl, if_pos hj, zI_t (by omega), Int.toNat_natCast, hx]
theorem c_joined {x a b : Int} (hx : x < -4) : La_joined N x a b M = some (cJn x a b, M) := by
  unfold La_joined cJn
  repeat' split
  all_goals first | rfl | simp_all
theorem c_fact {x a b c d : Int} : La_fact N x a b c d M = some (cFc x a b c d, M) := by
  unfold La_fact cFc
  repeat' split
  all_goals rfl
theorem c_val6 {a b c d r : Int} (hz : zlN (7 * p + 5) = 1000) : ∀ (v st : List Int) (j n : Nat) (M : ZM), (∀ i, (h : i < v.length) → mI M 26 (7 * p + 5) (j + i) = v[i]) → mI M 3 (7 * p + 5) 1 = ((j + v.length : Nat) : Int) → j + v.length ≤ 1000 → v.length < n → cPl p M st → st.length ≤ 32 → cEs a b c d v st = some [r] → ∃ M', La_value_6 N n p a b c d (st.length : Int) j M = some (r, M') ∧ zfr fL M M' := by
  intro v
  induction v with
  | nil =>
    intro st j n M hc hl h1 hn hp hs he
    cases n with
    | zero => omega
    | succ n =>
      simp only [cEs, Option.some.injEq] at he
      subst he
      refine ⟨M, ?_, zfr.rf M⟩
      unfold La_value_6
      simp only [List.length_nil, Nat.add_zero] at hl
      rw [hl, if_neg (by omega)]
      have := hp.1
      simp only [List.length_nil] at this
      rw [if_pos (by simp), List.length_singleton]
      rw [show z32 (((1 : Nat) : Int) - 1) = 0 from by decide, zI_t (by decide)]
      simp [this]
  | cons x v ih =>
    intro st j n M hc hl h1 hn hp hs he
    cases n with
    | zero => omega
    | succ n =>
      simp only [List.length_cons] at hl h1 hn
      unfold La_value_6
      have hx := hc 0 (by simp)
      simp only [Nat.add_zero, List.getElem_cons_zero] at hx
      rw [hl, if_pos (by omega), c_get hl (by omega) (by rw [hz]; omega) hx, zB_s]
      have hstep : ∀ (M1 : ZM) (st1 : List Int), zfr fL M M1 → cPl p M1 st1 → st1.length ≤ 32 → cEs a b c d v st1 = some [r] → ∃ M', La_value_6 N n p a b c d (st1.length : Int) (z32 ((j : Int) + 1)) M1 = some (r, M') ∧ zfr fL M M' := by
        intro M1 st1 hf hp1 hs1 he1
        rw [zsucc (by omega)]
        obtain ⟨M', hm, hf'⟩ := ih st1 (j + 1) n M1 (fun i hi => by
            rw [hf.2 26 (7 * p + 5) (j + 1 + i) (fL_n (by omega))]
            have := hc (i + 1) (by simp; omega)
            rw [show j + 1 + i = j + (i + 1) by omega, this, List.getElem_cons_succ]) (by
            rw [hf.2 3 (7 * p + 5) 1 (fL_n (by omega)), hl]; congr 1; omega) (by omega) (by omega) hp1 hs1 he1
        exact ⟨M', hm, hf.tr hf'⟩
      unfold cEs at he
      by_cases b1 : x < -4
      · rw [if_pos b1]
        rw [if_pos b1] at he
        cases st with
        | nil => cases he
        | cons u s =>
          simp only at he
          simp only [List.length_cons] at hs ⊢
          by_cases b2 : x = -5
          · rw [if_pos b2]
            rw [if_pos b2] at he
            have e : z32 (((s.length + 1 : Nat) : Int) - 1) = (s.length : Int) := by rw [zs (by omega)]; omega
            rw [if_neg (by omega)]
            simp only [e]
            rw [zI_t (by omega), Int.toNat_natCast, hp.1]
            have hlen : (((s.length + 1 : Nat) : Int)) = (((1 : Int) :: s).length : Int) := by simp
            by_cases b3 : u = 0
            · rw [if_pos b3, zI_t (by omega)]
              rw [if_pos b3] at he
              simp only [zW]
              exact hstep _ (1 :: s) ((zfr.rf M).pI (by simp [fL])) ⟨mI_pI_eq, cPl_up hp.2 (Nat.le_refl _)⟩ (by simp; omega) he
            · rw [if_neg b3, zI_t (by omega)]
              rw [if_neg b3] at he
              simp only [zW]
              exact hstep _ (0 :: s) ((zfr.rf M).pI (by simp [fL])) ⟨mI_pI_eq, cPl_up hp.2 (Nat.le_refl _)⟩ (by simp; omega) he
          · rw [if_neg b2]
            rw [if_neg b2] at he
            cases s with
            | nil => cases he
            | cons u2 s =>
              simp only at he
              simp only [List.length_cons] at hs ⊢
              rw [if_neg (by omega)]
              simp only [zW]
              have e : z32 (((s.length + 1 + 1 : Nat) : Int) + -1) = ((s.length + 1 : Nat) : Int) := by rw [zs (by omega)]; omega
              have e2 : z32 (((s.length + 1 : Nat) : Int) - 1) = (s.length : Int) := by rw [zs (by omega)]; omega
              simp only [e, e2]
              rw [zI_t (by omega), zI_t (by omega), Int.toNat_natCast, Int.toNat_natCast, hp.2.1, show mI M 25 p (s.length + 1) = u from hp.1, c_joined b1, zB_s, zI_t (by omega)]
              exact hstep _ (cJn x u2 u :: s) ((zfr.rf M).pI (by simp [fL])) ⟨mI_pI_eq, cPl_up hp.2.2 (Nat.le_refl _)⟩ (by simp; omega) he
      · rw [if_neg b1]
        rw [if_neg b1] at he
        by_cases b4 : st.length < 32
        · rw [if_pos (by omega)]
          rw [if_pos b4] at he
          have e : z32 ((st.length : Int) + 1) = ((st.length + 1 : Nat) : Int) := zsucc (by omega)
          by_cases b5 : x < 0
          · rw [if_pos b5, c_fact, zB_s, zI_t (by omega)]
            rw [if_pos b5] at he
            simp only [zW]
            rw [e, Int.toNat_natCast]
            exact hstep _ (cFc x a b c d :: st) ((zfr.rf M).pI (by simp [fL])) ⟨mI_pI_eq, cPl_up hp (Nat.le_refl _)⟩ (by simp; omega) he
          · rw [if_neg b5, zI_t (by omega)]
            rw [if_neg b5] at he
            simp only [zW]
            rw [e, Int.toNat_natCast]
            exact hstep _ (x :: st) ((zfr.rf M).pI (by simp [fL])) ⟨mI_pI_eq, cPl_up hp (Nat.le_refl _)⟩ (by simp; omega) he
        · rw [if_neg b4] at he; cases he
theorem c_value (h : CP p P M) (hN : 2000 ≤ N) (a b c d : Int) (ra : zr32 a) (rb : zr32 b) (rc : zr32 c) (rd : zr32 d) : ∃ M', La_value N p a b c d M = some (qL P a b c d, M') ∧ zfr fL M M' := by
  obtain ⟨w, h1, h2, h3, h4⟩ := h.lw
  exact c_val6 h.z5 w [] 0 N M (fun i hi => by rw [Nat.zero_add]; exact h3 i hi) (by rw [h1, Nat.zero_add]) (by omega) (by omega) trivial (by simp) (h4 a b c d ra rb rc rd)
theorem c_gives (h : CP p P M) (hN : 2000 ≤ N) {w wo a st : Int} (rw : zr32 w) (rwo : zr32 wo) (ha : 0 ≤ a ∧ a ≤ 4) : ∃ M', Pa_gives N p w wo a st M = some (mGiv P w wo a st, M') ∧ zfr fL M M' := by
  unfold Pa_gives
  rw [c_turnedBy ha, zB_s]
  have key : ∀ nt, zr32 nt → ∃ M', Pa_gives_21 N p w wo (mTb a) nt M = some (if mTb a = 0 then zmax 0 (zmin (qL P w wo (mTb a) nt) 99) else if mTb a = 1 then (zmax 0 (zmin (qL P w wo (mTb a) nt) 99) * 9).tdiv 10 else (zmax 0 (zmin (qL P w wo (mTb a) nt) 99) * 6).tdiv 10, M') ∧ zfr fL M M' := by
    intro nt rnt
    obtain ⟨M', e, hf⟩ := c_value h hN w wo (mTb a) nt rw rwo (by have := mTb_c ha; unfold zr32; omega) rnt
    refine ⟨M', ?_, hf⟩
    unfold Pa_gives_21
    rw [e, zB_s]
    simp only [zW]
    generalize qL P w wo (mTb a) nt = q
    have hq : 0 ≤ zmax 0 (zmin q 99) ∧ zmax 0 (zmin q 99) ≤ 99 := by
      unfold zmax zmin; split <;> (try split) <;> omega
    generalize zmax 0 (zmin q 99) = r at hq ⊢
    split
    · rfl
    · split
      · rw [zs (x := r * 9) (by omega), Int.tdiv_eq_ediv_of_nonneg (by omega), zs (by omega)]
      · rw [zs (x := r * 6) (by omega), Int.tdiv_eq_ediv_of_nonneg (by omega), zs (by omega)]
  unfold mGiv mNt
  split
  · exact key 0 (by unfold zr32; omega)
  · exact key 1 (by unfold zr32; omega)
theorem c_left {bl tk : Int} (hb : 0 ≤ bl ∧ bl ≤ 30) (ht : 0 ≤ tk ∧ tk ≤ 9) : Pa_left N bl tk M = some (mWnd bl tk, M) := by
  have hw := mWnd_b hb ht
  unfold Pa_left mWnd at *
  have h1 : 0 ≤ bl * (10 - tk) := Int.mul_nonneg hb.1 (by omega)
  have h2 : bl * (10 - tk) ≤ 30 * 10 := Int.mul_le_mul hb.2 (by omega) (by omega) (by omega)
  rw [zs (x := 10 - tk) (by omega), zs (x := bl * (10 - tk)) (by omega), zs (by omega)]
theorem c_takenOf (hv : VP P) (h : CP p P M) {o : Nat} (ho : o < qN P) {s : Int} (hs : 0 ≤ s ∧ s ≤ 1000) : Pa_takenOf N p o s M = some (mCut P o s, M) := by
  have hn := hv.n
  unfold Pa_takenOf mCut
  simp only [zW]
  rw [zI_t (by omega), Int.toNat_natCast, h.k ho]
  have : 0 ≤ zmin s 9 ∧ zmin s 9 ≤ 9 := by unfold zmin; split <;> omega
  split
  · rw [zs (by omega)]
  · rfl
theorem c_round {q : Nat} {j : Nat} (hv : VP P) (h : CP p P M) (hj : j < 3) (hq : q = 7 * p + 1 + j) {st : Int} (hs : 0 ≤ st) : Nu_round N q st M = some (mRow P j st, M) := by
  subst hq
  have hl := hv.l hj
  have hm := tmod_in hs hl.1
  unfold Nu_round mRow
  rw [h.rl hj, if_pos (by omega), if_neg (by omega), if_neg (by omega), h.z1 hj, zI_t (by omega), h.ri hj (by omega)]
theorem c_price (hv : VP P) (h : CP p P M) {st : Int} (hs : 0 ≤ st) : Pa_priceAt N p st M = some (mRow P 2 st - 10, M) := by
  unfold Pa_priceAt
  have := hv.pr hs
  rw [c_round (j := 2) hv h (by omega) (by omega) hs, zB_s, zs (by omega)]
end FLW
