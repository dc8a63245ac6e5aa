/-- cables from the last told on: what comes, what each carries, what is home -/
def mBr (P : PK) (pw : Nat → Int) (f : Int) : List Nat → (Nat → Int) × (Nat → Int) × Int
  | [] => (fun _ => 0, fun _ => 0, 0)
  | t :: r => (fun g => if qT P 4 t ≠ 6 ∧ (g : Int) = qT P 4 t then (mBr P pw f r).1 g + (if (t : Int) = f then 0 else zmin (pw t + (mBr P pw f r).1 t) (qT P 5 t)) else (mBr P pw f r).1 g,
    fun u => if u = t then (if (t : Int) = f then 0 else zmin (pw t + (mBr P pw f r).1 t) (qT P 5 t)) else (mBr P pw f r).2.1 u,
    if qT P 4 t = 6 then (mBr P pw f r).2.2 + (if (t : Int) = f then 0 else zmin (pw t + (mBr P pw f r).1 t) (qT P 5 t)) else (mBr P pw f r).2.2)
def mLd (P : PK) (pw : Nat → Int) (f : Int) : Nat → Int := (mBr P pw f (qO P)).2.1
def mHm (P : PK) (pw : Nat → Int) (f : Int) : Int := (mBr P pw f (qO P)).2.2
def mHome (P : PK) (S : SK) : Int := mHm P (mPow P S (mFr P S) (mBl P S)) (-1)
def mSold (P : PK) (S : SK) : Int := mHome P S * mPr P S
theorem mBr_b {P : PK} {pw : Nat → Int} {f : Int} (hp : ∀ t, t < qN P → 0 ≤ pw t) (hh : ∀ t, t < qN P → qT P 4 t ≠ -1 → 1 ≤ qT P 5 t ∧ qT P 5 t ≤ 200) : ∀ {r : List Nat}, (∀ t, t ∈ r → t < qN P ∧ qT P 4 t ≠ -1) → (∀ g, 0 ≤ (mBr P pw f r).1 g ∧ (mBr P pw f r).1 g ≤ 200 * r.length) ∧ (∀ u, 0 ≤ (mBr P pw f r).2.1 u ∧ (mBr P pw f r).2.1 u ≤ 200) ∧ 0 ≤ (mBr P pw f r).2.2 ∧ (mBr P pw f r).2.2 ≤ 200 * r.length
  | [], _ => by simp [mBr]
  | t :: r, h => by
    obtain ⟨h1, h2, h3, h4⟩ := mBr_b (f := f) hp hh (fun u hu => h u (List.mem_cons_of_mem _ hu))
    have ht := h t List.mem_cons_self
    have a1 := hp t ht.1
    have a2 := hh t ht.1 ht.2
    have a3 := h1 t
    have hl : ∀ x : Int, x = (if (t : Int) = f then 0 else zmin (pw t + (mBr P pw f r).1 t) (qT P 5 t)) → 0 ≤ x ∧ x ≤ 200 := by
      intro x hx
      subst hx
      unfold zmin
      split
      · omega
      · split <;> omega
    generalize hL : (if (t : Int) = f then 0 else zmin (pw t + (mBr P pw f r).1 t) (qT P 5 t)) = L at hl
    have hl := hl L rfl
    simp only [mBr, hL, List.length_cons]
    refine ⟨fun g => ?_, fun u => ?_, ?_, ?_⟩
    · have := h1 g
      split <;> omega
    · have := h2 u
      split <;> omega
    · split <;> omega
    · split <;> omega
section MEAS
variable {N p i : Nat} {P : PK} {S : SK} {M : ZM} {c : Nat}
theorem VS.o (hv : VP P) (h : VS c P S) : sO S < 64 := pow64 hv.n h.1
theorem VS.b (hv : VP P) (h : VS c P S) : sB S < 64 := pow64 hv.n h.2.1
theorem VS.a (h : VS c P S) {k : Nat} (hk : k < 6) : 0 ≤ sA S k ∧ sA S k ≤ 4 := h.2.2.1 k hk
theorem VS.t (h : VS c P S) : 0 ≤ sT S := h.2.2.2.1.1
theorem VS.w (h : VS c P S) {k : Nat} (hk : k < 6) : zr32 (sW S k) := h.2.2.2.1.2 k hk
theorem mWnd_r {bl tk : Int} (hb : 0 ≤ bl ∧ bl ≤ 30) (ht : 0 ≤ tk ∧ tk ≤ 9) : zr32 (mWnd bl tk) := by have := mWnd_b hb ht; unfold zr32; omega
theorem VS.t2 (h : VS c P S) : sT S ≤ c := h.2.2.2.2
theorem c_take18 (hv : VP P) (hs : VS c P S) {fr : Int} (hf : 0 ≤ fr ∧ fr ≤ 3) {rec3 : Nat → Nat → Nat → Int → Int → ZM → Option ZM} {a o : Nat} (ho : o < qN P) : ∀ (k n : Nat) (M : ZM), CP p P M → CS i S M → k ≤ qN P → qN P - k < n → Fl_take_18 N rec3 n a p i fr o (zsum (mTs P (sA S) (mRun S) fr o) k) k M = rec3 a p i fr ((o + 1 : Nat) : Int) (pI M 20 a o (mTkn P (sA S) (mRun S) fr o)) := by
  intro k n
  induction n generalizing k with
  | zero => intros; omega
  | succ n ih =>
    intro M hp hc hk hn
    have h6 := hv.n
    unfold Fl_take_18
    rw [hp.n]
    by_cases b : k = qN P
    · subst b
      rw [if_neg (by omega), c_takenOf hv hp ho (by have := mSm_b hv (A := sA S) (R := mRun S) (fr := fr) (o := o) (n := qN P); omega), zB_s, zI_t (by omega)]
      simp only [zW, Int.toNat_natCast]
      rw [zsucc (by omega)]
      rfl
    · rw [if_pos (by omega)]
      have e : zsum (mTs P (sA S) (mRun S) fr o) (k + 1) = zsum (mTs P (sA S) (mRun S) fr o) k + mTs P (sA S) (mRun S) fr o k := rfl
      by_cases b2 : k = o
      · rw [if_pos (by omega)]
        simp only [zW]
        rw [zsucc (by omega), ← ih (k + 1) M hp hc (by omega) (by omega), e]
        simp [mTs, b2]
      · rw [if_neg (by omega), c_runs hc (hs.o hv) (hs.b hv) (by omega), zB_s]
        by_cases b3 : mRun S k = true
        · simp only [b3, if_true, zW]
          rw [if_neg (by decide), zI_t (by omega), Int.toNat_natCast, hc.a (by omega), c_tenths hv hp (by omega) ho (hs.a (by omega)) hf, zB_s]
          have e2 : mTen P k (sA S k) o fr = mTs P (sA S) (mRun S) fr o k := by simp [mTs, b2, b3]
          have b4 := mSm_b hv (A := sA S) (R := mRun S) (fr := fr) (o := o) (n := k)
          have b5 := mTs_b hv (A := sA S) (R := mRun S) (fr := fr) (o := o) (t := k)
          rw [e2, zs (x := _ + _) (by omega), ← e, zsucc (by omega)]
          exact ih (k + 1) M hp hc (by omega) (by omega)
        · simp only [b3, if_false, zW, Bool.false_eq_true, if_true]
          rw [zsucc (by omega), ← ih (k + 1) M hp hc (by omega) (by omega), e]
          simp [mTs, b2, b3]
theorem c_take3 (hv : VP P) (hs : VS c P S) {fr : Int} (hf : 0 ≤ fr ∧ fr ≤ 3) {a : Nat} (hN : 2000 ≤ N) : ∀ (n k : Nat) (M : ZM), CP p P M → CS i S M → k ≤ qN P → qN P - k < n → ∃ M', Fl_take_3 N n a p i fr k M = some M' ∧ zfr fF M M' ∧ (∀ o, k ≤ o → o < qN P → mI M' 20 a o = mTkn P (sA S) (mRun S) fr o) ∧ (∀ t j o, ¬ (t = 20 ∧ j = a ∧ k ≤ o) → mI M' t j o = mI M t j o) := by
  intro n
  induction n with
  | zero => intros; omega
  | succ n ih =>
    intro k M hp hc hk hn
    have h6 := hv.n
    unfold Fl_take_3
    rw [hp.n]
    by_cases b : k = qN P
    · rw [if_neg (by omega)]
      exact ⟨M, rfl, zfr.rf M, fun o h1 h2 => by omega, fun _ _ _ _ => rfl⟩
    · rw [if_pos (by omega)]
      have := c_take18 (N := N) (p := p) (i := i) hv hs hf (rec3 := Fl_take_3 N n) (a := a) (o := k) (by omega) 0 N M hp hc (by omega) (by omega)
      rw [show zsum (mTs P (sA S) (mRun S) fr k) 0 = 0 from rfl, show ((0 : Nat) : Int) = 0 from rfl] at this
      rw [this]
      have hf1 : zfr fF M (pI M 20 a k (mTkn P (sA S) (mRun S) fr k)) := (zfr.rf M).pI (by simp [fF])
      obtain ⟨M', e, hf2, h2, h3⟩ := ih (k + 1) _ (hp.fr hf1 fF_p) (hc.fr hf1 (fun t k h => fF_s t i k h)) (by omega) (by omega)
      refine ⟨M', e, hf1.tr hf2, fun o h4 h5 => ?_, fun t j o h4 => ?_⟩
      · by_cases b2 : o = k
        · subst b2
          rw [h3 20 a o (by omega), mI_pI_eq]
        · exact h2 o (by omega) h5
      · rw [h3 t j o (by omega), mI_pI_ne (by omega)]
theorem c_take (hv : VP P) (hs : VS c P S) (hp : CP p P M) (hc : CS i S M) (hN : 2000 ≤ N) {fr : Int} (hf : 0 ≤ fr ∧ fr ≤ 3) {a : Nat} : ∃ M', Fl_take N a p i fr M = some M' ∧ zfr fF M M' ∧ (∀ o, o < qN P → mI M' 20 a o = mTkn P (sA S) (mRun S) fr o) := by
  have h6 := hv.n
  obtain ⟨M', e, h1, h2, _⟩ := c_take3 (N := N) (p := p) (i := i) hv hs hf (a := a) hN N 0 M hp hc (by omega) (by omega)
  exact ⟨M', e, h1, fun o ho => h2 o (by omega) ho⟩
/-- what a wind gives each, by what was taken -/
theorem c_give8 (hv : VP P) (hs : VS c P S) (hN : 2000 ≤ N) {fr bl : Int} (hb : 0 ≤ bl ∧ bl ≤ 30) {a : Nat} : ∀ (n k : Nat) (M : ZM), CP p P M → CS i S M → (∀ o, o < qN P → mI M 20 a o = mTkn P (sA S) (mRun S) fr o) → mI M 0 a 5 = zsum (mPow P S fr bl) k → k ≤ qN P → qN P - k < n → ∃ M', Fl_give_8 N n a p i bl k M = some M' ∧ zfr fF M M' ∧ (∀ o, k ≤ o → o < qN P → mI M' 21 a o = mWnd bl (mTkn P (sA S) (mRun S) fr o) ∧ mI M' 22 a o = mPow P S fr bl o) ∧ mI M' 0 a 5 = zsum (mPow P S fr bl) (qN P) ∧ (∀ j o, mI M' 20 j o = mI M 20 j o) ∧ (∀ o, o < k → mI M' 21 a o = mI M 21 a o ∧ mI M' 22 a o = mI M 22 a o) := by
  intro n
  induction n with
  | zero => intros; omega
  | succ n ih =>
    intro k M hp hc ht h5 hk hn
    have h6 := hv.n
    unfold Fl_give_8
    rw [hp.n]
    by_cases b : k = qN P
    · rw [if_neg (by omega)]
      exact ⟨M, rfl, zfr.rf M, fun o h1 h2 => by omega, by rw [h5, b], fun _ _ => rfl, fun _ _ => ⟨rfl, rfl⟩⟩
    · rw [if_pos (by omega), zI_t (by omega), Int.toNat_natCast, ht k (by omega), c_left hb (mTkn_b hv), zB_s, zI_t (by omega)]
      simp only [zW]
      have hf1 : zfr fF M (pI M 21 a k (mWnd bl (mTkn P (sA S) (mRun S) fr k))) := (zfr.rf M).pI (by simp [fF])
      have hp1 := hp.fr hf1 fF_p
      have hc1 := hc.fr hf1 (fun t k h => fF_s t i k h)
      rw [c_runs hc1 (hs.o hv) (hs.b hv) (by omega), zB_s]
      have fin : ∀ (M2 : ZM) (x : Int), zfr fF M M2 → mI M2 21 a k = mWnd bl (mTkn P (sA S) (mRun S) fr k) → (∀ j o, mI M2 20 j o = mI M 20 j o) → (∀ o, o < k → mI M2 21 a o = mI M 21 a o ∧ mI M2 22 a o = mI M 22 a o) → mI M2 0 a 5 = mI M 0 a 5 → x = mPow P S fr bl k → ∃ M', Fl_give_83 N (Fl_give_8 N n) a p i bl k a k x M2 = some M' ∧ zfr fF M M' ∧ (∀ o, k ≤ o → o < qN P → mI M' 21 a o = mWnd bl (mTkn P (sA S) (mRun S) fr o) ∧ mI M' 22 a o = mPow P S fr bl o) ∧ mI M' 0 a 5 = zsum (mPow P S fr bl) (qN P) ∧ (∀ j o, mI M' 20 j o = mI M 20 j o) ∧ (∀ o, o < k → mI M' 21 a o = mI M 21 a o ∧ mI M' 22 a o = mI M 22 a o) := by
        intro M2 x hf2 q1 q2 q3 q4 q5
        unfold Fl_give_83
        rw [zI_t (by omega)]
        simp only [zW]
        rw [zI_t (by omega), Int.toNat_natCast, zsucc (by omega)]
        have b1 := zsum_ge (f := mPow P S fr bl) (n := k) (a := 0) (fun _ _ => mPow_b.1)
        have b2 := zsum_le (f := mPow P S fr bl) (n := k) (a := 99) (fun _ _ => mPow_b.2)
        have b3 := mPow_b (P := P) (S := S) (fr := fr) (bl := bl) (t := k)
        have e1 : z32 (mI (pI M2 22 a k x) 0 a 5 + mI (pI M2 22 a k x) 22 a k) = zsum (mPow P S fr bl) (k + 1) := by
          rw [mI_pI_ne (by omega), mI_pI_eq, q4, h5, q5, zs (by omega)]
          rfl
        rw [e1]
        have hf3 : zfr fF M (pI (pI M2 22 a k x) 0 a 5 (zsum (mPow P S fr bl) (k + 1))) := (hf2.pI (by simp [fF])).pI (by simp [fF])
        obtain ⟨M', e, r1, r2, r3, r4, r5⟩ := ih (k + 1) _ (hp.fr hf3 fF_p) (hc.fr hf3 (fun t k h => fF_s t i k h)) (fun o ho => by
          rw [mI_pI_ne (by omega), mI_pI_ne (by omega), q2, ht o ho]) mI_pI_eq (by omega) (by omega)
        refine ⟨M', e, hf3.tr r1, fun o h7 h8 => ?_, r3, fun j o => ?_, fun o h7 => ?_⟩
        · by_cases b6 : o = k
          · subst b6
            have r := r5 o (by omega)
            rw [r.1, r.2, mI_pI_ne (by omega), mI_pI_ne (by omega), q1, mI_pI_ne (by omega), mI_pI_eq, q5]
            exact ⟨rfl, rfl⟩
          · exact r2 o (by omega) h8
        · rw [r4, mI_pI_ne (by omega), mI_pI_ne (by omega), q2]
        · have r := r5 o (by omega)
          have q := q3 o h7
          rw [r.1, r.2, mI_pI_ne (by omega), mI_pI_ne (by omega), q.1, mI_pI_ne (by omega), mI_pI_ne (by omega), q.2]
          exact ⟨rfl, rfl⟩
      by_cases b3 : mRun S k = true
      · simp only [b3, if_true]
        rw [if_neg (by decide), zI_t (by omega), zI_t (by omega), zI_t (by omega), mI_pI_eq, hc1.w (by omega), hc1.a (by omega), hc1.t]
        obtain ⟨M2, e, hf2⟩ := c_gives hp1 hN (w := mWnd bl (mTkn P (sA S) (mRun S) fr k)) (wo := sW S k) (st := sT S) (mWnd_r hb (mTkn_b hv)) (hs.w (k := k) (by omega)) (hs.a (k := k) (by omega))
        rw [e, zB_s]
        exact fin M2 _ (hf1.tr (hf2.mo fL_F)) ((hf2.2 _ _ _ (fL_n (by omega))).trans mI_pI_eq) (fun j o => (hf2.2 _ _ _ (fL_n (by omega))).trans (mI_pI_ne (by omega))) (fun o ho => ⟨(hf2.2 _ _ _ (fL_n (by omega))).trans (mI_pI_ne (by omega)), (hf2.2 _ _ _ (fL_n (by omega))).trans (mI_pI_ne (by omega))⟩) ((hf2.2 _ _ _ (fL_n (by omega))).trans (mI_pI_ne (by omega))) (by simp [mPow, b3])
      · simp only [b3, if_false, Bool.false_eq_true, if_true]
        refine fin _ 0 hf1 mI_pI_eq (fun j o => mI_pI_ne (by omega)) (fun o ho => ⟨mI_pI_ne (by omega), mI_pI_ne (by omega)⟩) (mI_pI_ne (by omega)) (by simp [mPow, b3])
theorem c_give (hv : VP P) (hs : VS c P S) (hp : CP p P M) (hc : CS i S M) (hN : 2000 ≤ N) {fr bl : Int} (hb : 0 ≤ bl ∧ bl ≤ 30) {a : Nat} (ht : ∀ o, o < qN P → mI M 20 a o = mTkn P (sA S) (mRun S) fr o) : ∃ M', Fl_give N a p i bl M = some M' ∧ zfr fF M M' ∧ (∀ o, o < qN P → mI M' 21 a o = mWnd bl (mTkn P (sA S) (mRun S) fr o) ∧ mI M' 22 a o = mPow P S fr bl o) ∧ mI M' 0 a 5 = zsum (mPow P S fr bl) (qN P) ∧ (∀ j o, mI M' 20 j o = mI M 20 j o) := by
  have h6 := hv.n
  unfold Fl_give
  simp only [zW]
  have hf1 : zfr fF M (pI M 0 a 5 0) := (zfr.rf M).pI (by simp [fF])
  obtain ⟨M', e, h1, h2, h3, h4, _⟩ := c_give8 (N := N) (p := p) (i := i) hv hs hN (fr := fr) hb (a := a) N 0 _ (hp.fr hf1 fF_p) (hc.fr hf1 (fun t k h => fF_s t i k h)) (fun o ho => by rw [mI_pI_ne (by omega), ht o ho]) mI_pI_eq (by omega) (by omega)
  exact ⟨M', e, hf1.tr h1, fun o ho => h2 o (by omega) ho, h3, fun j o => (h4 j o).trans (mI_pI_ne (by omega))⟩
end MEAS
