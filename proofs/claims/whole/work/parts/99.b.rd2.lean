section RD2
variable {N n b : Nat} {x : Nat → Int} {M M' : ZM}
/-- a number's worth -/
def wV (x : Nat → Int) (n b : Nat) : Int := tV x b (tE pDi x n b - b)
def oNum (x : Nat → Int) (n b : Nat) (lo hi : Int) : RO := if tKi x n b = 2 then (if lo ≤ wV x n b ∧ wV x n b ≤ hi then .inr (nb x n b, wV x n b) else eC 4 b) else eC 1 b
theorem CRd.v (h : CRd x n b M) (c : tKi x n b = 2) : mI M 8 0 4 = wV x n b := h.2.1.2.2.2.1 c
theorem RRd.v (h : RRd x n b M) (c : tKi x n b = 2) : mI M 11 0 8 = wV x n b := h.2.1.2.2.2.1 c
theorem CRd.p (h : CRd x n b M) {k : Nat} {v : Int} (hk : k ≠ 3) : CRd x n b (pI M 5 0 k v) := by
  obtain ⟨h1, h2, h3, h4⟩ := h
  exact ⟨⟨⟨(mI_pI_ne (by omega)).trans h1.1.1, fun k hk => (mI_pI_ne (by omega)).trans (h1.1.2 k hk)⟩, h1.2.1.e rfl, h1.2.2⟩, ⟨(mI_pI_ne (by omega)).trans h2.1, (mI_pI_ne (by omega)).trans h2.2.1, (mI_pI_ne (by omega)).trans h2.2.2.1, fun q => (mI_pI_ne (by omega)).trans (h2.2.2.2.1 q), h2.2.2.2.2.1, h2.2.2.2.2.2⟩, h3, (mI_pI_ne (by omega)).trans h4⟩
theorem RRd.p (h : RRd x n b M) {t k : Nat} {v : Int} (hk : t ≠ 50) (hk2 : t = 11 → k ≠ 3 ∧ k ≠ 4 ∧ k ≠ 5 ∧ k ≠ 6 ∧ k ≠ 8) : RRd x n b (pI M t 0 k v) := by
  obtain ⟨h1, h2, h3⟩ := h
  exact ⟨⟨(mI_pI_ne (by omega)).trans h1.1, fun k hk => (mI_pI_ne (by omega)).trans (h1.2.1 k hk), h1.2.2⟩, ⟨(mI_pI_ne (by omega)).trans h2.1, (mI_pI_ne (by omega)).trans h2.2.1, (mI_pI_ne (by omega)).trans h2.2.2.1, fun q => (mI_pI_ne (by omega)).trans (h2.2.2.2.1 q), h2.2.2.2.2⟩, h3⟩
/-- the number is looked at, not passed -/
theorem c_isNumber {lo hi : Int} (h : CRd x n b M) : (tKi x n b = 2 ∧ lo ≤ wV x n b ∧ wV x n b ≤ hi ∧ Re_isNumber N 0 lo hi M = some (1, M)) ∨ (∃ e, oNum x n b lo hi = .inl e ∧ ∃ M', Re_isNumber N 0 lo hi M = some (0, M') ∧ mI M' 5 0 3 = e ∧ e ≠ 0 ∧ cTp n x M' ∧ zcF fRd M M') := by
  unfold Re_isNumber oNum
  rw [h.2.1.2.2.1]
  by_cases c1 : tKi x n b = 2
  · rw [if_pos c1, if_pos c1, h.v c1]
    obtain ⟨M', e1, g⟩ := c_fail (N := N) (e := 4) (by omega) h
    have e39 : Re_isNumber_39 N 0 M = some (0, M') := by unfold Re_isNumber_39; rw [e1, zB_s, if_pos rfl]
    by_cases c2 : wV x n b < lo
    · rw [if_pos c2, if_neg (by omega), e39]
      exact .inr ⟨_, rfl, M', rfl, g⟩
    · rw [if_neg c2]
      by_cases c3 : hi < wV x n b
      · rw [if_pos c3, if_neg (by omega), e39]
        exact .inr ⟨_, rfl, M', rfl, g⟩
      · rw [if_neg c3]
        exact .inl ⟨c1, by omega, by omega, rfl⟩
  · rw [if_neg c1, if_neg c1]
    obtain ⟨M', e1, g⟩ := c_fail (N := N) (e := 1) (by omega) h
    rw [e1, zB_s, zb10]
    exact .inr ⟨_, rfl, M', rfl, g⟩
theorem c_passNumber {lo hi : Int} (h : CRd x n b M) (hN : 2000 ≤ N) : CO x n fRd (fun v M' => mI M' 5 0 4 = v ∧ ∀ k, k ≠ 4 → mI M' 5 0 k = mI M 5 0 k) M (oNum x n b lo hi) (Re_passNumber N 0 lo hi M) := by
  unfold Re_passNumber
  rcases c_isNumber (N := N) (lo := lo) (hi := hi) h with ⟨c1, c2, c3, e1⟩ | ⟨e, e0, M', e1, g⟩
  · rw [e1, zB_s, if_neg (by decide), h.v c1, zW_e]
    obtain ⟨M', e2, t, f⟩ := (h.p (k := 4) (v := wV x n b) (by decide)).pass hN
    rw [e2, zBv_s]
    unfold oNum
    rw [if_pos c1, if_pos ⟨c2, c3⟩]
    refine ⟨M', rfl, t, ⟨?_, fun k hk => ?_⟩, (zcF.p (.inr (by omega))).tr f.f⟩
    · rw [f.2.2.1 _ _ _ (by omega), mI_pI_eq]
    · rw [f.2.2.1 _ _ _ (by omega), mI_pI_ne (by omega)]
  · rw [e1, zB_s, if_pos rfl, e0]
    exact ⟨M', rfl, g⟩
theorem r_needsNumber {lo hi : Int} (h : RRd x n b M) (hN : 2000 ≤ N) : RO' x n fRr (fun v M' => mI M' 11 0 35 = v) M (oNum x n b lo hi) (Mo_needsNumber N 0 lo hi M) := by
  unfold Mo_needsNumber oNum
  by_cases c1 : tKi x n b = 2
  · rw [if_pos (h.2.1.w2.2 c1), if_pos c1, h.v c1, r_within, zB_s]
    by_cases c2 : lo ≤ wV x n b ∧ wV x n b ≤ hi
    · rw [if_pos c2, if_pos c2, if_neg (by decide), h.v c1, zW_e]
      obtain ⟨M', e2, t, f⟩ := (h.p (t := 11) (k := 35) (v := wV x n b) (by decide) (by decide)).pass hN
      rw [e2, zBv_s]
      refine ⟨M', rfl, t, ?_, (zrF.p ⟨rfl, rfl, by omega⟩).tr f.f⟩
      exact (f.2.2.1 _ _ _ (by omega)).trans mI_pI_eq
    · rw [if_neg c2, if_neg c2, if_pos rfl]
      obtain ⟨M', e1, g⟩ := r_fails (N := N) (e := 4) (by omega) h
      rw [e1, zB_s, zb10]
      exact ⟨M', rfl, g⟩
  · rw [if_neg (fun q => c1 (h.2.1.w2.1 q)), if_neg c1]
    obtain ⟨M', e1, g⟩ := r_fails (N := N) (e := 1) (by omega) h
    rw [e1, zB_s, zb10]
    exact ⟨M', rfl, g⟩
/-- the turbine that has the name k -/
def fNm (q : Nat → Int) (k : Int) : Nat → Nat → Int
  | 0, _ => -1
  | f + 1, i => if q i = k then (i : Int) else fNm q k f (i + 1)
theorem fNm_b {q : Nat → Int} {k : Int} : ∀ (f i : Nat), fNm q k f i = -1 ∨ ((i : Int) ≤ fNm q k f i ∧ fNm q k f i < ((i + f : Nat) : Int)) := by
  intro f
  induction f with
  | zero => intro i; exact .inl rfl
  | succ f ih =>
    intro i
    rw [fNm]
    by_cases e : q i = k
    · rw [if_pos e]; right; omega
    · rw [if_neg e]; have := ih (i + 1); omega
theorem fNm_eq {q q' : Nat → Int} {k k' : Int} (hk : zNm k k') : ∀ (f i : Nat), (∀ j, i ≤ j → j < i + f → zNm (q j) (q' j)) → fNm q k f i = fNm q' k' f i := by
  intro f
  induction f with
  | zero => intro i _; rfl
  | succ f ih =>
    intro i h
    rw [fNm, fNm, ih (i + 1) (fun j a c => h j (by omega) (by omega))]
    have := (h i (by omega) (by omega)).iff hk
    by_cases e : q i = k
    · rw [if_pos e, if_pos (this.1 e)]
    · rw [if_neg e, if_neg (fun q => e (this.2 q))]
theorem c_byName {p m : Nat} {q : Nat → Int} {k : Int} (hm : m ≤ 6) (h0 : mI M 4 p 0 = (m : Int)) (hq : ∀ i, i < m → mL M 27 p i = q i) : ∀ (f i g : Nat), i + f = m → f < g → Pa_byName_2 N g p k i M = some (fNm q k f i, M) := by
  intro f
  induction f with
  | zero =>
    intro i g hi hg
    obtain ⟨g, rfl⟩ : ∃ m', g = m' + 1 := ⟨g - 1, by omega⟩
    rw [Pa_byName_2, h0, if_neg (by omega)]; rfl
  | succ f ih =>
    intro i g hi hg
    obtain ⟨g, rfl⟩ : ∃ m', g = m' + 1 := ⟨g - 1, by omega⟩
    rw [Pa_byName_2, h0, if_pos (by omega), zI_t (by omega), Int.toNat_natCast, hq i (by omega), zsucc (by omega), zW_e, ih (i + 1) g (by omega) (by omega), fNm]
    by_cases e : q i = k
    · rw [if_pos (z_lcmp0.2 e), if_pos e]
    · rw [if_neg (fun q => e (z_lcmp0.1 q)), if_neg e]
theorem zr9 {r : Nat} (hr : r < 2) : z32 (z32 (9 * (r : Int)) + 0) = ((9 * r : Nat) : Int) ∧ z32 (6 * (r : Int)) = ((6 * r : Nat) : Int) := by
  have : r = 0 ∨ r = 1 := by omega
  rcases this with rfl | rfl <;> exact ⟨by decide, by decide⟩
theorem r_named {r m : Nat} {q : Nat → Int} (hr : r < 2) (hm : m ≤ 6) (h0 : mI M 51 0 (9 * r) = (m : Int)) (hq : ∀ i, i < m → mL M 52 0 (6 * r + i) = q i) : ∀ (f i g : Nat), i + f = m → f < g → Mo_turbineNamed_5 N g 0 r ((6 * r + i : Nat) : Int) M = some (fNm q (mL M 11 0 7) f i, M) := by
  have hz := zr9 hr
  intro f
  induction f with
  | zero =>
    intro i g hi hg
    obtain ⟨g, rfl⟩ : ∃ m', g = m' + 1 := ⟨g - 1, by omega⟩
    rw [Mo_turbineNamed_5, hz.1, hz.2, zI_t (by omega), Int.toNat_natCast, h0]
    clear hz
    rw [zs (by omega), if_neg (by omega)]; rfl
  | succ f ih =>
    intro i g hi hg
    obtain ⟨g, rfl⟩ : ∃ m', g = m' + 1 := ⟨g - 1, by omega⟩
    rw [Mo_turbineNamed_5, hz.1, hz.2, zI_t (by omega), Int.toNat_natCast, h0]
    clear hz
    rw [zs (x := ((6 * r : Nat) : Int) + (m : Int)) (by omega), if_pos (by omega), zI_t (by omega), Int.toNat_natCast, hq i (by omega), zsucc (by omega), zW_e, show 6 * r + i + 1 = 6 * r + (i + 1) by omega, ih (i + 1) g (by omega) (by omega), fNm, zs (by omega)]
    by_cases e : q i = mL M 11 0 7
    · rw [if_pos (z_lcmp0.2 e), if_pos e, show ((6 * r + i : Nat) : Int) - ((6 * r : Nat) : Int) = (i : Int) by omega]
    · rw [if_neg (fun q => e (z_lcmp0.1 q)), if_neg e]
end RD2
