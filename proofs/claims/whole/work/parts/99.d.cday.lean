section CDAY
variable {N n b m : Nat} {x : Nat → Int} {q q' : Nat → Int} {M M' : ZM}
theorem CRd.s (h : CRd x n b M) (e2 : M'.2 = M.2) (e : ∀ t i k, t = 8 ∨ t = 42 ∨ t = 5 → mI M' t i k = mI M t i k) : CRd x n b M' := by
  obtain ⟨h1, h2, h3, h4⟩ := h
  exact ⟨⟨⟨(e _ _ _ (by omega)).trans h1.1.1, fun k hk => (e _ _ _ (by omega)).trans (h1.1.2 k hk)⟩, h1.2.1.e e2, h1.2.2⟩, ⟨(e _ _ _ (by omega)).trans h2.1, (e _ _ _ (by omega)).trans h2.2.1, (e _ _ _ (by omega)).trans h2.2.2.1, fun q => (e _ _ _ (by omega)).trans (h2.2.2.2.1 q), fun q => (mL_2 e2 _ _ _).trans (h2.2.2.2.2.1 q), by rw [mR_2 e2]; exact h2.2.2.2.2.2⟩, h3, (e _ _ _ (by omega)).trans h4⟩
theorem zfr.cF {S : Nat → Nat → Nat → Bool} {F : Nat → Nat → Nat → Prop} (h : zfr S M M') (hs : ∀ t i k, S t i k = true → F t i k) : zcF F M M' := ⟨mK_2 h.1, fun k _ => by rw [mR_2 h.1], fun t i k e => h.2 t i k (by cases hS : S t i k with
  | false => rfl
  | true => exact absurd (hs t i k hS) e), fun t i k _ _ => mL_2 h.1 _ _ _⟩
/-- what reading a day may change in the class -/
def fDy (t i k : Nat) : Prop := fRd t i k ∨ ((t = 3 ∨ t = 26) ∧ i = 6)
abbrev LO : Type := Int ⊕ (Nat × List Int)
def oEnd (x : Nat → Int) (n b : Nat) (l : List Int) (v : Int) : LO := match oSign x n b 59 with
  | .inl e => .inl e
  | .inr z => .inr (z.1, l ++ [v])
def oArg (x : Nat → Int) (n b : Nat) (d t : Int) (l : List Int) : LO := if d = 0 then (match oNum x n b 0 4 with
  | .inl e => .inl e
  | .inr z => oEnd x n z.1 l (d * 100 + t * 10 + z.2)) else oEnd x n b l (d * 100 + t * 10)
def dDeed (x : Nat → Int) (n b : Nat) : Int := if tWd x n b = some 14 then 0 else if tWd x n b = some 15 then 1 else if tWd x n b = some 16 then 2 else if tWd x n b = some 17 then 3 else if tWd x n b = some 18 then 4 else -1
def oLine (x : Nat → Int) (n b : Nat) (q : Nat → Int) (m : Nat) (l : List Int) : LO := if dDeed x n b = -1 then .inl (1 + 16 * (b : Int)) else if l.length < 40 then (if dDeed x n b = 4 then oArg x n (nb x n b) 4 0 l else match oTur x n (nb x n b) q m with
  | .inl e => .inl e
  | .inr z => oArg x n (nb x n z.1) (dDeed x n b) z.2 l) else .inl (5 + 16 * (b : Int))
def CD (x : Nat → Int) (n : Nat) (M : ZM) (o : LO) (r : Option (Int × ZM)) : Prop := match o with
  | .inl e => ∃ M', r = some (0, M') ∧ mI M' 5 0 3 = e ∧ e ≠ 0 ∧ cTp n x M' ∧ zcF fDy M M'
  | .inr (b', l') => ∃ M', r = some (1, M') ∧ CRd x n b' M' ∧ CN 6 l' M' ∧ zcF fDy M M'
theorem zcF.d (h : zcF fRd M M') : zcF fDy M M' := h.mo (fun _ _ _ q => .inl q)
theorem zcF.cn (h : zcF fRd M M') {l : List Int} (hl : CN 6 l M) : CN 6 l M' := hl.g (fun t k ht => h.2.2.1 _ _ _ (by unfold fRd; omega))
theorem CD.w {o : LO} {M0 : ZM} {r : Option (Int × ZM)} (f : zcF fDy M0 M) (h : CD x n M o r) : CD x n M0 o r := by
  unfold CD at h ⊢
  cases o with
  | inl e => obtain ⟨M', a, b, c, d, g⟩ := h; exact ⟨M', a, b, c, d, f.tr g⟩
  | inr z => obtain ⟨M', a, b, c, g⟩ := h; exact ⟨M', a, b, c, f.tr g⟩
theorem c_line93 {d t a : Int} {l : List Int} (h : CRd x n b M) (hl : CN 6 l M) (h40 : l.length < 40) (ht : mI M 5 0 5 = t) (ha : mI M 5 0 4 = a) (hd : 0 ≤ d ∧ d ≤ 4) (ht' : 0 ≤ t ∧ t ≤ 9) (ha' : 0 ≤ a ∧ a ≤ 9) (hN : 2000 ≤ N) : CD x n M (oEnd x n b l (d * 100 + t * 10 + a)) (Re_readDayLine_93 N 0 d M) := by
  unfold Re_readDayLine_93
  rw [ht, ha, zs (x := d * 100) (by omega), zs (x := t * 10) (by omega), zs (x := d * 100 + t * 10) (by omega), zs (by omega)]
  obtain ⟨M1, e1, f1, l1⟩ := c_add (N := N) (q := 6) (x := d * 100 + t * 10 + a) hl (by show (l.length : Int) < 40; omega) (by decide)
  rw [e1, zB_s]
  have r1 : CRd x n b M1 := h.s f1.1 (fun t i k ht => f1.2 _ _ _ (by simp; omega))
  have g1 : zcF fDy M M1 := f1.cF (fun t i k hs => by simp at hs; right; omega)
  have hs := c_passSign (N := N) (c := 59) r1 hN
  unfold oEnd
  unfold CO at hs
  cases ho : oSign x n b 59 with
  | inl e =>
    rw [ho] at hs
    obtain ⟨M', a1, a2, a3, a4, a5⟩ := hs
    rw [a1, zB_s, zb10]
    exact ⟨M', rfl, a2, a3, a4, g1.tr a5.d⟩
  | inr z =>
    rw [ho] at hs
    obtain ⟨M', a1, a2, a3, a5⟩ := hs
    rw [a1, zB_s, zb11]
    exact ⟨M', rfl, a2, a5.cn l1, g1.tr a5.d⟩
theorem c_line78 {d t : Int} {l : List Int} (h : CRd x n b M) (hl : CN 6 l M) (h40 : l.length < 40) (ht : mI M 5 0 5 = t) (ha : mI M 5 0 4 = 0) (hd : 0 ≤ d ∧ d ≤ 4) (ht' : 0 ≤ t ∧ t ≤ 9) (hN : 2000 ≤ N) : CD x n M (oArg x n b d t l) (Re_readDayLine_78 N 0 d M) := by
  unfold Re_readDayLine_78 oArg
  by_cases e : d = 0
  · rw [if_pos e, if_pos e]
    have hs := c_passNumber (N := N) (lo := 0) (hi := 4) h hN
    unfold CO at hs
    cases ho : oNum x n b 0 4 with
    | inl e =>
      rw [ho] at hs
      obtain ⟨M', a1, a2, a3, a4, a5⟩ := hs
      rw [a1, zB_s, if_pos rfl]
      exact ⟨M', rfl, a2, a3, a4, a5.d⟩
    | inr z =>
      have hz : 0 ≤ z.2 ∧ z.2 ≤ 4 := by
        unfold oNum at ho
        by_cases c1 : tKi x n b = 2
        · rw [if_pos c1] at ho
          by_cases c2 : 0 ≤ wV x n b ∧ wV x n b ≤ 4
          · rw [if_pos c2] at ho; cases ho; exact c2
          · rw [if_neg c2] at ho; cases ho
        · rw [if_neg c1] at ho; cases ho
      rw [ho] at hs
      obtain ⟨M', a1, a2, a3, a5⟩ := hs
      rw [a1, zB_s, if_neg (by decide)]
      exact (c_line93 a2 (a5.cn hl) h40 ((a3.2 5 (by decide)).trans ht) a3.1 hd ht' (by omega) hN).w a5.d
  · rw [if_neg e, if_neg e]
    have := c_line93 h hl h40 ht ha hd ht' (by omega) hN
    rwa [Int.add_zero] at this
theorem c_deed {N : Nat} : Re_deedOf N (tWd x n b) M = some (dDeed x n b, M) := by
  unfold Re_deedOf dDeed
  split
  · rfl
  · split
    · rfl
    · split
      · rfl
      · split
        · rfl
        · split <;> rfl
theorem dDeed_b : -1 ≤ dDeed x n b ∧ dDeed x n b ≤ 4 := by
  unfold dDeed
  repeat' split
  all_goals omega
theorem c_line {p : Nat} {l : List Int} (h : CRd x n b M) (hq : CNm p m q M) (hl : CN 6 l M) (hN : 2000 ≤ N) : CD x n M (oLine x n b q m l) (Re_readDayLine N 0 M) := by
  unfold Re_readDayLine oLine
  rw [h.2.1.2.2.2.2.2, c_deed, zB_s]
  have hd := dDeed_b (x := x) (n := n) (b := b)
  by_cases c1 : dDeed x n b = -1
  · rw [if_pos c1, if_pos c1]
    obtain ⟨M', e1, a2, a3, a4, a5⟩ := c_fail (N := N) (e := 1) (by omega) h
    rw [e1, zB_s, zb10]
    exact ⟨M', rfl, a2, a3, a4, a5.d⟩
  · rw [if_neg c1, if_neg c1, hl.1]
    by_cases c2 : l.length < 40
    · rw [if_pos c2, if_pos (show (l.length : Int) < 40 by omega)]
      obtain ⟨M1, e1, t1, f1⟩ := h.pass hN
      rw [e1, zBv_s, zW_e, zW_e]
      have t2 := (t1.p (k := 5) (v := 0) (by decide)).p (k := 4) (v := 0) (by decide)
      have f2 : zcF fRd M (pI (pI M1 5 0 5 0) 5 0 4 0) := f1.f.tr ((zcF.p (.inr (by omega))).tr (zcF.p (.inr (by omega))))
      have a5 : mI (pI (pI M1 5 0 5 0) 5 0 4 0) 5 0 5 = 0 := by rw [mI_pI_ne (by omega), mI_pI_eq]
      have a4 : mI (pI (pI M1 5 0 5 0) 5 0 4 0) 5 0 4 = 0 := mI_pI_eq
      generalize pI (pI M1 5 0 5 0) 5 0 4 0 = M2 at *
      by_cases c3 : dDeed x n b = 4
      · rw [if_pos c3, if_pos c3, c3]
        exact (c_line78 t2 (f2.cn hl) c2 a5 a4 (by omega) (by omega) hN).w f2.d
      · rw [if_neg c3, if_neg c3]
        have hq2 : CNm p m q M2 := ⟨(f2.2.1 2 (by omega)).trans hq.1, (f2.2.2.1 _ _ _ (by unfold fRd; omega)).trans hq.2.1, hq.2.2.1, fun i hi => (f2.2.2.2 _ _ _ (by omega) (by unfold fRd; omega)).trans (hq.2.2.2 i hi)⟩
        have hs := c_isTurbine (N := N) t2 hq2 hN
        unfold CO at hs
        cases ho : oTur x n (nb x n b) q m with
        | inl e =>
          rw [ho] at hs
          obtain ⟨M', g1, g2, g3, g4, g5⟩ := hs
          rw [g1, zB_s, if_pos rfl]
          exact ⟨M', rfl, g2, g3, g4, f2.d.tr g5.d⟩
        | inr z =>
          have hz : 0 ≤ z.2 ∧ z.2 ≤ 9 := by
            have hb := fNm_b (q := q) (k := wC x n (nb x n b)) m 0
            have := hq.2.2.1
            unfold oTur at ho
            split at ho
            · split at ho
              · cases ho
              · cases ho; omega
            · cases ho
          rw [ho] at hs
          obtain ⟨M', g1, g2, g3, g5⟩ := hs
          rw [g1, zB_s, if_neg (by decide)]
          obtain ⟨M3, e3, t3, f3⟩ := g2.pass hN
          rw [e3, zBv_s]
          have f4 : zcF fRd M M3 := (f2.tr g5).tr f3.f
          exact (c_line78 t3 (f4.cn hl) c2 ((f3.2.2.1 _ _ _ (by omega)).trans g3.1) (((f3.2.2.1 _ _ _ (by omega)).trans (g3.2 4 (by decide))).trans a4) (by omega) hz hN).w f4.d
    · rw [if_neg c2, if_neg (show ¬ (l.length : Int) < 40 by omega)]
      obtain ⟨M', e1, a2, a3, a4, a5⟩ := c_fail (N := N) (e := 5) (by omega) h
      rw [e1, zB_s, zb10]
      exact ⟨M', rfl, a2, a3, a4, a5.d⟩
end CDAY
