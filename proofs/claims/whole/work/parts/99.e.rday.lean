section RDAY
variable {N n b m : Nat} {x : Nat → Int} {q q' : Nat → Int} {M M' : ZM}
def fDr (t i k : Nat) : Prop := fRr t i k ∨ (i = 0 ∧ ((t = 74 ∧ k = 5) ∨ (75 ≤ t ∧ t ≤ 77 ∧ 200 ≤ k)))
def RD' (x : Nat → Int) (n : Nat) (M : ZM) (o : LO) (r : Option (Int × ZM)) : Prop := match o with
  | .inl e => ∃ M', r = some (0, M') ∧ mI M' 11 0 9 = e ∧ zrF fDr M M'
  | .inr (b', l') => ∃ M', r = some (1, M') ∧ RRd x n b' M' ∧ (mI M' 74 0 5 = (l'.length : Int) ∧ RN 200 l' M') ∧ zrF fDr M M'
theorem zrF.d (h : zrF fRr M M') : zrF fDr M M' := h.mo (fun _ _ _ q => .inl q)
theorem zrF.rn (h : zrF fRr M M') {l : List Int} (hl : mI M 74 0 5 = (l.length : Int) ∧ RN 200 l M) : mI M' 74 0 5 = (l.length : Int) ∧ RN 200 l M' := ⟨(h.2.2.1 _ _ _ (by unfold fRr; omega)).trans hl.1, hl.2.g (fun t k ht _ _ => h.2.2.1 _ _ _ (by unfold fRr; omega))⟩
theorem RD'.w {o : LO} {M0 : ZM} {r : Option (Int × ZM)} (f : zrF fDr M0 M) (h : RD' x n M o r) : RD' x n M0 o r := by
  unfold RD' at h ⊢
  cases o with
  | inl e => obtain ⟨M', a, b, g⟩ := h; exact ⟨M', a, b, f.tr g⟩
  | inr z => obtain ⟨M', a, b, c, g⟩ := h; exact ⟨M', a, b, c, f.tr g⟩
theorem r_line175 {d t a : Int} {l : List Int} (h : RRd x n b M) (hl : mI M 74 0 5 = (l.length : Int) ∧ RN 200 l M) (h40 : l.length < 40) (hd : mI M 75 0 (200 + l.length) = d) (ht : d ≠ 4 → mI M 76 0 (200 + l.length) = t) (ha : d = 0 → mI M 77 0 (200 + l.length) = a) (hd' : 0 ≤ d ∧ d ≤ 4) (ht' : 0 ≤ t ∧ t ≤ 9) (ha' : 0 ≤ a ∧ a ≤ 9) (hN : 2000 ≤ N) : RD' x n M (oEnd x n b l (d * 100 + t * 10 + a)) (Mo_readsLine_175 N 0 M) := by
  unfold Mo_readsLine_175
  rw [hl.1, zsucc (by omega), zW_e]
  have h1 := h.p (t := 74) (k := 5) (v := ((l.length + 1 : Nat) : Int)) (by decide) (by omega)
  have f1 : zrF fDr M (pI M 74 0 5 ((l.length + 1 : Nat) : Int)) := zrF.p (.inr (by omega))
  have l1 : mI (pI M 74 0 5 ((l.length + 1 : Nat) : Int)) 74 0 5 = ((l ++ [d * 100 + t * 10 + a]).length : Int) ∧ RN 200 (l ++ [d * 100 + t * 10 + a]) (pI M 74 0 5 ((l.length + 1 : Nat) : Int)) := by
    refine ⟨by rw [mI_pI_eq]; simp, fun i hi => ?_⟩
    rw [mI_pI_ne (by omega), mI_pI_ne (by omega), mI_pI_ne (by omega)]
    by_cases e : i < l.length
    · have := hl.2 i e
      rw [List.getElem_append_left e]
      exact this
    · have e' : i = l.length := by simp at hi; omega
      subst e'
      rw [List.getElem_append_right (by omega)]
      simp only [Nat.sub_self, List.getElem_cons_zero]
      refine ⟨by rw [hd]; omega, fun hne => ?_, fun h0 => ?_⟩
      · rw [ht (by omega)]; omega
      · rw [ha (by omega)]; omega
  generalize pI M 74 0 5 ((l.length + 1 : Nat) : Int) = M1 at *
  have hs := r_closes (N := N) h1 hN
  unfold oEnd
  unfold RO' at hs
  cases ho : oSign x n b 59 with
  | inl e =>
    rw [ho] at hs
    obtain ⟨M', a1, a2, a4, a5⟩ := hs
    rw [a1, zB_s, zb10]
    exact ⟨M', rfl, a2, f1.tr a5.d⟩
  | inr z =>
    rw [ho] at hs
    obtain ⟨M', a1, a2, a3, a5⟩ := hs
    rw [a1, zB_s, zb11]
    exact ⟨M', rfl, a2, a5.rn l1, f1.tr a5.d⟩
theorem r_line150 {d t : Int} {l : List Int} (h : RRd x n b M) (hl : mI M 74 0 5 = (l.length : Int) ∧ RN 200 l M) (h40 : l.length < 40) (hd : mI M 75 0 (200 + l.length) = d) (ht : d ≠ 4 → mI M 76 0 (200 + l.length) = t) (hd' : 0 ≤ d ∧ d ≤ 4) (ht' : 0 ≤ t ∧ t ≤ 9) (hN : 2000 ≤ N) : RD' x n M (oArg x n b d t l) (Mo_readsLine_150 N 0 d ((200 + l.length : Nat) : Int) M) := by
  unfold Mo_readsLine_150 oArg
  by_cases e : d = 0
  · rw [if_pos e, if_pos e]
    have hs := r_needsNumber (N := N) (lo := 0) (hi := 4) h hN
    unfold RO' at hs
    cases ho : oNum x n b 0 4 with
    | inl e =>
      rw [ho] at hs
      obtain ⟨M', a1, a2, a4, a5⟩ := hs
      rw [a1, zB_s, if_pos rfl]
      exact ⟨M', rfl, a2, a5.d⟩
    | inr z =>
      have hz : 0 ≤ z.2 ∧ z.2 ≤ 4 := by
        unfold oNum at ho
        by_cases c1 : tKi x n b = 2
        · rw [if_pos c1] at ho
          by_cases c2 : 0 ≤ wV x n b ∧ wV x n b ≤ 4
          · rw [if_pos c2] at ho; cases ho; exact c2
          · rw [if_neg c2] at ho; cases ho
        · rw [if_neg c1] at ho; cases ho
      rw [ho] at hs
      obtain ⟨M', a1, a2, a3, a5⟩ := hs
      have a3' : mI M' 11 0 35 = z.2 := a3
      rw [a1, zB_s, if_neg (by decide), zI_t (by omega), Int.toNat_natCast, a3', zW_e]
      have l' := a5.rn hl
      have f2 : zrF fDr M' (pI M' 77 0 (200 + l.length) z.2) := zrF.p (.inr (by omega))
      refine RD'.w (a5.d.tr f2) (r_line175 (a2.p (by decide) (by omega)) ⟨(mI_pI_ne (by omega)).trans l'.1, l'.2.g (fun t k ht hk hk' => mI_pI_ne (by omega))⟩ h40 ?_ (fun hne => ?_) (fun _ => mI_pI_eq) hd' ht' (by omega) hN)
      · rw [mI_pI_ne (by omega), a5.2.2.1 _ _ _ (by unfold fRr; omega), hd]
      · rw [mI_pI_ne (by omega), a5.2.2.1 _ _ _ (by unfold fRr; omega), ht hne]
  · rw [if_neg e, if_neg e]
    have := r_line175 (a := 0) h hl h40 hd ht (fun q => absurd q e) hd' ht' (by omega) hN
    rwa [Int.add_zero] at this
theorem r_line71 {l : List Int} {y : Int} (h : RRd x n b M) (hy : y = dDeed x n b) (hq : RNm 0 m q' M) (hz : ∀ i, i < m → zNm (q i) (q' i)) (hl : mI M 74 0 5 = (l.length : Int) ∧ RN 200 l M) (h40 : l.length ≤ 40) (hN : 2000 ≤ N) : RD' x n M (oLine x n b q m l) (Mo_readsLine_71 N 0 y M) := by
  unfold Mo_readsLine_71 oLine
  have hd := dDeed_b (x := x) (n := n) (b := b)
  rw [← hy] at hd ⊢
  by_cases c1 : y = -1
  · rw [if_pos c1, if_pos (by omega)]
    obtain ⟨M', e1, a2, a4, a5⟩ := r_fails (N := N) (e := 1) (by omega) h
    rw [e1, zB_s, zb10]
    exact ⟨M', rfl, a2, a5.d⟩
  · rw [if_neg c1, if_neg (show ¬ y < 0 by omega), hl.1]
    by_cases c2 : l.length < 40
    · rw [if_pos c2, if_neg (show ¬ (l.length : Int) = 40 by omega)]
      obtain ⟨M1, e1, t1, f1⟩ := h.pass hN
      have l1 := f1.f.rn hl
      have ez : z32 (200 + (l.length : Int)) = ((200 + l.length : Nat) : Int) := by rw [zs (by omega)]; omega
      rw [e1, zBv_s, l1.1, ez]
      clear ez
      rw [zW_e, zI_t (by omega), Int.toNat_natCast, zW_e]
      have t2 := t1.p (t := 75) (k := 200 + l.length) (v := y) (by decide) (by omega)
      have f2 : zrF fDr M (pI M1 75 0 (200 + l.length) y) := f1.f.d.tr (zrF.p (.inr (by omega)))
      have l2 : mI (pI M1 75 0 (200 + l.length) y) 74 0 5 = (l.length : Int) ∧ RN 200 l (pI M1 75 0 (200 + l.length) y) := ⟨(mI_pI_ne (by omega)).trans l1.1, l1.2.g (fun t k ht hk hk' => mI_pI_ne (by omega))⟩
      have d2 : mI (pI M1 75 0 (200 + l.length) y) 75 0 (200 + l.length) = y := mI_pI_eq
      have hq2 : RNm 0 m q' (pI M1 75 0 (200 + l.length) y) := ⟨hq.1, ((mI_pI_ne (by omega)).trans (f1.2.2.1 _ _ _ (by omega))).trans hq.2.1, hq.2.2.1, fun i hi => (f1.2.2.2 _ _ _ (by omega)).trans (hq.2.2.2 i hi)⟩
      generalize pI M1 75 0 (200 + l.length) y = M2 at *
      by_cases c3 : y = 4
      · rw [if_pos c3, if_pos c3]
        subst c3
        exact (r_line150 t2 l2 c2 d2 (fun q => absurd rfl q) (by omega) (by omega) hN).w f2
      · rw [if_neg c3, if_neg c3]
        have hs := r_needsTurbine (N := N) t2 hq2 hz hN
        unfold RO' at hs
        cases ho : oTur x n (nb x n b) q m with
        | inl e =>
          rw [ho] at hs
          obtain ⟨M', g1, g2, g4, g5⟩ := hs
          rw [show ((0 : Nat) : Int) = 0 from rfl] at g1
          rw [g1, zB_s, if_pos rfl]
          exact ⟨M', rfl, g2, f2.tr g5.d⟩
        | inr z =>
          have hz : 0 ≤ z.2 ∧ z.2 ≤ 9 := by
            have hb := fNm_b (q := q) (k := wC x n (nb x n b)) m 0
            have := hq.2.2.1
            unfold oTur at ho
            split at ho
            · split at ho
              · cases ho
              · cases ho; omega
            · cases ho
          rw [ho] at hs
          obtain ⟨M', g1, g2, g3, g5⟩ := hs
          have g3' : mI M' 11 0 35 = z.2 := g3
          rw [show ((0 : Nat) : Int) = 0 from rfl] at g1
          rw [g1, zB_s, if_neg (by decide), zI_t (by omega), g3', zW_e]
          have l3 := g5.rn l2
          have t4 := g2.p (t := 76) (k := 200 + l.length) (v := z.2) (by decide) (by omega)
          obtain ⟨M5, e5, t5, f5⟩ := t4.pass hN
          rw [e5, zBv_s]
          have f4 : zrF fDr M' (pI M' 76 0 (200 + l.length) z.2) := zrF.p (.inr (by omega))
          have l4 : mI (pI M' 76 0 (200 + l.length) z.2) 74 0 5 = (l.length : Int) ∧ RN 200 l (pI M' 76 0 (200 + l.length) z.2) := ⟨(mI_pI_ne (by omega)).trans l3.1, l3.2.g (fun t k ht hk hk' => mI_pI_ne (by omega))⟩
          refine (r_line150 t5 (f5.f.rn l4) c2 ?_ (fun _ => ?_) (by omega) hz hN).w (((f2.tr g5.d).tr f4).tr f5.f.d)
          · rw [f5.2.2.1 _ _ _ (by omega), mI_pI_ne (by omega), g5.2.2.1 _ _ _ (by unfold fRr; omega), d2]
          · rw [f5.2.2.1 _ _ _ (by omega), mI_pI_eq]
    · rw [if_neg c2, if_pos (show (l.length : Int) = 40 by omega)]
      obtain ⟨M', e1, a2, a4, a5⟩ := r_fails (N := N) (e := 5) (by omega) h
      rw [e1, zB_s, zb10]
      exact ⟨M', rfl, a2, a5.d⟩
theorem r_line {l : List Int} (h : RRd x n b M) (hq : RNm 0 m q' M) (hz : ∀ i, i < m → zNm (q i) (q' i)) (hl : mI M 74 0 5 = (l.length : Int) ∧ RN 200 l M) (h40 : l.length ≤ 40) (hN : 2000 ≤ N) : RD' x n M (oLine x n b q m l) (Mo_readsLine N 0 M) := by
  unfold Mo_readsLine
  have key := fun y (hy : y = dDeed x n b) => r_line71 (N := N) (q := q) h hy hq hz hl h40 hN
  unfold dDeed at key
  rw [r_isWord 14 (by decide) (by decide +kernel) h.2.1, zB_s]
  by_cases c1 : tWd x n b = some 14
  · rw [if_pos c1, if_neg (by decide)]; exact key 0 (by rw [if_pos c1])
  · rw [if_neg c1, if_pos rfl, r_isWord 15 (by decide) (by decide +kernel) h.2.1, zB_s]
    by_cases c2 : tWd x n b = some 15
    · rw [if_pos c2, if_neg (by decide)]; exact key 1 (by rw [if_neg c1, if_pos c2])
    · rw [if_neg c2, if_pos rfl, r_isWord 16 (by decide) (by decide +kernel) h.2.1, zB_s]
      by_cases c3 : tWd x n b = some 16
      · rw [if_pos c3, if_neg (by decide)]; exact key 2 (by rw [if_neg c1, if_neg c2, if_pos c3])
      · rw [if_neg c3, if_pos rfl, r_isWord 17 (by decide) (by decide +kernel) h.2.1, zB_s]
        by_cases c4 : tWd x n b = some 17
        · rw [if_pos c4, if_neg (by decide)]; exact key 3 (by rw [if_neg c1, if_neg c2, if_neg c3, if_pos c4])
        · rw [if_neg c4, if_pos rfl, r_isWord 18 (by decide) (by decide +kernel) h.2.1, zB_s]
          by_cases c5 : tWd x n b = some 18
          · rw [if_pos c5, if_neg (by decide)]; exact key 4 (by rw [if_neg c1, if_neg c2, if_neg c3, if_neg c4, if_pos c5])
          · rw [if_neg c5, if_pos rfl]; exact key (-1) (by rw [if_neg c1, if_neg c2, if_neg c3, if_neg c4, if_neg c5])
end RDAY
