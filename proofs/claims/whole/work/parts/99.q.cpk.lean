section CPK
variable {N n b p T : Nat} {x : Nat → Int} {P : PK} {M M' : ZM}
/-- what reading a park may change in the class -/
def fPk (p t i k : Nat) : Prop := fRd t i k ∨ ((t = 4 ∨ (27 ≤ t ∧ t ≤ 32)) ∧ i = p) ∨ (t = 5 ∧ i = 0 ∧ k = 6) ∨ ((t = 3 ∨ t = 26) ∧ 7 * p ≤ i ∧ i ≤ 7 * p + 5)
def CJ (p : Nat) (P : PK) (T : Nat) (M : ZM) : Prop := CP p P M ∧ mI M 5 0 6 = (T : Int) ∧ zrg (mR M) 2 = some p
def CPo (x : Nat → Int) (n p : Nat) (M : ZM) (o : PO) (r : Option (Int × ZM)) : Prop := match o with
  | .inl e => ∃ M', r = some (0, M') ∧ mI M' 5 0 3 = e ∧ e ≠ 0 ∧ cTp n x M' ∧ zcF (fPk p) M M'
  | .inr z => ∃ M', r = some (1, M') ∧ CRd x n z.1 M' ∧ CJ p z.2.1 z.2.2 M' ∧ zcF (fPk p) M M'
theorem zcF.pk (h : zcF fRd M M') : zcF (fPk p) M M' := h.mo (fun _ _ _ q => .inl q)
theorem zcF.ek (h : zcF (fEx p) M M') : zcF (fPk p) M M' := h.mo (fun _ _ _ q => by
  rcases q with q | q
  · exact .inl q
  · exact .inr (.inr (.inr (by omega))))
theorem CP.cf (h : CP p P M) (f : zcF fRd M M') : CP p P M' := h.gg (fun t i k ht => f.2.2.1 _ _ _ (by unfold fRd; omega)) (fun i k => f.2.2.2 _ _ _ (by omega) (by unfold fRd; omega))
theorem CJ.f (h : CJ p P T M) (f : zcF fRd M M') : CJ p P T M' := ⟨h.1.cf f, (f.2.2.1 _ _ _ (by unfold fRd; omega)).trans h.2.1, (f.2.1 2 (by omega)).trans h.2.2⟩
theorem CJ.t (h : CJ p P T M) (f : zcT M M') : CJ p P T M' := h.f f.f
theorem CPo.w {o : PO} {M0 : ZM} {r : Option (Int × ZM)} (f : zcF (fPk p) M0 M) (h : CPo x n p M o r) : CPo x n p M0 o r := by
  unfold CPo at h ⊢
  cases o with
  | inl e => obtain ⟨M', a, b, c, d, g⟩ := h; exact ⟨M', a, b, c, d, f.tr g⟩
  | inr z => obtain ⟨M', a, b, c, g⟩ := h; exact ⟨M', a, b, c, f.tr g⟩
theorem CPo.zb {o : PO} {r : Option (Int × ZM)} (h : CPo x n p M o r) : CPo x n p M o (zB r fun v M1 => some (z_b1 v, M1)) := by
  unfold CPo at h ⊢
  cases o with
  | inl e => obtain ⟨M', a, b⟩ := h; exact ⟨M', by rw [a, zB_s, zb10], b⟩
  | inr z => obtain ⟨M', a, b⟩ := h; exact ⟨M', by rw [a, zB_s, zb11], b⟩
theorem CPo.bd {Q : Int → ZM → Prop} {o : RO} {r : Option (Int × ZM)} {K : ZM → Option (Int × ZM)} {K' : Nat × Int → PO} (h : CO x n fRd Q M o r) (k : ∀ z M1, o = .inr z → CRd x n z.1 M1 → Q z.2 M1 → zcF fRd M M1 → CPo x n p M1 (K' z) (K M1)) : CPo x n p M (uB o K') (zB r fun v M1 => if v = 0 then some (0, M1) else K M1) := by
  unfold CO at h
  cases o with
  | inl e =>
    obtain ⟨M', a1, a2, a3, a4, a5⟩ := h
    rw [a1, zB_s, if_pos rfl]
    exact ⟨M', rfl, a2, a3, a4, a5.pk⟩
  | inr z =>
    obtain ⟨M', a1, a2, a3, a5⟩ := h
    rw [a1, zB_s, if_neg (by decide)]
    exact (k z M' rfl a2 a3 a5).w a5.pk
theorem CPo.er {e : Int} (he : 1 ≤ e ∧ e ≤ 15) (h : CRd x n b M) : CPo x n p M (.inl (e + 16 * (b : Int))) (zB (Re_fail N 0 e M) fun v M1 => some (z_b1 v, M1)) := by
  obtain ⟨M', e1, g1, g2, g3, g4⟩ := c_fail (N := N) he h
  rw [e1, zB_s, zb10]
  exact ⟨M', rfl, g1, g2, g3, g4.pk⟩
theorem c_fin0 (h : CRd x n b M) (hj : CJ p P T M) (hN : 2000 ≤ N) : CPo x n p M (oFin x n b P T) (Re_passSign N 0 59 M) := by
  have hs := c_passSign (N := N) (c := 59) h hN
  unfold oFin
  unfold CO at hs
  cases ho : oSign x n b 59 with
  | inl e =>
    rw [ho] at hs
    obtain ⟨M', a1, a2, a3, a4, a5⟩ := hs
    exact ⟨M', a1, a2, a3, a4, a5.pk⟩
  | inr z =>
    rw [ho] at hs
    obtain ⟨M', a1, a2, a3, a5⟩ := hs
    exact ⟨M', a1, a2, hj.t a3, a5.pk⟩
theorem CPo.z1 {o : PO} {r : Option (Int × ZM)} (h : CPo x n p M o r) : CPo x n p M o (zB r fun v M1 => if v = 0 then some (0, M1) else some (1, M1)) := by
  unfold CPo at h ⊢
  cases o with
  | inl e => obtain ⟨M', a, b⟩ := h; exact ⟨M', by rw [a, zB_s, if_pos rfl], b⟩
  | inr z => obtain ⟨M', a, b⟩ := h; exact ⟨M', by rw [a, zB_s, if_neg (by decide)], b⟩
theorem zan_m : ∀ T : Nat, T < 128 → ∀ j : Nat, j < 7 → (z_and (T : Int) ((2 ^ j : Nat) : Int) = 0 ↔ zbt T j = false) ∧ z_or (T : Int) ((2 ^ j : Nat) : Int) = ((T ||| 2 ^ j : Nat) : Int) := by decide +kernel
/-- a line that is told once -/
theorem c_once {j : Nat} {m : Int} {K : ZM → Option (Int × ZM)} {K' : Nat × Nat → PO} (hm : m = ((2 ^ j : Nat) : Int)) (hj6 : j < 6) (hT : T < 128) (h : CRd x n b M) (hj : CJ p P T M) (hN : 2000 ≤ N) (k : ∀ z M1, oOnce x n b T j = .inr z → CRd x n z.1 M1 → CJ p P z.2 M1 → CPo x n p M1 (K' z) (K M1)) : CPo x n p M (uB (oOnce x n b T j) K') (zB (Re_once N 0 m M) fun v M1 => if v = 0 then some (0, M1) else K M1) := by
  have hz := zan_m T hT j (by omega)
  unfold Re_once Re_once_45
  rw [hj.2.1, hm]
  by_cases c : zbt T j = true
  · rw [if_neg (fun q => by rw [hz.1, c] at q; cases q)]
    have ho : oOnce x n b T j = .inl (3 + 16 * (b : Int)) := if_pos c
    obtain ⟨M', e1, g1, g2, g3, g4⟩ := c_fail (N := N) (e := 3) (by omega) h
    rw [ho, e1, zB_s, zb10, zB_s, if_pos rfl]
    exact ⟨M', rfl, g1, g2, g3, g4.pk⟩
  · have c' : zbt T j = false := by simpa using c
    have ho : oOnce x n b T j = .inr (nb x n b, T ||| 2 ^ j) := if_neg c
    have h64 : ¬ ((2 ^ j : Nat) : Int) = 64 := by
      have : j = 0 ∨ j = 1 ∨ j = 2 ∨ j = 3 ∨ j = 4 ∨ j = 5 := by omega
      rcases this with rfl | rfl | rfl | rfl | rfl | rfl <;> decide
    rw [if_pos (hz.1.2 c'), hz.2, zW_e, if_neg h64]
    have h1 : CRd x n b (pI M 5 0 6 ((T ||| 2 ^ j : Nat) : Int)) := h.p (by decide)
    obtain ⟨M1, e1, t1, f1⟩ := h1.pass hN
    have g0 : zcF (fPk p) M (pI M 5 0 6 ((T ||| 2 ^ j : Nat) : Int)) := zcF.p (.inr (.inr (.inl ⟨rfl, rfl, rfl⟩)))
    have j0 : CJ p P (T ||| 2 ^ j) (pI M 5 0 6 ((T ||| 2 ^ j : Nat) : Int)) := ⟨hj.1.gg (fun t i k ht => mI_pI_ne (by omega)) (fun _ _ => rfl), mI_pI_eq, hj.2.2⟩
    have j1 : CJ p P (T ||| 2 ^ j) M1 := j0.t f1
    rw [e1, zBv_s, zB_s, if_neg (by decide), ho]
    exact (k (nb x n b, T ||| 2 ^ j) M1 ho t1 j1).w (g0.tr f1.f.pk)
/-- a list -/
def fLj (q t i k : Nat) : Prop := fRd t i k ∨ ((t = 3 ∨ t = 26) ∧ i = q)
theorem c_list7 {q : Nat} {hi : Int} (hz : zlN q = 8) (hN : 2000 ≤ N) : ∀ (f b g : Nat) (l : List Int) (M : ZM), CRd x n b M → CN q l M → l.length ≤ 8 → n < b + f → 9 - l.length < g → match oList x n hi f b l with
    | .inl e => ∃ M', Re_readList_7 N g 0 q hi (l.length : Int) M = some (0, M') ∧ mI M' 5 0 3 = e ∧ e ≠ 0 ∧ cTp n x M' ∧ zcF (fLj q) M M'
    | .inr z => ∃ M', Re_readList_7 N g 0 q hi (l.length : Int) M = some (1, M') ∧ CRd x n z.1 M' ∧ CN q z.2 M' ∧ zcF (fLj q) M M' ∧ mI M' 5 0 6 = mI M 5 0 6 := by
  intro f
  induction f with
  | zero => intro b g l M h _ _ h1; have := h.2.2.1; omega
  | succ f ih =>
    intro b g l M h hl h8 hf hg
    have hb := h.2.2.1
    obtain ⟨g, rfl⟩ : ∃ g', g = g' + 1 := ⟨g - 1, by omega⟩
    have wd : ∀ {M M'}, zcF fRd M M' → zcF (fLj q) M M' := fun f => f.mo (fun _ _ _ q => .inl q)
    have unf : Re_readList_7 N (g + 1) 0 q hi (l.length : Int) M = if l = [] ∨ tKi x n b = 2 then Re_readList_29 N (Re_readList_7 N g) 0 q hi (l.length : Int) M else some (1, M) := by
      rw [Re_readList_7, if_pos (show (l.length : Int) < 1000 by omega), h.2.1.2.2.1]
      by_cases c1 : l = []
      · rw [if_pos (by rw [c1]; rfl), if_pos (.inl c1)]
      · have : ¬ (l.length : Int) = 0 := fun q => c1 (List.length_eq_zero_iff.1 (by omega))
        rw [if_neg this]
        by_cases c2 : tKi x n b = 2
        · rw [if_pos c2, if_pos (.inr c2)]
        · rw [if_neg c2, if_neg (fun q => by rcases q with q | q <;> contradiction)]
    rw [unf, oList]
    by_cases c1 : l = [] ∨ tKi x n b = 2
    · rw [if_pos c1, if_pos c1]
      unfold Re_readList_29
      have hn := c_isNumber (N := N) (lo := 0) (hi := hi) h
      by_cases c2 : tKi x n b = 2
      · rw [if_pos c2]
        have h0 := wV_b c2
        by_cases c3 : wV x n b ≤ hi
        · have e1 : Re_isNumber N 0 0 hi M = some (1, M) := by
            rcases hn with hn | ⟨e, hn, _⟩
            · exact hn.2.2.2
            · unfold oNum at hn
              rw [if_pos c2, if_pos ⟨h0.1, c3⟩] at hn
              cases hn
          rw [if_pos c3, e1, zB_s, if_neg (show ¬ (1 : Int) = 0 by decide), h.v c2]
          by_cases c4 : l.length < 8
          · rw [if_pos c4]
            obtain ⟨M1, e2, f1, l1⟩ := c_add (N := N) (q := q) (x := wV x n b) hl (by rw [hz]; omega) (by rw [hz]; omega)
            have h1 : CRd x n b M1 := h.s f1.1 (fun t i k ht => f1.2 _ _ _ (by simp; omega))
            obtain ⟨M2, e3, t2, f2⟩ := h1.pass hN
            rw [e2, zB_s, if_neg (by decide), e3, zBv_s, zsucc (by omega), zW_e]
            have g1 := nb_gt (x := x) (n := n) (b := b) (by omega)
            have fr : zcF (fLj q) M M2 := (f1.cF (fun t i k hs => by simp at hs; right; omega)).tr (wd f2.f)
            have h6 : mI M2 5 0 6 = mI M 5 0 6 := (f2.2.2.1 _ _ _ (by omega)).trans (f1.2 _ _ _ (by simp))
            have r := ih (nb x n b) g (l ++ [wV x n b]) M2 t2 (l1.g (fun t k ht => f2.2.2.1 _ _ _ (by omega))) (by simp; omega) (by omega) (by simp; omega)
            have el : ((l ++ [wV x n b]).length : Int) = ((l.length + 1 : Nat) : Int) := by simp
            rw [el] at r
            cases ho : oList x n hi f (nb x n b) (l ++ [wV x n b]) with
            | inl e =>
              rw [ho] at r
              obtain ⟨M', a1, a2, a3, a4, a5⟩ := r
              exact ⟨M', a1, a2, a3, a4, fr.tr a5⟩
            | inr z =>
              rw [ho] at r
              obtain ⟨M', a1, a2, a3, a4, a5⟩ := r
              exact ⟨M', a1, a2, a3, fr.tr a4, a5.trans h6⟩
          · rw [if_neg c4]
            have e2 : Nu_add N q (wV x n b) M = some (0, M) := by
              unfold Nu_add
              rw [hl.1, hz, if_neg (by omega)]
            rw [e2, zB_s, if_pos rfl]
            obtain ⟨M', e3, g1, g2, g3, g4⟩ := c_fail (N := N) (e := 5) (by omega) h
            rw [e3, zB_s, zb10]
            exact ⟨M', rfl, g1, g2, g3, wd g4⟩
        · rw [if_neg c3]
          rcases hn with hn | ⟨e, hn, M', a1, a2, a3, a4, a5⟩
          · exact absurd hn.2.2.1 c3
          · unfold oNum at hn
            rw [if_pos c2, if_neg (fun q => c3 q.2)] at hn
            cases hn
            rw [a1, zB_s, if_pos rfl]
            exact ⟨M', rfl, a2, a3, a4, wd a5⟩
      · rw [if_neg c2]
        rcases hn with hn | ⟨e, hn, M', a1, a2, a3, a4, a5⟩
        · exact absurd hn.1 c2
        · unfold oNum at hn
          rw [if_neg c2] at hn
          cases hn
          rw [a1, zB_s, if_pos rfl]
          exact ⟨M', rfl, a2, a3, a4, wd a5⟩
    · rw [if_neg c1, if_neg c1]
      exact ⟨M, rfl, h, hl, zcF.rf M, rfl⟩
theorem CP.row {j : Nat} {l : List Int} (h : CP p P M) (hj : j < 3) (hl : CN (7 * p + 1 + j) l M') (e : ∀ t i k, (t = 3 ∨ t = 4 ∨ t = 26 ∨ (28 ≤ t ∧ t ≤ 32)) → ¬ ((t = 3 ∨ t = 26) ∧ i = 7 * p + 1 + j) → mI M' t i k = mI M t i k) (e2 : ∀ i k, mL M' 27 i k = mL M 27 i k) : CP p (pRow P j l) M' := by
  obtain ⟨h1, h2, h3, h4, h5, h6, h7, ⟨w, h8⟩, h9⟩ := h
  have eT : ∀ t k, t ≠ 7 → t ≠ 8 + j → qT (pRow P j l) t k = qT P t k := fun t k a1 a2 => by
    show (if t = 7 ∧ k = j then _ else if t = 8 + j then _ else qT P t k) = _
    rw [if_neg (by omega), if_neg a2]
  have e7 : qT (pRow P j l) 7 j = (l.length : Int) := if_pos ⟨rfl, rfl⟩
  have e7n : ∀ i, i ≠ j → qT (pRow P j l) 7 i = qT P 7 i := fun i hi => by
    show (if 7 = 7 ∧ i = j then _ else if 7 = 8 + j then _ else qT P 7 i) = _
    rw [if_neg (fun q => hi q.2), if_neg (by omega)]
  have e8 : ∀ k, qT (pRow P j l) (8 + j) k = l.getD k 0 := fun k => by
    show (if 8 + j = 7 ∧ k = j then _ else if 8 + j = 8 + j then _ else _) = _
    rw [if_neg (by omega), if_pos rfl]
  refine ⟨(e 4 p 0 (by omega) (by omega)).trans h1, fun k hk => ?_, ⟨(e _ _ _ (by omega) (by omega)).trans h3.1, fun i hi => (e _ _ _ (by omega) (by omega)).trans (h3.2 i hi)⟩, fun i hi => ?_, ⟨(e _ _ _ (by omega) (by omega)).trans h5.1, fun i hi => ?_⟩, ?_, ?_, ⟨w, (e _ _ _ (by omega) (by omega)).trans h8.1, h8.2.1, fun i hi => (e _ _ _ (by omega) (by omega)).trans (h8.2.2.1 i hi), h8.2.2.2⟩, h9⟩
  · obtain ⟨a1, a2, a3, a4, a5, a6⟩ := h2 k hk
    rw [eT 1 k (by omega) (by omega), eT 2 k (by omega) (by omega), eT 3 k (by omega) (by omega), eT 4 k (by omega) (by omega), eT 5 k (by omega) (by omega), eT 12 k (by omega) (by omega)]
    exact ⟨(e _ _ _ (by omega) (by omega)).trans a1, (e _ _ _ (by omega) (by omega)).trans a2, (e _ _ _ (by omega) (by omega)).trans a3, (e _ _ _ (by omega) (by omega)).trans a4, (e _ _ _ (by omega) (by omega)).trans a5, (e2 _ _).trans a6⟩
  · by_cases ei : i = j
    · subst ei
      rw [e7]
      refine ⟨hl.1, fun k hk => ?_⟩
      have hk' : k < l.length := by omega
      rw [e8, zgetD hk']
      exact hl.2 k hk'
    · rw [e7n i ei]
      refine ⟨(e _ _ _ (by omega) (by omega)).trans (h4 i hi).1, fun k hk => ?_⟩
      rw [eT (8 + i) k (by omega) (by omega)]
      exact (e _ _ _ (by omega) (by omega)).trans ((h4 i hi).2 k hk)
  · rw [eT 6 i (by omega) (by omega)]
    exact (e _ _ _ (by omega) (by omega)).trans (h5.2 i hi)
  · rw [eT 11 0 (by omega) (by omega)]
    exact (e _ _ _ (by omega) (by omega)).trans h6
  · rw [eT 11 1 (by omega) (by omega)]
    exact (e _ _ _ (by omega) (by omega)).trans h7
theorem c_row {j : Nat} {hi m : Int} (hm : m = ((2 ^ j : Nat) : Int)) (hj : j < 3) (hT : T < 128) (h : CRd x n b M) (hJ : CJ p P T M) (hN : 2000 ≤ N) : CPo x n p M (oRw x n b j hi P T) (zB (Re_once N 0 m M) fun v106 M106 => if v106 = 0 then some (0, M106) else zO (zrg (mR M106) 2) fun p107 => zB (Re_readList N 0 (7 * p107 + 1 + j) hi M106) fun v108 M108 => if v108 = 0 then some (0, M108) else zB (Re_passSign N 0 59 M108) fun v109 M109 => if v109 = 0 then some (0, M109) else some (1, M109)) := by
  unfold oRw
  refine c_once hm (by omega) hT h hJ hN (fun z M1 ho h1 j1 => ?_)
  rw [j1.2.2, zO_s]
  unfold Re_readList
  rw [zW_e]
  have hz : zlN (7 * p + 1 + j) = 8 := j1.1.z1 hj
  have hn := h1.1.2.2
  have h2 : CRd x n z.1 (pI M1 3 (7 * p + 1 + j) 1 0) := h1.s rfl (fun t i k ht => mI_pI_ne (by omega))
  have l2 : CN (7 * p + 1 + j) [] (pI M1 3 (7 * p + 1 + j) 1 0) := ⟨mI_pI_eq, fun i hi => absurd hi (by simp)⟩
  have r := c_list7 (hi := hi) hz hN 1001 z.1 N [] _ h2 l2 (by simp) (by omega) (by simp; omega)
  rw [show ((([] : List Int).length : Nat) : Int) = 0 from rfl] at r
  have p2 := hJ.1.p2
  have fw : ∀ {M M'}, zcF (fLj (7 * p + 1 + j)) M M' → zcF (fPk p) M M' := fun f => f.mo (fun t i k q => by
    rcases q with q | q
    · exact .inl q
    · exact .inr (.inr (.inr (by omega))))
  have f0 : zcF (fLj (7 * p + 1 + j)) M1 (pI M1 3 (7 * p + 1 + j) 1 0) := zcF.p (.inr ⟨.inl rfl, rfl⟩)
  cases hl : oList x n hi 1001 z.1 [] with
  | inl e =>
    rw [hl] at r
    obtain ⟨M', a1, a2, a3, a4, a5⟩ := r
    rw [a1, zB_s, if_pos rfl]
    exact ⟨M', rfl, a2, a3, a4, fw (f0.tr a5)⟩
  | inr y =>
    rw [hl] at r
    obtain ⟨M', a1, a2, a3, a4, a5⟩ := r
    rw [a1, zB_s, if_neg (by decide)]
    have j2 : CJ p (pRow P j y.2) z.2 M' := ⟨j1.1.row hj a3 (fun t i k ht hn => (f0.tr a4).2.2.1 _ _ _ (by unfold fLj fRd; omega)) (fun i k => (f0.tr a4).2.2.2 _ _ _ (by omega) (by unfold fLj fRd; omega)), by rw [a5, mI_pI_ne (by omega)]; exact j1.2.1, ((f0.tr a4).2.1 2 (by omega)).trans j1.2.2⟩
    exact (c_fin0 (N := N) a2 j2 hN).z1.w (fw (f0.tr a4))
theorem CP.wk {l : List Int} {v0 v1 v2 : Int} (h : CP p P M) (hl : CN (7 * p + 4) [v0, v1, v2] M') (e : ∀ t i k, (t = 3 ∨ t = 4 ∨ t = 26 ∨ (28 ≤ t ∧ t ≤ 32)) → ¬ ((t = 3 ∨ t = 26) ∧ i = 7 * p + 4) → mI M' t i k = mI M t i k) (e2 : ∀ i k, mL M' 27 i k = mL M 27 i k) : CP p (pWk P v0 v1 v2) M' := by
  obtain ⟨h1, h2, h3, h4, h5, h6, h7, ⟨w, h8⟩, h9⟩ := h
  refine ⟨(e 4 p 0 (by omega) (by omega)).trans h1, fun k hk => ?_, ⟨(e _ _ _ (by omega) (by omega)).trans h3.1, fun i hi => (e _ _ _ (by omega) (by omega)).trans (h3.2 i hi)⟩, fun i hi => ?_, ⟨hl.1, fun i hi => ?_⟩, (e _ _ _ (by omega) (by omega)).trans h6, (e _ _ _ (by omega) (by omega)).trans h7, ⟨w, (e _ _ _ (by omega) (by omega)).trans h8.1, h8.2.1, fun i hi => (e _ _ _ (by omega) (by omega)).trans (h8.2.2.1 i hi), h8.2.2.2⟩, h9⟩
  · obtain ⟨a1, a2, a3, a4, a5, a6⟩ := h2 k hk
    exact ⟨(e _ _ _ (by omega) (by omega)).trans a1, (e _ _ _ (by omega) (by omega)).trans a2, (e _ _ _ (by omega) (by omega)).trans a3, (e _ _ _ (by omega) (by omega)).trans a4, (e _ _ _ (by omega) (by omega)).trans a5, (e2 _ _).trans a6⟩
  · have q8 : ∀ k, qT (pWk P v0 v1 v2) (8 + i) k = qT P (8 + i) k := fun k => if_neg (by omega)
    refine ⟨(e _ _ _ (by omega) (by omega)).trans (h4 i hi).1, fun k hk => ?_⟩
    rw [q8]
    exact (e _ _ _ (by omega) (by omega)).trans ((h4 i hi).2 k hk)
  · rw [hl.2 i (by simp; omega)]
    have : i = 0 ∨ i = 1 ∨ i = 2 := by omega
    rcases this with rfl | rfl | rfl <;> rfl
theorem c_wakes (hT : T < 128) (h : CRd x n b M) (hJ : CJ p P T M) (hN : 2000 ≤ N) : CPo x n p M (oWk x n b P T) (zB (Re_once N 0 8 M) fun v118 M118 => if v118 = 0 then some (0, M118) else zB (Re_readWakes N 0 M118) fun v119 M119 => if v119 = 0 then some (0, M119) else zB (Re_passSign N 0 59 M119) fun v120 M120 => if v120 = 0 then some (0, M120) else some (1, M120)) := by
  unfold oWk
  refine c_once (j := 3) rfl (by omega) hT h hJ hN (fun z M1 ho h1 j1 => ?_)
  unfold Re_readWakes
  rw [j1.2.2, zO_s, zW_e]
  have p2 := hJ.1.p2
  have hz : zlN (7 * p + 4) = 3 := j1.1.z4
  have h2 : CRd x n z.1 (pI M1 3 (7 * p + 4) 1 0) := h1.s rfl (fun t i k ht => mI_pI_ne (by omega))
  have l2 : CN (7 * p + 4) [] (pI M1 3 (7 * p + 4) 1 0) := ⟨mI_pI_eq, fun i hi => absurd hi (by simp)⟩
  have fw : ∀ {M M'}, zcF (fLj (7 * p + 4)) M M' → zcF (fPk p) M M' := fun f => f.mo (fun t i k q => by
    rcases q with q | q
    · exact .inl q
    · exact .inr (.inr (.inr (by omega))))
  have wd : ∀ {M M'}, zcF fRd M M' → zcF (fLj (7 * p + 4)) M M' := fun f => f.mo (fun _ _ _ q => .inl q)
  have f0 : zcF (fLj (7 * p + 4)) M1 (pI M1 3 (7 * p + 4) 1 0) := zcF.p (.inr ⟨.inl rfl, rfl⟩)
  have r2 : zrg (mR (pI M1 3 (7 * p + 4) 1 0)) 2 = some p := j1.2.2
  have t2 : mI (pI M1 3 (7 * p + 4) 1 0) 5 0 6 = (z.2 : Int) := (mI_pI_ne (by omega)).trans j1.2.1
  generalize pI M1 3 (7 * p + 4) 1 0 = M2 at h2 l2 f0 r2 t2
  -- one number
  have st : ∀ (g b j : Nat) (l : List Int) (M : ZM), CRd x n b M → CN (7 * p + 4) l M → zrg (mR M) 2 = some p → l.length = j → j < 3 → match oNum x n b 0 9 with
      | .inl e => ∃ M', Re_readWakes_13 N (g + 1) 0 (j : Int) M = some (0, M') ∧ mI M' 5 0 3 = e ∧ e ≠ 0 ∧ cTp n x M' ∧ zcF (fLj (7 * p + 4)) M M'
      | .inr y => ∃ M', Re_readWakes_13 N (g + 1) 0 (j : Int) M = Re_readWakes_13 N g 0 ((j + 1 : Nat) : Int) M' ∧ CRd x n y.1 M' ∧ CN (7 * p + 4) (l ++ [y.2]) M' ∧ zrg (mR M') 2 = some p ∧ mI M' 5 0 6 = mI M 5 0 6 ∧ zcF (fLj (7 * p + 4)) M M' := by
    intro g b j l M hb hl hr hlj hj3
    rw [Re_readWakes_13, if_pos (show (j : Int) < 3 by omega)]
    have hs := c_passNumber (N := N) (lo := 0) (hi := 9) hb hN
    unfold CO at hs
    cases ho : oNum x n b 0 9 with
    | inl e =>
      rw [ho] at hs
      obtain ⟨M', a1, a2, a3, a4, a5⟩ := hs
      rw [a1, zB_s, if_pos rfl]
      exact ⟨M', rfl, a2, a3, a4, wd a5⟩
    | inr y =>
      rw [ho] at hs
      obtain ⟨M', a1, a2, ⟨a3, a4⟩, a5⟩ := hs
      rw [a1, zB_s, if_neg (by decide), (a5.2.1 2 (by omega)).trans hr, zO_s, a3]
      have hl' : CN (7 * p + 4) l M' := hl.g (fun t k ht => a5.2.2.1 _ _ _ (by unfold fRd; omega))
      obtain ⟨M3, e2, f1, l1⟩ := c_add (N := N) (q := 7 * p + 4) (x := y.2) hl' (by rw [hz]; omega) (by rw [hz]; omega)
      rw [e2, zB_s, zsucc (by omega), zW_e]
      have ff : zcF (fLj (7 * p + 4)) M' M3 := f1.cF (fun t i k hs => by simp at hs; right; omega)
      exact ⟨M3, rfl, a2.s f1.1 (fun t i k ht => f1.2 _ _ _ (by simp; omega)), l1, (ff.2.1 2 (by omega)).trans ((a5.2.1 2 (by omega)).trans hr), ((f1.2 _ _ _ (by simp)).trans (a4 6 (by omega))), (wd a5).tr ff⟩
  obtain ⟨g, hg⟩ : ∃ g, N = g + 4 := ⟨N - 4, by omega⟩
  have s1 := st (g + 3) z.1 0 [] M2 h2 l2 r2 rfl (by omega)
  rw [show g + 3 + 1 = N by omega] at s1
  cases o1 : oNum x n z.1 0 9 with
  | inl e =>
    rw [o1] at s1
    obtain ⟨M', a1, a2, a3, a4, a5⟩ := s1
    rw [show ((0 : Nat) : Int) = 0 from rfl] at a1
    rw [a1, zB_s, if_pos rfl]
    exact ⟨M', rfl, a2, a3, a4, fw (f0.tr a5)⟩
  | inr y1 =>
    rw [o1] at s1
    obtain ⟨M3, a1, a2, a3, a4, a5, a6⟩ := s1
    rw [show ((0 : Nat) : Int) = 0 from rfl] at a1
    have s2 := st (g + 2) y1.1 1 _ M3 a2 a3 a4 rfl (by omega)
    cases o2 : oNum x n y1.1 0 9 with
    | inl e =>
      rw [o2] at s2
      obtain ⟨M', b1, b2, b3, b4, b5⟩ := s2
      rw [a1, b1, zB_s, if_pos rfl]
      rw [uB_r, o2]
      exact ⟨M', rfl, b2, b3, b4, fw (f0.tr (a6.tr b5))⟩
    | inr y2 =>
      rw [o2] at s2
      obtain ⟨M4, b1, b2, b3, b4, b5, b6⟩ := s2
      have s3 := st (g + 1) y2.1 2 _ M4 b2 b3 b4 rfl (by omega)
      rw [uB_r, o2]
      rw [uB_r]
      cases o3 : oNum x n y2.1 0 9 with
      | inl e =>
        rw [o3] at s3
        obtain ⟨M', d1, d2, d3, d4, d5⟩ := s3
        rw [a1, b1, d1, zB_s, if_pos rfl]
        exact ⟨M', rfl, d2, d3, d4, fw (f0.tr (a6.tr (b6.tr d5)))⟩
      | inr y3 =>
        rw [o3] at s3
        obtain ⟨M5, d1, d2, d3, d4, d5, d6⟩ := s3
        have e4 : Re_readWakes_13 N (g + 1) 0 ((2 + 1 : Nat) : Int) M5 = some (1, M5) := by
          rw [Re_readWakes_13, if_neg (by decide)]
        rw [a1, b1, d1, e4, zB_s, if_neg (by decide)]
        have fa : zcF (fLj (7 * p + 4)) M1 M5 := f0.tr (a6.tr (b6.tr d6))
        have j2 : CJ p (pWk P y1.2 y2.2 y3.2) z.2 M5 := ⟨j1.1.wk (l := []) d3 (fun t i k ht hn => fa.2.2.1 _ _ _ (by unfold fLj fRd; omega)) (fun i k => fa.2.2.2 _ _ _ (by omega) (by unfold fLj fRd; omega)), d5.trans (b5.trans (a5.trans t2)), d4⟩
        exact (c_fin0 (N := N) d2 j2 hN).z1.w (fw fa)
theorem CP.one {i : Nat} {v : Int} (h : CP p P M) (hi : i < 2) (he : mI M' 4 p (13 + i) = v) (e : ∀ t j k, (t = 3 ∨ t = 4 ∨ t = 26 ∨ (28 ≤ t ∧ t ≤ 32)) → ¬ (t = 4 ∧ j = p ∧ k = 13 + i) → mI M' t j k = mI M t j k) (e2 : ∀ i k, mL M' 27 i k = mL M 27 i k) : CP p (pOne P i v) M' := by
  obtain ⟨h1, h2, h3, h4, h5, h6, h7, ⟨w, h8⟩, h9⟩ := h
  have eT : ∀ t k, t ≠ 11 → qT (pOne P i v) t k = qT P t k := fun t k a1 => rU_n (by omega)
  refine ⟨(e 4 p 0 (by omega) (by omega)).trans h1, fun k hk => ?_, ⟨(e _ _ _ (by omega) (by omega)).trans h3.1, fun i hi => (e _ _ _ (by omega) (by omega)).trans (h3.2 i hi)⟩, fun i hi => ?_, ⟨(e _ _ _ (by omega) (by omega)).trans h5.1, fun i hi => ?_⟩, ?_, ?_, ⟨w, (e _ _ _ (by omega) (by omega)).trans h8.1, h8.2.1, fun i hi => (e _ _ _ (by omega) (by omega)).trans (h8.2.2.1 i hi), h8.2.2.2⟩, h9⟩
  · obtain ⟨a1, a2, a3, a4, a5, a6⟩ := h2 k hk
    rw [eT 1 k (by omega), eT 2 k (by omega), eT 3 k (by omega), eT 4 k (by omega), eT 5 k (by omega), eT 12 k (by omega)]
    exact ⟨(e _ _ _ (by omega) (by omega)).trans a1, (e _ _ _ (by omega) (by omega)).trans a2, (e _ _ _ (by omega) (by omega)).trans a3, (e _ _ _ (by omega) (by omega)).trans a4, (e _ _ _ (by omega) (by omega)).trans a5, (e2 _ _).trans a6⟩
  · rw [eT 7 i (by omega)]
    refine ⟨(e _ _ _ (by omega) (by omega)).trans (h4 i hi).1, fun k hk => ?_⟩
    rw [eT (8 + i) k (by omega)]
    exact (e _ _ _ (by omega) (by omega)).trans ((h4 i hi).2 k hk)
  · rw [eT 6 i (by omega)]
    exact (e _ _ _ (by omega) (by omega)).trans (h5.2 i hi)
  · by_cases q : i = 0
    · subst q
      show _ = rU (qT P) 11 0 v 11 0
      rw [rU_s]
      exact he
    · have : qT (pOne P i v) 11 0 = qT P 11 0 := rU_n (by omega)
      rw [this]
      exact (e _ _ _ (by omega) (by omega)).trans h6
  · by_cases q : i = 1
    · subst q
      show _ = rU (qT P) 11 1 v 11 1
      rw [rU_s]
      exact he
    · have : qT (pOne P i v) 11 1 = qT P 11 1 := rU_n (by omega)
      rw [this]
      exact (e _ _ _ (by omega) (by omega)).trans h7
theorem c_one {i : Nat} {hi m : Int} {K : ZM → Option (Int × ZM)} (hi2 : i < 2) (hm : m = ((2 ^ (4 + i) : Nat) : Int)) (hK : ∀ M, K M = zB (Re_passNumber N 0 1 hi M) fun v101 M101 => if v101 = 0 then some (0, M101) else zO (zrg (mR M101) 2) fun p102 => zW (pI M101 4 p102 (13 + i) (mI M101 5 0 4)) fun M103 => some (1, M103)) (hT : T < 128) (h : CRd x n b M) (hJ : CJ p P T M) (hN : 2000 ≤ N) : CPo x n p M (oOn x n b i hi P T) (zB (Re_once N 0 m M) fun v121 M121 => if v121 = 0 then some (0, M121) else zB (K M121) fun v122 M122 => if v122 = 0 then some (0, M122) else zB (Re_passSign N 0 59 M122) fun v123 M123 => if v123 = 0 then some (0, M123) else some (1, M123)) := by
  unfold oOn
  refine c_once hm (by omega) hT h hJ hN (fun z M1 ho h1 j1 => ?_)
  rw [hK]
  have hs := c_passNumber (N := N) (lo := 1) (hi := hi) h1 hN
  unfold CO at hs
  cases o1 : oNum x n z.1 1 hi with
  | inl e =>
    rw [o1] at hs
    obtain ⟨M', a1, a2, a3, a4, a5⟩ := hs
    rw [a1, zB_s, if_pos rfl, zB_s, if_pos rfl]
    exact ⟨M', rfl, a2, a3, a4, a5.pk⟩
  | inr y =>
    rw [o1] at hs
    obtain ⟨M', a1, a2, ⟨a3, a4⟩, a5⟩ := hs
    rw [a1, zB_s, if_neg (by decide), (a5.2.1 2 (by omega)).trans j1.2.2, zO_s, zW_e, zB_s, if_neg (by decide), a3]
    have j2 : CJ p (pOne P i y.2) z.2 (pI M' 4 p (13 + i) y.2) := ⟨(j1.1.cf a5).one hi2 mI_pI_eq (fun t j k ht hn => mI_pI_ne (by omega)) (fun _ _ => rfl), by rw [mI_pI_ne (by omega), a4 6 (by omega)]; exact j1.2.1, (a5.2.1 2 (by omega)).trans j1.2.2⟩
    have f1 : zcF (fPk p) M' (pI M' 4 p (13 + i) y.2) := zcF.p (.inr (.inl ⟨.inl rfl, rfl⟩))
    have h9 : CRd x n y.1 (pI M' 4 p (13 + i) y.2) := a2.s rfl (fun t i k ht => mI_pI_ne (by omega))
    exact (c_fin0 (N := N) h9 j2 hN).z1.w (a5.pk.tr f1)
theorem CP.lawf {V : Int → Int → Int → Int → Int} (h : CP p P M) (hl : CL p V M') (e : ∀ t i k, (t = 3 ∨ t = 4 ∨ t = 26 ∨ (28 ≤ t ∧ t ≤ 32)) → ¬ ((t = 3 ∨ t = 26) ∧ i = 7 * p + 5) → mI M' t i k = mI M t i k) (e2 : ∀ i k, mL M' 27 i k = mL M 27 i k) : CP p (pLaw P V) M' := by
  obtain ⟨h1, h2, h3, h4, h5, h6, h7, _, h9⟩ := h
  refine ⟨(e 4 p 0 (by omega) (by omega)).trans h1, fun k hk => ?_, ⟨(e _ _ _ (by omega) (by omega)).trans h3.1, fun i hi => (e _ _ _ (by omega) (by omega)).trans (h3.2 i hi)⟩, fun i hi => ⟨(e _ _ _ (by omega) (by omega)).trans (h4 i hi).1, fun k hk => (e _ _ _ (by omega) (by omega)).trans ((h4 i hi).2 k hk)⟩, ⟨(e _ _ _ (by omega) (by omega)).trans h5.1, fun i hi => (e _ _ _ (by omega) (by omega)).trans (h5.2 i hi)⟩, (e _ _ _ (by omega) (by omega)).trans h6, (e _ _ _ (by omega) (by omega)).trans h7, hl, h9⟩
  obtain ⟨a1, a2, a3, a4, a5, a6⟩ := h2 k hk
  exact ⟨(e _ _ _ (by omega) (by omega)).trans a1, (e _ _ _ (by omega) (by omega)).trans a2, (e _ _ _ (by omega) (by omega)).trans a3, (e _ _ _ (by omega) (by omega)).trans a4, (e _ _ _ (by omega) (by omega)).trans a5, (e2 _ _).trans a6⟩
theorem eLw_c {u : List Int} {V : EV} (h : ∀ a b c e, zr32 a → zr32 b → zr32 c → zr32 e → cEs a b c e u [] = some [V a b c e]) : ∀ a b c e, zr32 a → zr32 b → zr32 c → zr32 e → cEs a b c e u [] = some [eLw u a b c e] ∧ eLw u a b c e = V a b c e := fun a b c e h1 h2 h3 h4 => by
  have := h a b c e h1 h2 h3 h4
  have e2 : eLw u a b c e = V a b c e := by unfold eLw; rw [this]
  exact ⟨by rw [this, e2], e2⟩
theorem c_gives6 (hT : T < 128) (h : CRd x n b M) (hJ : CJ p P T M) (hN : 2000 ≤ N) : CPo x n p M (oGv x n b P T) (zB (Re_once N 0 64 M) fun v127 M127 => if v127 = 0 then some (0, M127) else zB (Re_readE N 0 0 M127) fun v128 M128 => if v128 = 0 then some (0, M128) else zB (Re_passSign N 0 59 M128) fun v129 M129 => if v129 = 0 then some (0, M129) else some (1, M129)) := by
  have hz := zan_m T hT 6 (by omega)
  have p2 := hJ.1.p2
  unfold oGv Re_once Re_once_45
  rw [hJ.2.1, show (64 : Int) = ((2 ^ 6 : Nat) : Int) from rfl]
  by_cases c : zbt T 6 = true
  · rw [if_neg (fun q => by rw [hz.1, c] at q; cases q)]
    have ho : oOnce x n b T 6 = .inl (3 + 16 * (b : Int)) := if_pos c
    obtain ⟨M', e1, g1, g2, g3, g4⟩ := c_fail (N := N) (e := 3) (by omega) h
    rw [ho, e1, zB_s, zb10, zB_s, if_pos rfl]
    exact ⟨M', rfl, g1, g2, g3, g4.pk⟩
  · have c' : zbt T 6 = false := by simpa using c
    have ho : oOnce x n b T 6 = .inr (nb x n b, T ||| 2 ^ 6) := if_neg c
    rw [if_pos (hz.1.2 c'), hz.2, zW_e, if_pos rfl, ho]
    have r0 : zrg (mR (pI M 5 0 6 ((T ||| 2 ^ 6 : Nat) : Int))) 2 = some p := hJ.2.2
    rw [r0, zO_s, zW_e]
    have gw : zcF (fPk p) M (pI M 5 0 6 ((T ||| 2 ^ 6 : Nat) : Int)) := zcF.p (.inr (.inr (.inl ⟨rfl, rfl, rfl⟩)))
    have j0 : CJ p P (T ||| 2 ^ 6) (pI M 5 0 6 ((T ||| 2 ^ 6 : Nat) : Int)) := ⟨hJ.1.gg (fun t i k ht => mI_pI_ne (by omega)) (fun _ _ => rfl), mI_pI_eq, hJ.2.2⟩
    have h0 : CRd x n b (pI M 5 0 6 ((T ||| 2 ^ 6 : Nat) : Int)) := h.p (k := 6) (by decide)
    clear r0
    generalize pI M 5 0 6 ((T ||| 2 ^ 6 : Nat) : Int) = Ma at gw j0 h0
    have g0 : zcF (fEx p) Ma (pI Ma 3 (7 * p + 5) 1 0) := zcF.p (.inr (by omega))
    have h1 : CRd x n b (pI Ma 3 (7 * p + 5) 1 0) := h0.s rfl (fun t i k ht => mI_pI_ne (by omega))
    have l1 : CN (7 * p + 5) [] (pI Ma 3 (7 * p + 5) 1 0) := ⟨mI_pI_eq, fun i hi => absurd hi (by simp)⟩
    generalize pI Ma 3 (7 * p + 5) 1 0 = M0 at g0 h1 l1
    obtain ⟨M1, e1, h2, f1⟩ := h1.pass hN
    rw [e1, zBv_s, zB_s, if_neg (by decide)]
    have r1 : zrg (mR M1) 2 = some p := (f1.2.1 2 (by omega)).trans ((g0.2.1 2 (by omega)).trans j0.2.2)
    have hs := c_readE (N := N) p2 hN (nb x n b) [] M1 h2 r1 (f1.f.cx l1) (by simp)
    have hb := h2.2.2.1
    have hn := h2.1.2.2
    rw [uB_r]
    unfold oGiv
    unfold CX at hs
    dsimp only
    cases oe : eE (ePart x n 7 0) x n (nb x n b) with
    | inl e =>
      rw [oe] at hs
      obtain ⟨M', a1, a2, a3, a4, a5⟩ := hs
      rw [a1, zB_s, if_pos rfl]
      exact ⟨M', rfl, a2, a3, a4, gw.tr (g0.tr (f1.f.ex.tr a5)).ek⟩
    | inr z =>
      rw [oe] at hs
      obtain ⟨M', a1, a2, a3, a5⟩ := hs
      rw [List.nil_append] at a3
      have rg := eE_g (ePart_g 7 0) _ z hb oe
      obtain ⟨V, k1, k2⟩ := eE_law oe
      rw [a1, zB_s, if_neg (by decide)]
      have hc := c_passSign (N := N) (c := 59) a2 hN
      unfold oSign CO at hc
      have fa : zcF (fEx p) Ma M' := g0.tr (f1.f.ex.tr a5)
      by_cases c3 : tKi x n z.1 = 59
      · rw [if_pos c3] at hc
        obtain ⟨M3, d1, d2, d3, d4⟩ := hc
        rw [d1, zB_s, if_neg (by decide)]
        dsimp only
        rw [if_pos c3]
        have fb : zcF (fEx p) Ma M3 := fa.tr d4.ex
        have l3 := d4.cx a3
        have cl : CL p (eLw z.2.1) M3 := ⟨z.2.1, l3.1, by omega, l3.2, fun a b c e q1 q2 q3 q4 => (eLw_c k1 a b c e q1 q2 q3 q4).1⟩
        exact ⟨M3, rfl, d2, ⟨j0.1.lawf cl (fun t i k ht hn => fb.2.2.1 _ _ _ (by unfold fEx fRd; omega)) (fun i k => fb.2.2.2 _ _ _ (by omega) (by unfold fEx fRd; omega)), (fb.2.2.1 _ _ _ (by unfold fEx fRd; omega)).trans j0.2.1, (fb.2.1 2 (by omega)).trans j0.2.2⟩, gw.tr fb.ek⟩
      · rw [if_neg c3] at hc
        obtain ⟨M3, d1, d2, d3, d4, d5⟩ := hc
        rw [d1, zB_s, if_pos rfl]
        dsimp only
        rw [if_neg c3]
        exact ⟨M3, rfl, d2, d3, d4, gw.tr (fa.tr d5.ex).ek⟩
end CPK
