section CEXQ
variable {N n b p : Nat} {x : Nat → Int} {M M' : ZM}
theorem c_sum91 {F : Nat → Int → ZM → Option (Int × ZM)} {rec : Nat → Int → Int → ZM → Option (Int × ZM)} {d v : Int} {j q : Nat} (hj : j ≤ 1000) : Re_readSum_b_91 N F rec 0 d (j : Int) q v M = zB (Nu_add N q v M) fun _ M1 => rec 0 d ((j + 1 : Nat) : Int) M1 := by
  unfold Re_readSum_b_91
  rw [zsucc (by omega)]
  rfl
theorem c_e84 {F : Nat → Int → ZM → Option (Int × ZM)} {rec : Nat → Int → Int → ZM → Option (Int × ZM)} {d v : Int} {j q : Nat} (hj : j ≤ 1000) : Re_readE_b_84 N F rec 0 d (j : Int) q v M = zB (Nu_add N q v M) fun _ M1 => rec 0 d ((j + 1 : Nat) : Int) M1 := by
  unfold Re_readE_b_84
  rw [zsucc (by omega)]
  rfl
theorem c_sum12 {d : Int} {pa : Nat → EO} {F : Nat → Int → ZM → Option (Int × ZM)} (hp : p < 2) (hF : cGd x n p d pa F) (hg : eGood n pa) (hN : 2000 ≤ N) (l : List Int) : ∀ (f j b g : Nat) (u w : List Int) (M : ZM), j ≤ b → j ≤ 1000 → n < b + f → 1001 - j < g → CRd x n b M → zrg (mR M) 2 = some p → CN (7 * p + 5) (l ++ u) M → (l ++ u).length ≤ b → CX x n p l M (eLoop (sgS x n) pa x n f b u w) (Re_readSum_b_12 N F g 0 d j M) := by
  intro f
  induction f with
  | zero => intro j b g u w M _ _ h1 _ h2; have := h2.2.2.1; omega
  | succ f ih =>
    intro j b g u w M hj hj2 hf hgg h hr hl hlen
    obtain ⟨g, rfl⟩ : ∃ g', g = g' + 1 := ⟨g - 1, by omega⟩
    have hn := h.1.2.2
    have hb := h.2.2.1
    rw [eLoop, Re_readSum_b_12, h.2.1.2.2.1]
    have key : ∀ (v c : Int), tKi x n b ≠ 0 → sgS x n b = some (v, c) → (if tKi x n b = 43 then -10 else -11) = v → CX x n p l M (match sgS x n b with
    | none => .inr (b, u, w)
    | some s => match pa (nb x n b) with
      | .inl e => .inl e
      | .inr z => eLoop (sgS x n) pa x n f z.1 (u ++ z.2.1 ++ [s.1]) (w ++ s.2 :: z.2.2)) (Re_readSum_b_43 N F (Re_readSum_b_12 N F g) 0 d j M) := by
      intro v c hk e1 hv
      have h0 := tNx_gt (x := x) (n := n) (b := b) hk
      have h1 := nb_gt (x := x) (n := n) (b := b) hk
      have h2 := nb_le (x := x) hb
      unfold Re_readSum_b_43
      rw [e1, h.2.1.2.2.1, zW_e]
      obtain ⟨M1, e2, t1, f1⟩ := h.pass hN
      rw [e2, zBv_s]
      have hs := hF (nb x n b) (l ++ u) M1 t1 ((f1.2.1 2 (by omega)).trans hr) (f1.f.cx hl) (by omega)
      unfold CX at hs
      cases ho : pa (nb x n b) with
      | inl e =>
        rw [ho] at hs
        obtain ⟨M2, a1, a2, a3, a4, a5⟩ := hs
        rw [a1, zB_s, if_pos rfl]
        exact ⟨M2, rfl, a2, a3, a4, f1.f.ex.tr a5⟩
      | inr z =>
        rw [ho] at hs
        obtain ⟨M2, a1, a2, a3, a5⟩ := hs
        have r := hg _ z h2 ho
        have hr2 : zrg (mR M2) 2 = some p := (a5.2.1 2 (by omega)).trans ((f1.2.1 2 (by omega)).trans hr)
        have hl2 : (l ++ u ++ z.2.1).length ≤ z.1 - 1 := by simp only [List.length_append] at hlen ⊢; omega
        obtain ⟨M3, b1, b2, b3, b4, b5⟩ := c_code (N := N) (v := v) hp a2 hr2 a3 (by omega)
        have b4' : CN (7 * p + 5) (l ++ (u ++ z.2.1 ++ [v])) M3 := by rw [← List.append_assoc, ← List.append_assoc]; exact b4
        have fin : CX x n p l M (eLoop (sgS x n) pa x n f z.1 (u ++ z.2.1 ++ [v]) (w ++ c :: z.2.2)) (zB (Nu_add N (7 * p + 5) v M2) fun _ M1 => Re_readSum_b_12 N F g 0 d ((j + 1 : Nat) : Int) M1) := by
          rw [b1, zB_s]
          refine (ih (j + 1) z.1 g (u ++ z.2.1 ++ [v]) (w ++ c :: z.2.2) M3 (by omega) (by omega) (by omega) (by omega) b2 b3 b4' ?_).w ((f1.f.ex.tr a5).tr b5)
          simp only [List.length_append, List.length_cons, List.length_nil] at hl2 ⊢
          omega
        rw [a1, zB_s, if_neg (by decide), hr2, zO_s, c_sum91 (by omega), c_sum91 (by omega)]
        by_cases c43 : tKi x n b = 43
        · rw [if_pos c43] at hv ⊢; subst hv; exact fin
        · rw [if_neg c43] at hv ⊢; subst hv; exact fin
    by_cases c0 : tKi x n b = 43
    · rw [if_pos (show (j : Int) < 1000 by have h0 := tNx_gt (x := x) (n := n) (b := b) (by omega); have := nb_gt (x := x) (n := n) (b := b) (by omega); have := nb_le (x := x) hb; omega), if_pos c0]
      exact key (-10) 20 (by omega) (by unfold sgS; rw [if_pos c0]) (by rw [if_pos c0])
    · rw [if_neg c0]
      by_cases c1 : tKi x n b = 45
      · rw [if_pos (show (j : Int) < 1000 by have h0 := tNx_gt (x := x) (n := n) (b := b) (by omega); have := nb_gt (x := x) (n := n) (b := b) (by omega); have := nb_le (x := x) hb; omega), if_pos c1]
        exact key (-11) 21 (by omega) (by unfold sgS; rw [if_neg c0, if_pos c1]) (by rw [if_neg c0])
      · rw [if_neg c1]
        have e1 : sgS x n b = none := by unfold sgS; rw [if_neg c0, if_neg c1]
        rw [e1]
        by_cases c1 : (j : Int) < 1000
        · rw [if_pos c1]; exact ⟨M, rfl, h, hl, zcF.rf M⟩
        · rw [if_neg c1]; exact ⟨M, rfl, h, hl, zcF.rf M⟩
theorem c_sum {d : Int} {pa : Nat → EO} {F : Nat → Int → ZM → Option (Int × ZM)} (hp : p < 2) (hF : cGd x n p d pa F) (hg : eGood n pa) (hN : 2000 ≤ N) : cGd x n p d (eMany (sgS x n) pa x n) (Re_readSum_b N F) := by
  intro b l M h hr hl hlen
  have hb := h.2.2.1
  have hn := h.1.2.2
  have hs := hF b l M h hr hl hlen
  unfold Re_readSum_b eMany
  unfold CX at hs
  cases ho : pa b with
  | inl e =>
    rw [ho] at hs
    obtain ⟨M2, a1, a2, a3, a4, a5⟩ := hs
    rw [a1, zB_s, if_pos rfl]
    exact ⟨M2, rfl, a2, a3, a4, a5⟩
  | inr z =>
    rw [ho] at hs
    obtain ⟨M2, a1, a2, a3, a5⟩ := hs
    have r := hg _ z hb ho
    rw [a1, zB_s, if_neg (by decide)]
    exact (c_sum12 hp hF hg hN l 1001 0 z.1 N z.2.1 z.2.2 M2 (by omega) (by omega) (by omega) (by omega) a2 ((a5.2.1 2 (by omega)).trans hr) a3 (by simp only [List.length_append]; omega)).w a5
theorem c_expr12 {d : Int} {pa : Nat → EO} {F : Nat → Int → ZM → Option (Int × ZM)} (hp : p < 2) (hF : cGd x n p d pa F) (hg : eGood n pa) (hN : 2000 ≤ N) (l : List Int) : ∀ (f j b g : Nat) (u w : List Int) (M : ZM), j ≤ b → j ≤ 1000 → n < b + f → 1001 - j < g → CRd x n b M → zrg (mR M) 2 = some p → CN (7 * p + 5) (l ++ u) M → (l ++ u).length ≤ b → CX x n p l M (eLoop (sgE x n) pa x n f b u w) (Re_readE_b_12 N F g 0 d j M) := by
  intro f
  induction f with
  | zero => intro j b g u w M _ _ h1 _ h2; have := h2.2.2.1; omega
  | succ f ih =>
    intro j b g u w M hj hj2 hf hgg h hr hl hlen
    obtain ⟨g, rfl⟩ : ∃ g', g = g' + 1 := ⟨g - 1, by omega⟩
    have hn := h.1.2.2
    have hb := h.2.2.1
    have hw : zrg (mR M) 3 = tWd x n b := h.2.1.2.2.2.2.2
    rw [eLoop, Re_readE_b_12, hw]
    have key : ∀ (v c : Int), tKi x n b ≠ 0 → sgE x n b = some (v, c) → (if tWd x n b = some 24 then -6 else -7) = v → CX x n p l M (match sgE x n b with
    | none => .inr (b, u, w)
    | some s => match pa (nb x n b) with
      | .inl e => .inl e
      | .inr z => eLoop (sgE x n) pa x n f z.1 (u ++ z.2.1 ++ [s.1]) (w ++ s.2 :: z.2.2)) (Re_readE_b_43 N F (Re_readE_b_12 N F g) 0 d j (tWd x n b) M) := by
      intro v c hk e1 hv
      have h0 := tNx_gt (x := x) (n := n) (b := b) hk
      have h1 := nb_gt (x := x) (n := n) (b := b) hk
      have h2 := nb_le (x := x) hb
      unfold Re_readE_b_43
      rw [e1]
      obtain ⟨M1, e2, t1, f1⟩ := h.pass hN
      rw [e2, zBv_s]
      have hs := hF (nb x n b) (l ++ u) M1 t1 ((f1.2.1 2 (by omega)).trans hr) (f1.f.cx hl) (by omega)
      unfold CX at hs
      cases ho : pa (nb x n b) with
      | inl e =>
        rw [ho] at hs
        obtain ⟨M2, a1, a2, a3, a4, a5⟩ := hs
        rw [a1, zB_s, if_pos rfl]
        exact ⟨M2, rfl, a2, a3, a4, f1.f.ex.tr a5⟩
      | inr z =>
        rw [ho] at hs
        obtain ⟨M2, a1, a2, a3, a5⟩ := hs
        have r := hg _ z h2 ho
        have hr2 : zrg (mR M2) 2 = some p := (a5.2.1 2 (by omega)).trans ((f1.2.1 2 (by omega)).trans hr)
        have hl2 : (l ++ u ++ z.2.1).length ≤ z.1 - 1 := by simp only [List.length_append] at hlen ⊢; omega
        obtain ⟨M3, b1, b2, b3, b4, b5⟩ := c_code (N := N) (v := v) hp a2 hr2 a3 (by omega)
        have b4' : CN (7 * p + 5) (l ++ (u ++ z.2.1 ++ [v])) M3 := by rw [← List.append_assoc, ← List.append_assoc]; exact b4
        have fin : CX x n p l M (eLoop (sgE x n) pa x n f z.1 (u ++ z.2.1 ++ [v]) (w ++ c :: z.2.2)) (zB (Nu_add N (7 * p + 5) v M2) fun _ M1 => Re_readE_b_12 N F g 0 d ((j + 1 : Nat) : Int) M1) := by
          rw [b1, zB_s]
          refine (ih (j + 1) z.1 g (u ++ z.2.1 ++ [v]) (w ++ c :: z.2.2) M3 (by omega) (by omega) (by omega) (by omega) b2 b3 b4' ?_).w ((f1.f.ex.tr a5).tr b5)
          simp only [List.length_append, List.length_cons, List.length_nil] at hl2 ⊢
          omega
        rw [a1, zB_s, if_neg (by decide), hr2, zO_s, c_e84 (by omega), c_e84 (by omega)]
        by_cases c43 : tWd x n b = some 24
        · rw [if_pos c43] at hv ⊢; subst hv; exact fin
        · rw [if_neg c43] at hv ⊢; subst hv; exact fin
    have hk : ∀ i, i < 30 → tWd x n b = some i → tKi x n b ≠ 0 := fun i hi q => by have := ((tWd_iff hi).1 q).1; omega
    by_cases c0 : tWd x n b = some 24
    · have hk0 := hk 24 (by decide) c0
      rw [if_pos (show (j : Int) < 1000 by have h0 := tNx_gt (x := x) (n := n) (b := b) hk0; have := nb_gt (x := x) (n := n) (b := b) hk0; have := nb_le (x := x) hb; omega), zW_e, if_pos c0]
      exact key (-6) 26 hk0 (by unfold sgE; rw [if_pos c0]) (by rw [if_pos c0])
    · by_cases c1 : tWd x n b = some 25
      · have hk0 := hk 25 (by decide) c1
        rw [if_pos (show (j : Int) < 1000 by have h0 := tNx_gt (x := x) (n := n) (b := b) hk0; have := nb_gt (x := x) (n := n) (b := b) hk0; have := nb_le (x := x) hb; omega), zW_e, if_neg c0, if_pos c1]
        exact key (-7) 27 hk0 (by unfold sgE; rw [if_neg c0, if_pos c1]) (by rw [if_neg c0])
      · have e1 : sgE x n b = none := by unfold sgE; rw [if_neg c0, if_neg c1]
        rw [e1, zW_e, if_neg c0, if_neg c1]
        by_cases c1 : (j : Int) < 1000
        · rw [if_pos c1]; exact ⟨M, rfl, h, hl, zcF.rf M⟩
        · rw [if_neg c1]; exact ⟨M, rfl, h, hl, zcF.rf M⟩
theorem c_expr {d : Int} {pa : Nat → EO} {F : Nat → Int → ZM → Option (Int × ZM)} (hp : p < 2) (hF : cGd x n p d pa F) (hg : eGood n pa) (hN : 2000 ≤ N) : cGd x n p d (eMany (sgE x n) pa x n) (Re_readE_b N F) := by
  intro b l M h hr hl hlen
  have hb := h.2.2.1
  have hn := h.1.2.2
  have hs := hF b l M h hr hl hlen
  unfold Re_readE_b eMany
  unfold CX at hs
  cases ho : pa b with
  | inl e =>
    rw [ho] at hs
    obtain ⟨M2, a1, a2, a3, a4, a5⟩ := hs
    rw [a1, zB_s, if_pos rfl]
    exact ⟨M2, rfl, a2, a3, a4, a5⟩
  | inr z =>
    rw [ho] at hs
    obtain ⟨M2, a1, a2, a3, a5⟩ := hs
    have r := hg _ z hb ho
    rw [a1, zB_s, if_neg (by decide)]
    exact (c_expr12 hp hF hg hN l 1001 0 z.1 N z.2.1 z.2.2 M2 (by omega) (by omega) (by omega) (by omega) a2 ((a5.2.1 2 (by omega)).trans hr) a3 (by simp only [List.length_append]; omega)).w a5
theorem c_test {d : Int} {pa : Nat → EO} {F : Nat → Int → ZM → Option (Int × ZM)} (hp : p < 2) (hF : cGd x n p d pa F) (hg : eGood n pa) (hN : 2000 ≤ N) : cGd x n p d (eTest pa x n) (Re_readTest_b N F) := by
  intro b l M h hr hl hlen
  have hb := h.2.2.1
  have hn := h.1.2.2
  have hs := hF b l M h hr hl hlen
  unfold Re_readTest_b eTest
  unfold CX at hs
  cases ho : pa b with
  | inl e =>
    rw [ho] at hs
    obtain ⟨M2, a1, a2, a3, a4, a5⟩ := hs
    rw [a1, zB_s, if_pos rfl]
    exact ⟨M2, rfl, a2, a3, a4, a5⟩
  | inr z =>
    rw [ho] at hs
    obtain ⟨M2, a1, a2, a3, a5⟩ := hs
    have r := hg _ z hb ho
    have hr2 : zrg (mR M2) 2 = some p := (a5.2.1 2 (by omega)).trans hr
    rw [a1, zB_s, if_neg (by decide), a2.2.1.2.2.1, zW_e]
    have key : ∀ (v c : Int), tKi x n z.1 ≠ 0 → sgT x n z.1 = some (v, c) → (if tKi x n z.1 = 60 then -8 else -9) = v → CX x n p l M (match sgT x n z.1 with
    | none => .inr z
    | some s => match pa (nb x n z.1) with
      | .inl e => .inl e
      | .inr y => .inr (y.1, z.2.1 ++ y.2.1 ++ [s.1], z.2.2 ++ s.2 :: y.2.2)) (Re_readTest_b_32 N F 0 d (tKi x n z.1) M2) := by
      intro v c hk e1 hv
      have h1 := nb_gt (x := x) (n := n) (b := z.1) hk
      have h2 := nb_le (x := x) r.2.1
      unfold Re_readTest_b_32 Re_readTest_b_72
      rw [e1]
      obtain ⟨M3, e2, t1, f1⟩ := a2.pass hN
      rw [e2, zBv_s]
      have hs := hF (nb x n z.1) (l ++ z.2.1) M3 t1 ((f1.2.1 2 (by omega)).trans hr2) (f1.f.cx a3) (by simp only [List.length_append]; omega)
      unfold CX at hs
      cases ho : pa (nb x n z.1) with
      | inl e =>
        rw [ho] at hs
        obtain ⟨M4, c1, c2, c3, c4, c5⟩ := hs
        rw [c1, zB_s, if_pos rfl]
        exact ⟨M4, rfl, c2, c3, c4, a5.tr (f1.f.ex.tr c5)⟩
      | inr y =>
        rw [ho] at hs
        obtain ⟨M4, c1, c2, c3, c5⟩ := hs
        have r' := hg _ y h2 ho
        have hr4 : zrg (mR M4) 2 = some p := (c5.2.1 2 (by omega)).trans ((f1.2.1 2 (by omega)).trans hr2)
        have hl2 : (l ++ z.2.1 ++ y.2.1).length < 1000 := by simp only [List.length_append] at hlen ⊢; omega
        obtain ⟨M5, b1, b2, b3, b4, b5⟩ := c_code (N := N) (v := v) hp c2 hr4 c3 hl2
        have b4' : CN (7 * p + 5) (l ++ (z.2.1 ++ y.2.1 ++ [v])) M5 := by rw [← List.append_assoc, ← List.append_assoc]; exact b4
        rw [c1, zB_s, if_neg (by decide), hr4, zO_s]
        have fin : (zB (Nu_add N (7 * p + 5) v M4) fun _ M1 => some ((1 : Int), M1)) = some (1, M5) := by rw [b1]; rfl
        have fin2 : CX x n p l M (.inr (y.1, z.2.1 ++ y.2.1 ++ [v], z.2.2 ++ c :: y.2.2)) (some (1, M5)) := ⟨M5, rfl, b2, b4', a5.tr ((f1.f.ex.tr c5).tr b5)⟩
        by_cases c43 : tKi x n z.1 = 60
        · rw [if_pos c43] at hv ⊢; subst hv; rw [fin]; exact fin2
        · rw [if_neg c43] at hv ⊢; subst hv; rw [fin]; exact fin2
    by_cases c0 : tKi x n z.1 = 60
    · rw [if_pos c0]
      exact key (-8) 24 (by omega) (by unfold sgT; rw [if_pos c0]) (by rw [if_pos c0])
    · rw [if_neg c0]
      by_cases c1 : tKi x n z.1 = 61
      · rw [if_pos c1]
        exact key (-9) 25 (by omega) (by unfold sgT; rw [if_neg c0, if_pos c1]) (by rw [if_neg c0])
      · rw [if_neg c1]
        have e1 : sgT x n z.1 = none := by unfold sgT; rw [if_neg c0, if_neg c1]
        simp only [e1]
        exact ⟨M2, rfl, a2, a3, a5⟩
theorem c_exprE {d : Int} {pa : Nat → EO} {F : Nat → Int → ZM → Option (Int × ZM)} (hp : p < 2) (hF : cGd x n p d pa F) (hg : eGood n pa) (hN : 2000 ≤ N) : cGd x n p d (eE pa x n) (Re_readE_b N (Re_readTest_b N (Re_readSum_b N (Re_readProduct_b N F)))) :=
  c_expr hp (c_test hp (c_sum hp (c_prod hp hF hg hN) (eMany_g sgP_0 hg) hN) (eMany_g sgS_0 (eMany_g sgP_0 hg)) hN) (eTest_g (eMany_g sgS_0 (eMany_g sgP_0 hg))) hN
theorem if4 {α : Type} {p1 p2 p3 p4 : Prop} [Decidable p1] [Decidable p2] [Decidable p3] [Decidable p4] {A B : α} (h : p1 ∨ p2 ∨ p3 ∨ ¬ p4) : (if p1 then A else if p2 then A else if p3 then A else if p4 then B else A) = A := by
  by_cases h1 : p1
  · rw [if_pos h1]
  · rw [if_neg h1]
    by_cases h2 : p2
    · rw [if_pos h2]
    · rw [if_neg h2]
      by_cases h3 : p3
      · rw [if_pos h3]
      · rw [if_neg h3, if_neg]
        rcases h with h | h | h | h
        · exact absurd h h1
        · exact absurd h h2
        · exact absurd h h3
        · exact h
theorem c_part (hp : p < 2) (hN : 2000 ≤ N) : ∀ (k d : Nat), 6 ≤ d + k → d ≤ 5 → cGd x n p d (ePart x n k d) (Re_P N k) := by
  intro k
  induction k with
  | zero => intro d h1 h2; omega
  | succ k ih =>
    intro d h1 h2 b l M h hr hl hlen
    have hn := h.1.2.2
    have hb := h.2.2.1
    have hw : zrg (mR M) 3 = tWd x n b := h.2.1.2.2.2.2.2
    rw [ePart, Re_P]
    unfold Re_readPart_b
    rw [h.2.1.2.2.1, zW_e, hw, zW_e, c_factOf, zB_s]
    by_cases c0 : tKi x n b = 2 ∨ tKi x n b = 40 ∨ tWd x n b = some 23 ∨ ¬ eFact x n b = 0
    · rw [if_pos c0, if4 c0]
      have h0 : tKi x n b ≠ 0 := by
        rcases c0 with c | c | c | c
        · omega
        · omega
        · have := ((tWd_iff (by decide)).1 c).1; omega
        · intro e
          apply c
          have no : ∀ i, i < 30 → tWd x n b ≠ some i := fun i hi q => by have := ((tWd_iff hi).1 q).1; omega
          unfold eFact
          rw [if_neg (no 26 (by decide)), if_neg (no 27 (by decide)), if_neg (no 28 (by decide)), if_neg (no 29 (by decide))]
      have g1 := nb_gt h0
      have g2 := nb_le (x := x) hb
      unfold Re_readPart_b_51
      by_cases c1 : d < 5
      · rw [if_pos c1, if_pos (show (d : Int) < 5 by omega), zW_e, zsucc (by omega)]
        obtain ⟨M1, e2, t1, f1⟩ := h.pass hN
        rw [e2, zBv_s]
        have hr1 : zrg (mR M1) 2 = some p := (f1.2.1 2 (by omega)).trans hr
        by_cases c2 : tKi x n b = 40
        · rw [if_pos c2, if_pos c2]
          dsimp only
          have hs := c_exprE hp (ih (d + 1) (by omega) (by omega)) (ePart_g k (d + 1)) hN (nb x n b) l M1 t1 hr1 (f1.f.cx hl) (by omega)
          unfold CX at hs
          cases ho : eE (ePart x n k (d + 1)) x n (nb x n b) with
          | inl e =>
            rw [ho] at hs
            obtain ⟨M2, a1, a2, a3, a4, a5⟩ := hs
            rw [a1, zB_s, if_pos rfl]
            exact ⟨M2, rfl, a2, a3, a4, f1.f.ex.tr a5⟩
          | inr z =>
            rw [ho] at hs
            obtain ⟨M2, a1, a2, a3, a5⟩ := hs
            rw [a1, zB_s, if_neg (by decide)]
            have hc := c_passSign (N := N) (c := 41) a2 hN
            unfold oSign CO at hc
            by_cases c3 : tKi x n z.1 = 41
            · rw [if_pos c3] at hc
              show CX x n p l M (if tKi x n z.1 = 41 then .inr (nb x n z.1, z.2.1, 28 :: (z.2.2 ++ [29])) else .inl (1 + 16 * (z.1 : Int))) _
              rw [if_pos c3]
              obtain ⟨M3, d1, d2, d3, d4⟩ := hc
              rw [d1, zB_s, if_neg (by decide)]
              exact ⟨M3, rfl, d2, d4.cx a3, f1.f.ex.tr (a5.tr d4.ex)⟩
            · rw [if_neg c3] at hc
              show CX x n p l M (if tKi x n z.1 = 41 then .inr (nb x n z.1, z.2.1, 28 :: (z.2.2 ++ [29])) else .inl (1 + 16 * (z.1 : Int))) _
              rw [if_neg c3]
              obtain ⟨M3, d1, d2, d3, d4, d5⟩ := hc
              rw [d1, zB_s, if_pos rfl]
              exact ⟨M3, rfl, d2, d3, d4, f1.f.ex.tr (a5.tr d5.ex)⟩
        · rw [if_neg c2, if_neg c2]
          by_cases c3 : tWd x n b = some 23
          · rw [if_pos c3, if_pos c3]
            have hs := ih (d + 1) (by omega) (by omega) (nb x n b) l M1 t1 hr1 (f1.f.cx hl) (by omega)
            unfold CX at hs
            cases ho : ePart x n k (d + 1) (nb x n b) with
            | inl e =>
              rw [ho] at hs
              obtain ⟨M2, a1, a2, a3, a4, a5⟩ := hs
              rw [a1, zB_s, if_pos rfl]
              exact ⟨M2, rfl, a2, a3, a4, f1.f.ex.tr a5⟩
            | inr z =>
              rw [ho] at hs
              obtain ⟨M2, a1, a2, a3, a5⟩ := hs
              have r := ePart_g k (d + 1) _ z g2 ho
              have hr2 : zrg (mR M2) 2 = some p := (a5.2.1 2 (by omega)).trans hr1
              obtain ⟨M3, b1, b2, b3, b4, b5⟩ := c_code (N := N) (v := -5) hp a2 hr2 a3 (by simp only [List.length_append]; omega)
              rw [a1, zB_s, if_neg (by decide), hr2, zO_s, b1, zB_s, if_neg (by decide)]
              exact ⟨M3, rfl, b2, by rw [← List.append_assoc]; exact b4, f1.f.ex.tr (a5.tr b5)⟩
          · rw [if_neg c3, if_neg c3, hr1, zO_s]
            by_cases c4 : tKi x n b = 2
            · rw [if_pos c4, if_pos c4]
              have hv : mI M 8 0 4 = wV x n b := h.v c4
              obtain ⟨M3, b1, b2, b3, b4, b5⟩ := c_code (N := N) (v := mI M 8 0 4) hp t1 hr1 (f1.f.cx hl) (by omega)
              rw [b1, zB_s, zb11]
              rw [hv] at b4
              exact ⟨M3, rfl, b2, b4, f1.f.ex.tr b5⟩
            · rw [if_neg c4, if_neg c4]
              obtain ⟨M3, b1, b2, b3, b4, b5⟩ := c_code (N := N) (v := eFact x n b) hp t1 hr1 (f1.f.cx hl) (by omega)
              rw [b1, zB_s, zb11]
              exact ⟨M3, rfl, b2, b4, f1.f.ex.tr b5⟩
      · rw [if_neg c1, if_neg (show ¬ (d : Int) < 5 by omega)]
        obtain ⟨M3, d1, d2, d3, d4, d5⟩ := c_fail (N := N) (e := 5) (by omega) h
        rw [d1, zB_s, zb10]
        exact ⟨M3, rfl, d2, d3, d4, d5.ex⟩
    · have c5 : eFact x n b = 0 := Classical.byContradiction fun q => c0 (.inr (.inr (.inr q)))
      rw [if_neg c0, if_neg (fun q => c0 (.inl q)), if_neg (fun q => c0 (.inr (.inl q))), if_neg (fun q => c0 (.inr (.inr (.inl q)))), if_pos c5]
      obtain ⟨M3, d1, d2, d3, d4, d5⟩ := c_fail (N := N) (e := 1) (by omega) h
      rw [d1, zB_s, zb10]
      exact ⟨M3, rfl, d2, d3, d4, d5.ex⟩
theorem c_readE (hp : p < 2) (hN : 2000 ≤ N) : cGd x n p 0 (eE (ePart x n 7 0) x n) (Re_readE N) := c_exprE hp (c_part hp hN 7 0 (by omega) (by omega)) (ePart_g 7 0) hN
end CEXQ
