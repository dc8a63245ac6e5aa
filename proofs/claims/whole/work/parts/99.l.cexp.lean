section CEXP
variable {N n b p : Nat} {x : Nat → Int} {M M' : ZM}
def fEx (p t i k : Nat) : Prop := fRd t i k ∨ ((t = 3 ∨ t = 26) ∧ i = 7 * p + 5)
/-- the class reads so, after the codes l -/
def CX (x : Nat → Int) (n p : Nat) (l : List Int) (M : ZM) (o : EO) (r : Option (Int × ZM)) : Prop := match o with
  | .inl e => ∃ M', r = some (0, M') ∧ mI M' 5 0 3 = e ∧ e ≠ 0 ∧ cTp n x M' ∧ zcF (fEx p) M M'
  | .inr z => ∃ M', r = some (1, M') ∧ CRd x n z.1 M' ∧ CN (7 * p + 5) (l ++ z.2.1) M' ∧ zcF (fEx p) M M'
def cGd (x : Nat → Int) (n p : Nat) (d : Int) (pa : Nat → EO) (F : Nat → Int → ZM → Option (Int × ZM)) : Prop := ∀ b l M, CRd x n b M → zrg (mR M) 2 = some p → CN (7 * p + 5) l M → l.length ≤ b → CX x n p l M (pa b) (F 0 d M)
theorem zcF.ex (h : zcF fRd M M') : zcF (fEx p) M M' := h.mo (fun _ _ _ q => .inl q)
theorem zcF.cx (h : zcF fRd M M') {l : List Int} (hl : CN (7 * p + 5) l M) : CN (7 * p + 5) l M' := hl.g (fun t k ht => h.2.2.1 _ _ _ (by unfold fRd; omega))
theorem zlN_x (hp : p < 2) : zlN (7 * p + 5) = 1000 := by
  rcases (show p = 0 ∨ p = 1 by omega) with rfl | rfl <;> rfl
theorem c_code {v : Int} {l : List Int} (hp : p < 2) (h : CRd x n b M) (hr : zrg (mR M) 2 = some p) (hl : CN (7 * p + 5) l M) (h1 : l.length < 1000) : ∃ M', Nu_add N (7 * p + 5) v M = some (1, M') ∧ CRd x n b M' ∧ zrg (mR M') 2 = some p ∧ CN (7 * p + 5) (l ++ [v]) M' ∧ zcF (fEx p) M M' := by
  obtain ⟨M1, e1, f1, l1⟩ := c_add (N := N) (q := 7 * p + 5) (x := v) hl (by rw [zlN_x hp]; omega) (by rw [zlN_x hp]; omega)
  exact ⟨M1, e1, h.s f1.1 (fun t i k ht => f1.2 _ _ _ (by simp; omega)), by rw [mR_2 f1.1]; exact hr, l1, f1.cF (fun t i k hs => by simp at hs; right; omega)⟩
theorem CX.w {o : EO} {M0 : ZM} {l : List Int} {r : Option (Int × ZM)} (f : zcF (fEx p) M0 M) (h : CX x n p l M o r) : CX x n p l M0 o r := by
  unfold CX at h ⊢
  cases o with
  | inl e => obtain ⟨M', a, b, c, d, g⟩ := h; exact ⟨M', a, b, c, d, f.tr g⟩
  | inr z => obtain ⟨M', a, b, c, g⟩ := h; exact ⟨M', a, b, c, f.tr g⟩
theorem c_prod12 {d : Int} {pa : Nat → EO} {F : Nat → Int → ZM → Option (Int × ZM)} (hp : p < 2) (hF : cGd x n p d pa F) (hg : eGood n pa) (hN : 2000 ≤ N) (l : List Int) : ∀ (f j b g : Nat) (u w : List Int) (M : ZM), j ≤ b → j ≤ 1000 → n < b + f → 1001 - j < g → CRd x n b M → zrg (mR M) 2 = some p → CN (7 * p + 5) (l ++ u) M → (l ++ u).length ≤ b → CX x n p l M (eLoop (sgP x n) pa x n f b u w) (Re_readProduct_b_12 N F g 0 d j M) := by
  intro f
  induction f with
  | zero => intro j b g u w M _ _ h1 _ h2; have := h2.2.2.1; omega
  | succ f ih =>
    intro j b g u w M hj hj2 hf hgg h hr hl hlen
    obtain ⟨g, rfl⟩ : ∃ g', g = g' + 1 := ⟨g - 1, by omega⟩
    have hn := h.1.2.2
    have hb := h.2.2.1
    rw [eLoop, Re_readProduct_b_12, h.2.1.2.2.1]
    by_cases c0 : tKi x n b = 42
    · have e1 : sgP x n b = some (-12, 22) := by unfold sgP; rw [if_pos c0]
      have h0 := tNx_gt (x := x) (n := n) (b := b) (by omega)
      have h1 := nb_gt (x := x) (n := n) (b := b) (by omega)
      have h2 := nb_le (x := x) hb
      rw [e1, if_pos (show (j : Int) < 1000 by omega), if_pos c0, zsucc (by omega)]
      obtain ⟨M1, e2, t1, f1⟩ := h.pass hN
      rw [e2, zBv_s]
      have hs := hF (nb x n b) (l ++ u) M1 t1 ((f1.2.1 2 (by omega)).trans hr) (f1.f.cx hl) (by omega)
      unfold CX at hs
      cases ho : pa (nb x n b) with
      | inl e =>
        rw [ho] at hs
        obtain ⟨M2, a1, a2, a3, a4, a5⟩ := hs
        rw [a1, zB_s, if_pos rfl]
        exact ⟨M2, rfl, a2, a3, a4, f1.f.ex.tr a5⟩
      | inr z =>
        rw [ho] at hs
        obtain ⟨M2, a1, a2, a3, a5⟩ := hs
        have r := hg _ z h2 ho
        have hr2 : zrg (mR M2) 2 = some p := (a5.2.1 2 (by omega)).trans ((f1.2.1 2 (by omega)).trans hr)
        have hl2 : (l ++ u ++ z.2.1).length ≤ z.1 - 1 := by simp only [List.length_append] at hlen ⊢; omega
        obtain ⟨M3, b1, b2, b3, b4, b5⟩ := c_code (N := N) (v := -12) hp a2 hr2 a3 (by omega)
        rw [a1, zB_s, if_neg (by decide), hr2, zO_s, b1, zB_s, zW_e]
        have b4' : CN (7 * p + 5) (l ++ (u ++ z.2.1 ++ [-12])) M3 := by rw [← List.append_assoc, ← List.append_assoc]; exact b4
        refine (ih (j + 1) z.1 g (u ++ z.2.1 ++ [-12]) (w ++ 22 :: z.2.2) M3 (by omega) (by omega) (by omega) (by omega) b2 b3 b4' ?_).w ((f1.f.ex.tr a5).tr b5)
        simp only [List.length_append, List.length_cons, List.length_nil] at hl2 ⊢
        omega
    · have e1 : sgP x n b = none := by unfold sgP; rw [if_neg c0]
      rw [e1, if_neg c0]
      by_cases c1 : (j : Int) < 1000
      · rw [if_pos c1]; exact ⟨M, rfl, h, hl, zcF.rf M⟩
      · rw [if_neg c1]; exact ⟨M, rfl, h, hl, zcF.rf M⟩
theorem c_prod {d : Int} {pa : Nat → EO} {F : Nat → Int → ZM → Option (Int × ZM)} (hp : p < 2) (hF : cGd x n p d pa F) (hg : eGood n pa) (hN : 2000 ≤ N) : cGd x n p d (eMany (sgP x n) pa x n) (Re_readProduct_b N F) := by
  intro b l M h hr hl hlen
  have hb := h.2.2.1
  have hn := h.1.2.2
  have hs := hF b l M h hr hl hlen
  unfold Re_readProduct_b eMany
  unfold CX at hs
  cases ho : pa b with
  | inl e =>
    rw [ho] at hs
    obtain ⟨M2, a1, a2, a3, a4, a5⟩ := hs
    rw [a1, zB_s, if_pos rfl]
    exact ⟨M2, rfl, a2, a3, a4, a5⟩
  | inr z =>
    rw [ho] at hs
    obtain ⟨M2, a1, a2, a3, a5⟩ := hs
    have r := hg _ z hb ho
    rw [a1, zB_s, if_neg (by decide)]
    exact (c_prod12 hp hF hg hN l 1001 0 z.1 N z.2.1 z.2.2 M2 (by omega) (by omega) (by omega) (by omega) a2 ((a5.2.1 2 (by omega)).trans hr) a3 (by simp only [List.length_append]; omega)).w a5
end CEXP
