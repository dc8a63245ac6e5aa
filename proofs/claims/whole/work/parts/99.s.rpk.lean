section RPK
variable {N n b T : Nat} {x : Nat → Int} {P : PK} {tb : Bool} {M M' : ZM}
/-- the reference's law of the park that is being read -/
def RLp (tb : Bool) (L : Int → Int → Int → Int → Int) (M : ZM) : Prop := mI M 59 0 1 = 1000 ∧ ((tb = false ∧ mI M 60 0 1 = 1000 ∧ mI M 11 0 21 = 1000 ∧ L = fun w _ _ _ => w) ∨ (tb = true ∧ ∃ u : List Int, mI M 60 0 1 = ((1000 + u.length : Nat) : Int) ∧ u ≠ [] ∧ u.length ≤ 1000 ∧ (∀ i, (h : i < u.length) → mI M 61 0 (1000 + i) = u[i]) ∧ rLw u L))
def RJ0 (P : PK) (tb : Bool) (M : ZM) : Prop :=
  mI M 51 0 9 = (qN P : Int)
  ∧ (∀ k, k < qN P → mI M 53 0 (6 + k) = qT P 1 k ∧ mI M 54 0 (6 + k) = qT P 2 k ∧ mI M 55 0 (6 + k) = qT P 3 k ∧ mI M 56 0 (6 + k) = qT P 4 k ∧ mI M 57 0 (6 + k) = qT P 5 k ∧ mL M 52 0 (6 + k) = qT P 13 k)
  ∧ (∀ j, j < 3 → (mI M 51 0 (10 + j) = 0 ∧ qT P 7 j = 1 ∧ qT P (8 + j) 0 = (if j = 1 then 0 else 10)) ∨ (mI M 51 0 (10 + j) = qT P 7 j ∧ ∀ k : Nat, (k : Int) < qT P 7 j → mI M 58 0 (24 + 8 * j + k) = qT P (8 + j) k))
  ∧ (∀ k, k < 3 → mI M 51 0 (15 + k) = qT P 6 k)
  ∧ mI M 51 0 13 = qT P 11 0 ∧ mI M 51 0 14 = qT P 11 1
  ∧ RLp tb (qL P) M
def pj (j : Nat) : Nat := if j < 3 then j + 1 else if j = 3 then 6 else j
def RTd (T : Nat) (M : ZM) : Prop := ∃ R : Nat, mI M 11 0 22 = (R : Int) ∧ R < 128 ∧ ∀ j, j < 6 → zbt R (pj j) = zbt T j
def RJ (P : PK) (T : Nat) (M : ZM) : Prop := RJ0 P (zbt T 6) M ∧ RTd T M
/-- what reading a park may change in the reference -/
def fPr (t i k : Nat) : Prop := fRr t i k ∨ (i = 0 ∧ ((t = 11 ∧ (k = 21 ∨ k = 22)) ∨ (t = 51 ∧ 9 ≤ k) ∨ ((52 ≤ t ∧ t ≤ 57) ∧ 6 ≤ k) ∨ (t = 58 ∧ 24 ≤ k) ∨ ((t = 59 ∨ t = 60) ∧ k = 1) ∨ (t = 61 ∧ 1000 ≤ k) ∨ t = 62 ∨ t = 63))
def RPo (x : Nat → Int) (n : Nat) (M : ZM) (o : PO) (r : Option (Int × ZM)) : Prop := match o with
  | .inl e => ∃ M', r = some (0, M') ∧ mI M' 11 0 9 = e ∧ zrF fPr M M'
  | .inr z => ∃ M', r = some (1, M') ∧ RRd x n z.1 M' ∧ RJ z.2.1 z.2.2 M' ∧ zrF fPr M M'
theorem zrF.pr (h : zrF fRr M M') : zrF fPr M M' := h.mo (fun _ _ _ q => .inl q)
theorem RLp.g {L : Int → Int → Int → Int → Int} (h : RLp tb L M) (e : ∀ t k, ((t = 59 ∨ t = 60) ∧ k = 1) ∨ (t = 61 ∧ 1000 ≤ k) ∨ (t = 11 ∧ k = 21) → mI M' t 0 k = mI M t 0 k) : RLp tb L M' := by
  obtain ⟨h1, h2⟩ := h
  refine ⟨(e _ _ (by omega)).trans h1, ?_⟩
  rcases h2 with ⟨a1, a2, a3, a4⟩ | ⟨a1, u, a2, a3, a4, a5, a6⟩
  · exact .inl ⟨a1, (e _ _ (by omega)).trans a2, (e _ _ (by omega)).trans a3, a4⟩
  · exact .inr ⟨a1, u, (e _ _ (by omega)).trans a2, a3, a4, fun i hi => (e _ _ (by omega)).trans (a5 i hi), a6⟩
theorem RJ0.g (h : RJ0 P tb M) (e : ∀ t k, (t = 51 ∧ 9 ≤ k) ∨ ((53 ≤ t ∧ t ≤ 57) ∧ 6 ≤ k ∧ k < 6 + qN P) ∨ (t = 58 ∧ 24 ≤ k) ∨ ((t = 59 ∨ t = 60) ∧ k = 1) ∨ (t = 61 ∧ 1000 ≤ k) ∨ (t = 11 ∧ k = 21) → mI M' t 0 k = mI M t 0 k) (eL : ∀ k, k < 6 + qN P → mL M' 52 0 k = mL M 52 0 k) : RJ0 P tb M' := by
  obtain ⟨h1, h2, h3, h4, h5, h6, h7⟩ := h
  refine ⟨(e _ _ (by omega)).trans h1, fun k hk => ?_, fun j hj => ?_, fun k hk => (e _ _ (by omega)).trans (h4 k hk), (e _ _ (by omega)).trans h5, (e _ _ (by omega)).trans h6, h7.g (fun t k hh => e t k (by omega))⟩
  · obtain ⟨a1, a2, a3, a4, a5, a6⟩ := h2 k hk
    exact ⟨(e _ _ (by omega)).trans a1, (e _ _ (by omega)).trans a2, (e _ _ (by omega)).trans a3, (e _ _ (by omega)).trans a4, (e _ _ (by omega)).trans a5, (eL _ (by omega)).trans a6⟩
  · rcases h3 j hj with ⟨a1, a2⟩ | ⟨a1, a2⟩
    · exact .inl ⟨(e _ _ (by omega)).trans a1, a2⟩
    · exact .inr ⟨(e _ _ (by omega)).trans a1, fun k hk => (e _ _ (by omega)).trans (a2 k hk)⟩
theorem RTd.g (h : RTd T M) (e : mI M' 11 0 22 = mI M 11 0 22) : RTd T M' := by
  obtain ⟨R, h1, h2⟩ := h
  exact ⟨R, e.trans h1, h2⟩
theorem RJ.f (h : RJ P T M) (f : zrF fRr M M') : RJ P T M' := ⟨h.1.g (fun t k hh => f.2.2.1 _ _ _ (by unfold fRr; omega)) (fun k _ => f.2.2.2 _ _ _ (by omega) (by unfold fRr; omega)), h.2.g (f.2.2.1 _ _ _ (by unfold fRr; omega))⟩
theorem RPo.w {o : PO} {M0 : ZM} {r : Option (Int × ZM)} (f : zrF fPr M0 M) (h : RPo x n M o r) : RPo x n M0 o r := by
  unfold RPo at h ⊢
  cases o with
  | inl e => obtain ⟨M', a, b, g⟩ := h; exact ⟨M', a, b, f.tr g⟩
  | inr z => obtain ⟨M', a, b, c, g⟩ := h; exact ⟨M', a, b, c, f.tr g⟩
theorem RPo.zb {o : PO} {r : Option (Int × ZM)} (h : RPo x n M o r) : RPo x n M o (zB r fun v M1 => some (z_b1 v, M1)) := by
  unfold RPo at h ⊢
  cases o with
  | inl e => obtain ⟨M', a, b⟩ := h; exact ⟨M', by rw [a, zB_s, zb10], b⟩
  | inr z => obtain ⟨M', a, b⟩ := h; exact ⟨M', by rw [a, zB_s, zb11], b⟩
theorem RPo.bd {Q : Int → ZM → Prop} {o : RO} {r : Option (Int × ZM)} {K : ZM → Option (Int × ZM)} {K' : Nat × Int → PO} (h : RO' x n fRr Q M o r) (k : ∀ z M1, o = .inr z → RRd x n z.1 M1 → Q z.2 M1 → zrF fRr M M1 → RPo x n M1 (K' z) (K M1)) : RPo x n M (uB o K') (zB r fun v M1 => if v = 0 then some (0, M1) else K M1) := by
  unfold RO' at h
  cases o with
  | inl e =>
    obtain ⟨M', a1, a2, a4, a5⟩ := h
    rw [a1, zB_s, if_pos rfl]
    exact ⟨M', rfl, a2, a5.pr⟩
  | inr z =>
    obtain ⟨M', a1, a2, a3, a5⟩ := h
    rw [a1, zB_s, if_neg (by decide)]
    exact (k z M' rfl a2 a3 a5).w a5.pr
theorem uB_as {α β γ : Type} {o : Int ⊕ α} {f : α → Int ⊕ β} {K : β → Int ⊕ γ} : uB (uB o f) K = uB o (fun z => uB (f z) K) := by
  cases o <;> rfl
theorem RPo.er {e : Int} (he : 1 ≤ e ∧ e ≤ 15) (h : RRd x n b M) : RPo x n M (.inl (e + 16 * (b : Int))) (zB (Mo_fails N 0 e M) fun v M1 => some (z_b1 v, M1)) := by
  obtain ⟨M', e1, g1, g2, g3⟩ := r_fails (N := N) he h
  rw [e1, zB_s, zb10]
  exact ⟨M', rfl, g1, g3.pr⟩
theorem r_fin0 (h : RRd x n b M) (hj : RJ P T M) (hN : 2000 ≤ N) : RPo x n M (oFin x n b P T) (Mo_closes N 0 M) := by
  have hs := r_closes (N := N) h hN
  unfold oFin
  unfold RO' at hs
  cases ho : oSign x n b 59 with
  | inl e =>
    rw [ho] at hs
    obtain ⟨M', a1, a2, a4, a5⟩ := hs
    exact ⟨M', a1, a2, a5.pr⟩
  | inr z =>
    rw [ho] at hs
    obtain ⟨M', a1, a2, a3, a5⟩ := hs
    exact ⟨M', a1, a2, hj.f a5, a5.pr⟩
theorem zan_p : ∀ R : Nat, R < 128 → ∀ i : Nat, i < 7 → z_and (z_shr (R : Int) (i : Int)) 1 = (if zbt R i then 1 else 0) ∧ z_or (R : Int) (z_shl 1 (i : Int)) = ((R ||| 2 ^ i : Nat) : Int) := by decide +kernel
theorem zbt_p {a b : Nat} : zbt (2 ^ a) b = decide (a = b) := Nat.testBit_two_pow
theorem pj_b {j : Nat} (h : j < 6) : pj j < 7 := by
  unfold pj
  split
  · omega
  · split <;> omega
theorem pj_i {i j : Nat} (hi : i < 6) (hj : j < 6) : pj i = pj j ↔ i = j := by
  unfold pj
  repeat' split
  all_goals omega
theorem RTd.up {j R : Nat} (h2 : R < 128) (h3 : ∀ j, j < 6 → zbt R (pj j) = zbt T j) (hj : j < 6) (e : mI M 11 0 22 = ((R ||| 2 ^ pj j : Nat) : Int)) : RTd (T ||| 2 ^ j) M := by
  refine ⟨R ||| 2 ^ pj j, e, Nat.or_lt_two_pow (n := 7) h2 (p2_128 (pj_b hj)), fun i hi => ?_⟩
  rw [zbt_or, zbt_or, h3 i hi, zbt_p, zbt_p]
  congr 1
  simp only [pj_i hj hi]
theorem r_once {j : Nat} {x1 : Int} {K : ZM → Option (Int × ZM)} {K' : Nat × Nat → PO} (hx : x1 = ((pj j : Nat) : Int)) (hj6 : j < 6) (h : RRd x n b M) (hj : RJ P T M) (hN : 2000 ≤ N) (k : ∀ z M1, oOnce x n b T j = .inr z → RRd x n z.1 M1 → RJ P z.2 M1 → RPo x n M1 (K' z) (K M1)) : RPo x n M (uB (oOnce x n b T j) K') (zB (Mo_isTold N 0 x1 M) fun v101 M101 => if v101 = 0 then zBv (Mo_nextToken N 0 M101) fun M102 => K M102 else zB (Mo_fails N 0 3 M101) fun v103 M103 => some (z_b1 v103, M103)) := by
  obtain ⟨hj0, R, r1, r2, r3⟩ := hj
  have hz := zan_p R r2 (pj j) (pj_b hj6)
  have e17 : Mo_isTold N 0 x1 M = some (if zbt T j then 1 else 0, pI M 11 0 22 ((R ||| 2 ^ pj j : Nat) : Int)) := by
    unfold Mo_isTold Mo_isTold_17
    rw [r1, hx, hz.1, hz.2, r3 j hj6, zW_e, zW_e]
    by_cases c : zbt T j = true
    · rw [if_pos c, if_pos rfl, zb11]
    · rw [if_neg c, if_neg (by decide), zb10]
  have f0 : zrF fPr M (pI M 11 0 22 ((R ||| 2 ^ pj j : Nat) : Int)) := zrF.p (.inr ⟨rfl, .inl ⟨rfl, .inr rfl⟩⟩)
  have h0 : RRd x n b (pI M 11 0 22 ((R ||| 2 ^ pj j : Nat) : Int)) := h.p (by decide) (by decide)
  rw [e17, zB_s]
  clear hz e17
  by_cases c : zbt T j = true
  · have ho : oOnce x n b T j = .inl (3 + 16 * (b : Int)) := if_pos c
    rw [ho, uB_l, if_pos c, if_neg (by decide)]
    exact (RPo.er (by omega) h0).w f0
  · have ho : oOnce x n b T j = .inr (nb x n b, T ||| 2 ^ j) := if_neg c
    rw [ho, uB_r, if_neg c, if_pos rfl]
    obtain ⟨M1, e1, t1, f1⟩ := h0.pass hN
    rw [e1, zBv_s]
    have t6 : zbt (T ||| 2 ^ j) 6 = zbt T 6 := by
      rw [zbt_or, zbt_p, decide_eq_false (by omega), Bool.or_false]
    have j1 : RJ P (T ||| 2 ^ j) M1 := by
      refine ⟨?_, (RTd.up r2 r3 hj6 mI_pI_eq).g (f1.2.2.1 _ _ _ (by omega))⟩
      rw [t6]
      exact hj0.g (fun t k hh => (f1.2.2.1 _ _ _ (by omega)).trans (mI_pI_ne (by omega))) (fun k _ => f1.2.2.2 _ _ _ (by omega))
    exact (k (nb x n b, T ||| 2 ^ j) M1 ho t1 j1).w (f0.tr f1.f.pr)
/-- a row of the reference -/
def fRo (j t i k : Nat) : Prop := fRr t i k ∨ (t = 58 ∧ i = 0 ∧ 24 + 8 * j ≤ k ∧ k < 32 + 8 * j)
theorem z32_910 {j : Nat} (hj : j < 3) : z32 (9 + ((j + 1 : Nat) : Int)) = ((10 + j : Nat) : Int) := by rw [zs (by omega)]; omega
theorem r_row20 {j : Nat} {hi : Int} (hj : j < 3) (hN : 2000 ≤ N) : ∀ (f b g : Nat) (l : List Int) (M : ZM), RRd x n b M → (∀ i, (h : i < l.length) → mI M 58 0 (24 + 8 * j + i) = l[i]) → l.length ≤ 8 → n < b + f → 9 - l.length < g → match oList x n hi f b l with
    | .inl e => ∃ M', Mo_readsRow_20 N g 0 ((j + 1 : Nat) : Int) hi (l.length : Int) M = some (0, M') ∧ mI M' 11 0 9 = e ∧ zrF (fRo j) M M'
    | .inr z => ∃ M', Mo_readsRow_20 N g 0 ((j + 1 : Nat) : Int) hi (l.length : Int) M = (zB (Mo_closes N 0 (pI M' 51 0 (10 + j) (z.2.length : Int))) fun v102 M102 => some (z_b1 v102, M102)) ∧ RRd x n z.1 M' ∧ (∀ i, (h : i < z.2.length) → mI M' 58 0 (24 + 8 * j + i) = z.2[i]) ∧ zrF (fRo j) M M' := by
  intro f
  induction f with
  | zero => intro b g l M h _ _ h1; have := h.2.2; omega
  | succ f ih =>
    intro b g l M h hl h8 hf hg
    have hb := h.2.2
    obtain ⟨g, rfl⟩ : ∃ g', g = g' + 1 := ⟨g - 1, by omega⟩
    have wd : ∀ {M M'}, zrF fRr M M' → zrF (fRo j) M M' := fun f => f.mo (fun _ _ _ q => .inl q)
    have unf : Mo_readsRow_20 N (g + 1) 0 ((j + 1 : Nat) : Int) hi (l.length : Int) M = if l = [] ∨ tKi x n b = 2 then Mo_readsRow_32 N (Mo_readsRow_20 N g) 0 ((j + 1 : Nat) : Int) hi (l.length : Int) M else (zB (Mo_closes N 0 (pI M 51 0 (10 + j) (l.length : Int))) fun v102 M102 => some (z_b1 v102, M102)) := by
      rw [Mo_readsRow_20]
      by_cases c1 : l = []
      · rw [if_pos (by rw [c1]; rfl), if_pos (.inl c1)]
      · have : ¬ (l.length : Int) = 0 := fun q => c1 (List.length_eq_zero_iff.1 (by omega))
        rw [if_neg this]
        by_cases c2 : tKi x n b = 2
        · rw [if_pos (h.2.1.w2.2 c2), if_pos (.inr c2)]
        · rw [if_neg (fun q => c2 (h.2.1.w2.1 q)), if_neg (fun q => by rcases q with q | q <;> contradiction), z32_910 hj, zI_t (by omega), zW_e, Int.toNat_natCast]
    rw [unf, oList]
    by_cases c1 : l = [] ∨ tKi x n b = 2
    · rw [if_pos c1, if_pos c1]
      unfold Mo_readsRow_32
      by_cases c2 : tKi x n b = 2
      · rw [if_pos c2, if_pos (h.2.1.w2.2 c2), h.v c2]
        have h0 := wV_b c2
        by_cases c3 : wV x n b ≤ hi
        · rw [if_pos c3, if_neg (show ¬ hi < wV x n b by omega)]
          by_cases c4 : l.length < 8
          · rw [if_pos c4, if_neg (show ¬ (l.length : Int) = 8 by omega)]
            have ix : z32 (z32 (24 + z32 (8 * z32 (((j + 1 : Nat) : Int) - 1))) + (l.length : Int)) = ((24 + 8 * j + l.length : Nat) : Int) := by
              rw [zs (x := ((j + 1 : Nat) : Int) - 1) (by omega), zs (x := 8 * (((j + 1 : Nat) : Int) - 1)) (by omega), zs (x := 24 + 8 * (((j + 1 : Nat) : Int) - 1)) (by omega), zs (by omega)]
              omega
            rw [ix, zI_t (by omega), Int.toNat_natCast, zW_e, zsucc (by omega), zW_e]
            clear ix
            have h1 : RRd x n b (pI M 58 0 (24 + 8 * j + l.length) (wV x n b)) := h.p (by decide) (by omega)
            obtain ⟨M2, e3, t2, f2⟩ := h1.pass hN
            rw [e3, zBv_s]
            have g1 := nb_gt (x := x) (n := n) (b := b) (by omega)
            have fr : zrF (fRo j) M M2 := (zrF.p (.inr ⟨rfl, rfl, by omega⟩)).tr (wd f2.f)
            have hl2 : ∀ i, (h : i < (l ++ [wV x n b]).length) → mI M2 58 0 (24 + 8 * j + i) = (l ++ [wV x n b])[i] := fun i hi => by
              rw [f2.2.2.1 _ _ _ (by omega)]
              by_cases e : i = l.length
              · subst e
                rw [mI_pI_eq]
                simp
              · have hi' : i < l.length := by simp only [List.length_append, List.length_cons, List.length_nil] at hi; omega
                rw [mI_pI_ne (by omega), hl i hi', List.getElem_append_left hi']
            have r := ih (nb x n b) g (l ++ [wV x n b]) M2 t2 hl2 (by simp; omega) (by omega) (by simp; omega)
            have el : ((l ++ [wV x n b]).length : Int) = ((l.length + 1 : Nat) : Int) := by simp
            rw [el] at r
            cases ho : oList x n hi f (nb x n b) (l ++ [wV x n b]) with
            | inl e =>
              rw [ho] at r
              obtain ⟨M', a1, a2, a5⟩ := r
              exact ⟨M', a1, a2, fr.tr a5⟩
            | inr z =>
              rw [ho] at r
              obtain ⟨M', a1, a2, a3, a5⟩ := r
              exact ⟨M', a1, a2, a3, fr.tr a5⟩
          · rw [if_neg c4, if_pos (show (l.length : Int) = 8 by omega)]
            obtain ⟨M', e3, g1, g2, g3⟩ := r_fails (N := N) (e := 5) (by omega) h
            rw [e3, zB_s, zb10]
            exact ⟨M', rfl, g1, wd g3⟩
        · rw [if_neg c3, if_pos (show hi < wV x n b by omega)]
          obtain ⟨M', e3, g1, g2, g3⟩ := r_fails (N := N) (e := 4) (by omega) h
          rw [e3, zB_s, zb10]
          exact ⟨M', rfl, g1, wd g3⟩
      · rw [if_neg c2, if_neg (fun q => c2 (h.2.1.w2.1 q))]
        obtain ⟨M', e3, g1, g2, g3⟩ := r_fails (N := N) (e := 1) (by omega) h
        rw [e3, zB_s, zb10]
        exact ⟨M', rfl, g1, wd g3⟩
    · rw [if_neg c1, if_neg c1]
      exact ⟨M, rfl, h, hl, zrF.rf M⟩
theorem RJ0.row {j : Nat} {l : List Int} (h : RJ0 P tb M) (hj : j < 3) (h51 : mI M' 51 0 (10 + j) = (l.length : Int)) (hl : ∀ i, (h : i < l.length) → mI M' 58 0 (24 + 8 * j + i) = l[i]) (e : ∀ t k, (t = 51 ∧ 9 ≤ k ∧ k ≠ 10 + j) ∨ ((53 ≤ t ∧ t ≤ 57) ∧ 6 ≤ k) ∨ (t = 58 ∧ ¬ (24 + 8 * j ≤ k ∧ k < 32 + 8 * j)) ∨ ((t = 59 ∨ t = 60) ∧ k = 1) ∨ (t = 61 ∧ 1000 ≤ k) ∨ (t = 11 ∧ k = 21) → mI M' t 0 k = mI M t 0 k) (eL : ∀ k, mL M' 52 0 k = mL M 52 0 k) (hv : VP P) : RJ0 (pRow P j l) tb M' := by
  obtain ⟨h1, h2, h3, h4, h5, h6, h7⟩ := h
  have e7 : qT (pRow P j l) 7 j = (l.length : Int) := if_pos ⟨rfl, rfl⟩
  have e7n : ∀ i, i ≠ j → qT (pRow P j l) 7 i = qT P 7 i := fun i hi => by
    show (if 7 = 7 ∧ i = j then _ else if 7 = 8 + j then _ else qT P 7 i) = _
    rw [if_neg (fun q => hi q.2), if_neg (by omega)]
  have e8 : ∀ k, qT (pRow P j l) (8 + j) k = l.getD k 0 := fun k => by
    show (if 8 + j = 7 ∧ k = j then _ else if 8 + j = 8 + j then _ else _) = _
    rw [if_neg (by omega), if_pos rfl]
  refine ⟨(e _ _ (by omega)).trans h1, fun k hk => ?_, fun i hi => ?_, fun k hk => ?_, ?_, ?_, h7.g (fun t k hh => e t k (by omega))⟩
  · obtain ⟨a1, a2, a3, a4, a5, a6⟩ := h2 k hk
    rw [pRow_n (by omega) (by omega), pRow_n (by omega) (by omega), pRow_n (by omega) (by omega), pRow_n (by omega) (by omega), pRow_n (by omega) (by omega), pRow_n (by omega) (by omega)]
    exact ⟨(e _ _ (by omega)).trans a1, (e _ _ (by omega)).trans a2, (e _ _ (by omega)).trans a3, (e _ _ (by omega)).trans a4, (e _ _ (by omega)).trans a5, (eL _).trans a6⟩
  · by_cases ei : i = j
    · subst ei
      rw [e7]
      refine .inr ⟨h51, fun k hk => ?_⟩
      have hk' : k < l.length := by omega
      rw [e8, zgetD hk']
      exact hl k hk'
    · rw [e7n i ei]
      have hl8 := hv.l hi
      rcases h3 i hi with ⟨a1, a2, a3⟩ | ⟨a1, a2⟩
      · refine .inl ⟨(e _ _ (by omega)).trans a1, a2, ?_⟩
        rw [pRow_n (by omega) (by omega)]
        exact a3
      · refine .inr ⟨(e _ _ (by omega)).trans a1, fun k hk => ?_⟩
        rw [pRow_n (by omega) (by omega)]
        exact (e _ _ (by omega)).trans (a2 k hk)
  · rw [pRow_n (by omega) (by omega)]; exact (e _ _ (by omega)).trans (h4 k hk)
  · rw [pRow_n (by omega) (by omega)]; exact (e _ _ (by omega)).trans h5
  · rw [pRow_n (by omega) (by omega)]; exact (e _ _ (by omega)).trans h6
theorem zrF.ro {j : Nat} (hj : j < 3) (h : zrF (fRo j) M M') : zrF fPr M M' := h.mo (fun t i k q => by
  rcases q with q | q
  · exact .inl q
  · exact .inr ⟨q.2.1, by omega⟩)
theorem r_row {j : Nat} {hi x1 : Int} (hx : x1 = ((j + 1 : Nat) : Int)) (hj : j < 3) (hv : VP P) (h : RRd x n b M) (hJ : RJ P T M) (hN : 2000 ≤ N) : RPo x n M (oRw x n b j hi P T) (Mo_readsRow N 0 x1 hi M) := by
  unfold oRw Mo_readsRow
  have hpj : pj j = j + 1 := if_pos hj
  refine r_once (j := j) (by rw [hpj]; exact hx) (by omega) h hJ hN (fun z M1 ho h1 j1 => ?_)
  have hn := h1.1.2.2
  have r := r_row20 (hi := hi) hj hN 1001 z.1 N [] M1 h1 (fun i hi => absurd hi (by simp)) (by simp) (by omega) (by simp; omega)
  rw [show ((([] : List Int).length : Nat) : Int) = 0 from rfl, ← hx] at r
  cases hl : oList x n hi 1001 z.1 [] with
  | inl e =>
    rw [hl] at r
    obtain ⟨M', a1, a2, a5⟩ := r
    rw [a1]
    exact ⟨M', rfl, a2, a5.ro hj⟩
  | inr y =>
    rw [hl] at r
    obtain ⟨M', a1, a2, a3, a5⟩ := r
    rw [a1, uB_r]
    have f2 : zrF fPr M' (pI M' 51 0 (10 + j) (y.2.length : Int)) := zrF.p (.inr ⟨rfl, by omega⟩)
    have h2 : RRd x n y.1 (pI M' 51 0 (10 + j) (y.2.length : Int)) := a2.p (by decide) (by omega)
    have j2 : RJ (pRow P j y.2) z.2 (pI M' 51 0 (10 + j) (y.2.length : Int)) := ⟨j1.1.row hj mI_pI_eq (fun i hi => (mI_pI_ne (by omega)).trans (a3 i hi)) (fun t k hh => (mI_pI_ne (by omega)).trans (a5.2.2.1 _ _ _ (by unfold fRo fRr; omega))) (fun k => a5.2.2.2 _ _ _ (by omega) (by unfold fRo fRr; omega)) hv, j1.2.g ((mI_pI_ne (by omega)).trans (a5.2.2.1 _ _ _ (by unfold fRo fRr; omega)))⟩
    exact (r_fin0 h2 j2 hN).zb.w ((a5.ro hj).tr f2)
theorem RJ0.wk {v0 v1 v2 : Int} (h : RJ0 P tb M) (hl : mI M' 51 0 15 = v0 ∧ mI M' 51 0 16 = v1 ∧ mI M' 51 0 17 = v2) (e : ∀ t k, (t = 51 ∧ 9 ≤ k ∧ k < 15) ∨ ((53 ≤ t ∧ t ≤ 57) ∧ 6 ≤ k) ∨ t = 58 ∨ ((t = 59 ∨ t = 60) ∧ k = 1) ∨ (t = 61 ∧ 1000 ≤ k) ∨ (t = 11 ∧ k = 21) → mI M' t 0 k = mI M t 0 k) (eL : ∀ k, mL M' 52 0 k = mL M 52 0 k) : RJ0 (pWk P v0 v1 v2) tb M' := by
  obtain ⟨h1, h2, h3, h4, h5, h6, h7⟩ := h
  refine ⟨(e _ _ (by omega)).trans h1, fun k hk => ?_, fun i hi => ?_, fun k hk => ?_, (e _ _ (by omega)).trans h5, (e _ _ (by omega)).trans h6, h7.g (fun t k hh => e t k (by omega))⟩
  · obtain ⟨a1, a2, a3, a4, a5, a6⟩ := h2 k hk
    exact ⟨(e _ _ (by omega)).trans a1, (e _ _ (by omega)).trans a2, (e _ _ (by omega)).trans a3, (e _ _ (by omega)).trans a4, (e _ _ (by omega)).trans a5, (eL _).trans a6⟩
  · have q8 : ∀ k, qT (pWk P v0 v1 v2) (8 + i) k = qT P (8 + i) k := fun k => if_neg (by omega)
    rcases h3 i hi with ⟨a1, a2, a3⟩ | ⟨a1, a2⟩
    · exact .inl ⟨(e _ _ (by omega)).trans a1, a2, by rw [q8]; exact a3⟩
    · exact .inr ⟨(e _ _ (by omega)).trans a1, fun k hk => by rw [q8]; exact (e _ _ (by omega)).trans (a2 k hk)⟩
  · have : k = 0 ∨ k = 1 ∨ k = 2 := by omega
    rcases this with rfl | rfl | rfl
    · exact hl.1
    · exact hl.2.1
    · exact hl.2.2
theorem r_wakes (h : RRd x n b M) (hJ : RJ P T M) (hN : 2000 ≤ N) : RPo x n M (oWk x n b P T) (Mo_readsWakes N 0 M) := by
  unfold oWk Mo_readsWakes
  refine r_once (j := 3) rfl (by omega) h hJ hN (fun z M1 ho h1 j1 => ?_)
  obtain ⟨g, hg⟩ : ∃ g, N = g + 4 := ⟨N - 4, by omega⟩
  have st : ∀ (g b j : Nat) (K' : Nat × Int → PO) (M : ZM), RRd x n b M → j < 3 → (∀ y M1, oNum x n b 0 9 = .inr y → RRd x n y.1 M1 → mI M1 51 0 (15 + j) = y.2 → (∀ t i k, ¬ fRr t i k → ¬ (t = 51 ∧ i = 0 ∧ k = 15 + j) → mI M1 t i k = mI M t i k) → (∀ k, mL M1 52 0 k = mL M 52 0 k) → RPo x n M1 (K' y) (Mo_readsWakes_21 N g 0 ((j + 1 : Nat) : Int) M1)) → RPo x n M (uB (oNum x n b 0 9) K') (Mo_readsWakes_21 N (g + 1) 0 (j : Int) M) := by
    intro g b j K' M hb hj3 hk
    rw [Mo_readsWakes_21, if_pos (show (j : Int) < 3 by omega)]
    refine RPo.bd (r_needsNumber hb hN) (fun y M2 oy h2 q2 f2 => ?_)
    have e15 : z32 (15 + (j : Int)) = ((15 + j : Nat) : Int) := by rw [zs (by omega)]; omega
    rw [e15, zI_t (by omega), Int.toNat_natCast, zW_e, zsucc (by omega), zW_e, q2]
    clear e15
    have f3 : zrF fPr M2 (pI M2 51 0 (15 + j) y.2) := zrF.p (.inr ⟨rfl, by omega⟩)
    exact (hk y _ oy (h2.p (by decide) (by omega)) mI_pI_eq (fun t i k a1 a2 => (mI_pI_ne a2).trans (f2.2.2.1 _ _ _ a1)) (fun k => f2.2.2.2 _ _ _ (by omega) (by unfold fRr; omega))).w f3
  rw [hg, show (0 : Int) = ((0 : Nat) : Int) from rfl, ← hg]
  have go := st (g + 3) z.1 0 (fun y1 => uB (oNum x n y1.1 0 9) fun y2 => uB (oNum x n y2.1 0 9) fun y3 => oFin x n y3.1 (pWk P y1.2 y2.2 y3.2) z.2) M1 h1 (by omega) (fun y1 M2 o1 h2 v1 q1 l1 => ?_)
  · rw [show g + 3 + 1 = N by omega] at go
    exact go
  · refine st (g + 2) y1.1 1 _ M2 h2 (by omega) (fun y2 M3 o2 h3 v2 q2 l2 => ?_)
    refine st (g + 1) y2.1 2 _ M3 h3 (by omega) (fun y3 M4 o3 h4 v3 q3 l3 => ?_)
    rw [Mo_readsWakes_21, if_neg (by decide)]
    have Q : ∀ t i k, ¬ fRr t i k → ¬ (t = 51 ∧ i = 0 ∧ 15 ≤ k) → mI M4 t i k = mI M1 t i k := fun t i k a1 a2 => by
      rw [q3 t i k a1 (by omega), q2 t i k a1 (by omega), q1 t i k a1 (by omega)]
    have w0 : mI M4 51 0 15 = y1.2 := by
      rw [q3 _ _ _ (by unfold fRr; omega) (by omega), q2 _ _ _ (by unfold fRr; omega) (by omega)]
      exact v1
    have w1 : mI M4 51 0 16 = y2.2 := by
      rw [q3 _ _ _ (by unfold fRr; omega) (by omega)]
      exact v2
    have j4 : RJ (pWk P y1.2 y2.2 y3.2) z.2 M4 := ⟨j1.1.wk ⟨w0, w1, v3⟩ (fun t k hh => Q _ _ _ (by unfold fRr; omega) (by omega)) (fun k => (l3 k).trans ((l2 k).trans (l1 k))), j1.2.g (Q _ _ _ (by unfold fRr; omega) (by omega))⟩
    exact (r_fin0 h4 j4 hN).zb
theorem RJ0.one {i : Nat} {v : Int} (h : RJ0 P tb M) (hi : i < 2) (he : mI M' 51 0 (13 + i) = v) (e : ∀ t k, (t = 51 ∧ 9 ≤ k ∧ k ≠ 13 + i) ∨ ((53 ≤ t ∧ t ≤ 57) ∧ 6 ≤ k) ∨ t = 58 ∨ ((t = 59 ∨ t = 60) ∧ k = 1) ∨ (t = 61 ∧ 1000 ≤ k) ∨ (t = 11 ∧ k = 21) → mI M' t 0 k = mI M t 0 k) (eL : ∀ k, mL M' 52 0 k = mL M 52 0 k) : RJ0 (pOne P i v) tb M' := by
  obtain ⟨h1, h2, h3, h4, h5, h6, h7⟩ := h
  have eT : ∀ t k, t ≠ 11 → qT (pOne P i v) t k = qT P t k := fun t k a1 => rU_n (by omega)
  refine ⟨(e _ _ (by omega)).trans h1, fun k hk => ?_, fun i hi => ?_, fun k hk => ?_, ?_, ?_, h7.g (fun t k hh => e t k (by omega))⟩
  · obtain ⟨a1, a2, a3, a4, a5, a6⟩ := h2 k hk
    rw [eT 1 k (by omega), eT 2 k (by omega), eT 3 k (by omega), eT 4 k (by omega), eT 5 k (by omega), eT 13 k (by omega)]
    exact ⟨(e _ _ (by omega)).trans a1, (e _ _ (by omega)).trans a2, (e _ _ (by omega)).trans a3, (e _ _ (by omega)).trans a4, (e _ _ (by omega)).trans a5, (eL _).trans a6⟩
  · rw [eT 7 i (by omega)]
    rcases h3 i hi with ⟨a1, a2, a3⟩ | ⟨a1, a2⟩
    · exact .inl ⟨(e _ _ (by omega)).trans a1, a2, by rw [eT (8 + i) 0 (by omega)]; exact a3⟩
    · exact .inr ⟨(e _ _ (by omega)).trans a1, fun k hk => by rw [eT (8 + i) k (by omega)]; exact (e _ _ (by omega)).trans (a2 k hk)⟩
  · rw [eT 6 k (by omega)]; exact (e _ _ (by omega)).trans (h4 k hk)
  · by_cases q : i = 0
    · subst q
      show _ = rU (qT P) 11 0 v 11 0
      rw [rU_s]
      exact he
    · have : qT (pOne P i v) 11 0 = qT P 11 0 := rU_n (by omega)
      rw [this]
      exact (e _ _ (by omega)).trans h5
  · by_cases q : i = 1
    · subst q
      show _ = rU (qT P) 11 1 v 11 1
      rw [rU_s]
      exact he
    · have : qT (pOne P i v) 11 1 = qT P 11 1 := rU_n (by omega)
      rw [this]
      exact (e _ _ (by omega)).trans h6
theorem r_one {i : Nat} {hi x1 : Int} (hi2 : i < 2) (hx : x1 = ((4 + i : Nat) : Int)) (h : RRd x n b M) (hJ : RJ P T M) (hN : 2000 ≤ N) : RPo x n M (oOn x n b i hi P T) (Mo_readsOne N 0 x1 hi M) := by
  unfold oOn Mo_readsOne
  have hpj : pj (4 + i) = 4 + i := by unfold pj; rw [if_neg (by omega), if_neg (by omega)]
  refine r_once (j := 4 + i) (by rw [hpj]; exact hx) (by omega) h hJ hN (fun z M1 ho h1 j1 => ?_)
  refine RPo.bd (r_needsNumber h1 hN) (fun y M2 oy h2 q2 f2 => ?_)
  have e9 : z32 (9 + x1) = ((13 + i : Nat) : Int) := by rw [hx, zs (by omega)]; omega
  rw [e9, zI_t (by omega), Int.toNat_natCast, zW_e, q2]
  clear e9
  have j2 := j1.f f2
  have f3 : zrF fPr M2 (pI M2 51 0 (13 + i) y.2) := zrF.p (.inr ⟨rfl, by omega⟩)
  have h3 : RRd x n y.1 (pI M2 51 0 (13 + i) y.2) := h2.p (by decide) (by omega)
  have j3 : RJ (pOne P i y.2) z.2 (pI M2 51 0 (13 + i) y.2) := ⟨j2.1.one hi2 mI_pI_eq (fun t k hh => mI_pI_ne (by omega)) (fun _ => rfl), j2.2.g (mI_pI_ne (by omega))⟩
  exact (r_fin0 h3 j3 hN).zb.w f3
theorem rLw_ne {L : Int → Int → Int → Int → Int} {u : List Int} (h : rLw u L) : u ≠ [] := by
  rintro rfl
  have z : zr32 0 := by unfold zr32; omega
  have key : ∀ v : Int, zr32 v → v = L 0 0 0 0 := fun v hv => by
    obtain ⟨ρ', h1, h2⟩ := h 0 0 0 0 z z z z (fun _ _ => v)
    cases h1
    have w := rOp_v (ρ := fun _ _ => v) (d := 0)
    rw [← h2, rTs_64]
    unfold rV2 rV1
    rw [rSm_n (t := 65) (by omega), rSm_n (t := 67) (by omega), rSm_68, w.1, w.2.1, w.2.2.1, w.2.2.2.1, rOp_n (t := 70) (by omega), if_neg (by decide), if_neg (by decide), if_neg (by decide), if_neg (by decide), if_neg (by decide), Int.zero_add]
    exact (z32_id hv).symm
  have k0 := key 0 z
  have k1 := key 1 (by unfold zr32; omega)
  omega
theorem r_gives (h : RRd x n b M) (hJ : RJ P T M) (hN : 2000 ≤ N) : RPo x n M (oGv x n b P T) (Mo_readsGives N 0 M) := by
  obtain ⟨hj0, ht⟩ := hJ
  obtain ⟨h1, h2, h3, h4, h5, h6, h7, h8⟩ := id hj0
  unfold oGv Mo_readsGives
  rw [h7]
  rcases h8 with ⟨a1, a2, a3, a4⟩ | ⟨a1, u, a2, a5, _⟩
  · have ho : oOnce x n b T 6 = .inr (nb x n b, T ||| 2 ^ 6) := if_neg (by rw [a1]; decide)
    rw [a2, if_neg (by decide), ho, uB_r]
    obtain ⟨M1, e1, t1, f1⟩ := h.pass hN
    have hn := t1.1.2.2
    rw [e1, zBv_s, f1.2.2.1 11 0 21 (by omega), a3, zW_e]
    have q1 : RQ x n (nb x n b) [] (pI M1 59 0 1 1000) := ⟨t1.p (by decide) (by omega), ⟨by rw [mI_pI_ne (by omega), f1.2.2.1 _ _ _ (by omega), a3]; rfl, fun i hi => absurd hi (by simp)⟩, by simp⟩
    have f2 : zrF fPr M (pI M1 59 0 1 1000) := f1.f.pr.tr (zrF.p (.inr ⟨rfl, by omega⟩))
    have fx : ∀ {M M'}, zrF (fXr 0 0) M M' → zrF fPr M M' := fun f => f.mo (fun t i k q => by
      rcases q with (q | q | q) | q | q
      · exact .inl q
      · exact .inr ⟨q.2.1, by omega⟩
      · exact .inr ⟨q.2.1, by omega⟩
      · exact .inr ⟨q.2.1, by omega⟩
      · exact .inr ⟨q.2.1, by omega⟩)
    have r := r_reads (N := N) q1 hN
    dsimp only
    cases oe : oGiv x n (nb x n b) with
    | inl e =>
      rw [oe] at r
      obtain ⟨M', b1, b2, b3, b4⟩ := r
      rw [b1, zB_s, if_pos rfl]
      exact ⟨M', rfl, b2, f2.tr (fx b4)⟩
    | inr z =>
      rw [oe] at r
      obtain ⟨M2, b1, b2, b4⟩ := r
      have hz := b2.1.2.2
      have hl := b2.2.2
      rw [b1, zB_s, if_neg (by decide), b2.2.1.1, zW_e]
      have lw : ∃ V : EV, (∀ a b c e, zr32 a → zr32 b → zr32 c → zr32 e → cEs a b c e z.2.1 [] = some [V a b c e]) ∧ rLw z.2.2 V := by
        unfold oGiv at oe
        cases oo : eE (ePart x n 7 0) x n (nb x n b) with
        | inl e => rw [oo] at oe; cases oe
        | inr y =>
          simp only [oo] at oe
          by_cases c : tKi x n y.1 = 59
          · rw [if_pos c] at oe
            cases oe
            have w := eE_law oo
            exact w
          · rw [if_neg c] at oe; cases oe
      obtain ⟨V, k1, k2⟩ := lw
      have k3 : rLw z.2.2 (eLw z.2.1) := fun a b c e q1 q2 q3 q4 ρ => by
        obtain ⟨ρ', r1, r2⟩ := k2 a b c e q1 q2 q3 q4 ρ
        exact ⟨ρ', r1, r2.trans (eLw_c k1 a b c e q1 q2 q3 q4).2.symm⟩
      have t6 : zbt (T ||| 2 ^ 6) 6 = true := by rw [zbt_or, zbt_p]; simp
      have F : ∀ t k, ¬ fRr t 0 k → ¬ (t = 11 ∧ k = 21) → ¬ (t = 61 ∧ 1000 ≤ k) → t ≠ 62 → t ≠ 63 → ¬ ((t = 59 ∨ t = 60) ∧ k = 1) → mI (pI M2 60 0 1 ((1000 + z.2.2.length : Nat) : Int)) t 0 k = mI M t 0 k := fun t k a1 a2 a3 a4 a5 a6 => by
        rw [mI_pI_ne (by omega), b4.2.2.1 t 0 k (by unfold fXr fY fRr; unfold fRr at a1; omega), mI_pI_ne (by omega), f1.2.2.1 t 0 k (by unfold fRr at a1; omega)]
      have FL : ∀ k, mL (pI M2 60 0 1 ((1000 + z.2.2.length : Nat) : Int)) 52 0 k = mL M 52 0 k := fun k => by
        show mL M2 52 0 k = _
        rw [b4.2.2.2 _ _ _ (by omega) (by unfold fXr fY fRr; omega)]
        exact f1.2.2.2 _ _ _ (by omega)
      have G : ∀ t k, (t = 51 ∨ (53 ≤ t ∧ t ≤ 58)) → mI (pI M2 60 0 1 ((1000 + z.2.2.length : Nat) : Int)) t 0 k = mI M t 0 k := fun t k ht => F t k (by unfold fRr; omega) (by omega) (by omega) (by omega) (by omega) (by omega)
      have lp : RLp true (eLw z.2.1) (pI M2 60 0 1 ((1000 + z.2.2.length : Nat) : Int)) := by
        refine ⟨?_, .inr ⟨rfl, z.2.2, mI_pI_eq, rLw_ne k2, by omega, fun i hi => ?_, k3⟩⟩
        · rw [mI_pI_ne (by omega), b4.2.2.1 _ _ _ (by unfold fXr fY fRr; omega), mI_pI_eq]
        · rw [mI_pI_ne (by omega)]
          exact b2.2.1.2 i hi
      refine ⟨_, rfl, b2.1.p (by decide) (by omega), ⟨?_, ?_⟩, (f2.tr (fx b4)).tr (zrF.p (.inr ⟨rfl, by omega⟩))⟩
      · show RJ0 (pLaw P (eLw z.2.1)) (zbt (T ||| 2 ^ 6) 6) _
        rw [t6]
        refine ⟨(G _ _ (by omega)).trans h1, fun k hk => ?_, fun j hj => ?_, fun k hk => (G _ _ (by omega)).trans (h4 k hk), (G _ _ (by omega)).trans h5, (G _ _ (by omega)).trans h6, lp⟩
        · obtain ⟨c1, c2, c3, c4, c5, c6⟩ := h2 k hk
          exact ⟨(G _ _ (by omega)).trans c1, (G _ _ (by omega)).trans c2, (G _ _ (by omega)).trans c3, (G _ _ (by omega)).trans c4, (G _ _ (by omega)).trans c5, (FL _).trans c6⟩
        · rcases h3 j hj with ⟨c1, c2⟩ | ⟨c1, c2⟩
          · exact .inl ⟨(G _ _ (by omega)).trans c1, c2⟩
          · exact .inr ⟨(G _ _ (by omega)).trans c1, fun k hk => (G _ _ (by omega)).trans (c2 k hk)⟩
      · obtain ⟨R, r1, r2, r3⟩ := ht
        refine ⟨R, (F _ _ (by unfold fRr; omega) (by omega) (by omega) (by omega) (by omega) (by omega)).trans r1, r2, fun j hj => ?_⟩
        show _ = zbt (T ||| 2 ^ 6) j
        rw [r3 j hj, zbt_or, zbt_p, decide_eq_false (by omega), Bool.or_false]
  · have ho : oOnce x n b T 6 = .inl (3 + 16 * (b : Int)) := if_pos a1
    have := List.length_pos_iff.2 a5
    rw [a2, if_pos (by omega), ho, uB_l]
    exact RPo.er (by omega) h
end RPK
