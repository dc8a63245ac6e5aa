section REXP
variable {N n b d g : Nat} {x : Nat → Int} {l : List Int} {M M' : ZM}
/-- the reference's codes so far -/
def rCd (l : List Int) (M : ZM) : Prop := mI M 11 0 21 = ((1000 + l.length : Nat) : Int) ∧ ∀ i, (h : i < l.length) → mI M 61 0 (1000 + i) = l[i]
def RQ (x : Nat → Int) (n b : Nat) (l : List Int) (M : ZM) : Prop := RRd x n b M ∧ rCd l M ∧ l.length ≤ b
def fY (t i k : Nat) : Prop := fRr t i k ∨ (t = 11 ∧ i = 0 ∧ k = 21) ∨ (t = 61 ∧ i = 0 ∧ 1000 ≤ k)
def fXr (d1 d2 t i k : Nat) : Prop := fY t i k ∨ (t = 62 ∧ i = 0 ∧ d1 < k) ∨ (t = 63 ∧ i = 0 ∧ d2 ≤ k)
theorem rCd.gg (h : rCd l M) (h1 : mI M' 11 0 21 = mI M 11 0 21) (h2 : ∀ i, mI M' 61 0 i = mI M 61 0 i) : rCd l M' := ⟨h1.trans h.1, fun i hi => (h2 _).trans (h.2 i hi)⟩
theorem zrF.y {d1 d2 : Nat} (h : zrF fY M M') : zrF (fXr d1 d2) M M' := h.mo (fun _ _ _ q => .inl q)
theorem zrF.xx {d1 d2 e1 e2 : Nat} (h : zrF (fXr d1 d2) M M') (h1 : e1 ≤ d1) (h2 : e2 ≤ d2) : zrF (fXr e1 e2) M M' := h.mo (fun t i k q => by
  unfold fXr at q ⊢
  rcases q with q | q | q
  · exact .inl q
  · right; left; omega
  · right; right; omega)
theorem r_puts {c : Int} (h : RRd x n b M) (hc : rCd l M) (hl : l.length < 1000) : ∃ M', Mo_puts N 0 c M = some M' ∧ RRd x n b M' ∧ rCd (l ++ [c]) M' ∧ zrF fY M M' := by
  unfold Mo_puts
  have e1 := hc.1
  rw [zI_t (by omega), zW_e, mI_pI_ne (by omega), e1, Int.toNat_natCast]
  have e2 : z32 (((1000 + l.length : Nat) : Int) + 1) = ((1000 + l.length + 1 : Nat) : Int) := zsucc (by omega)
  rw [e2, zW_e]
  clear e2
  refine ⟨_, rfl, (h.p (by decide) (by omega)).p (by decide) (by omega), ⟨?_, fun i hi => ?_⟩, (zrF.p (.inr (.inr ⟨rfl, rfl, by omega⟩))).tr (zrF.p (.inr (.inl ⟨rfl, rfl, rfl⟩)))⟩
  · rw [mI_pI_eq, List.length_append]
    simp only [List.length_cons, List.length_nil]
    omega
  · rw [mI_pI_ne (by omega)]
    by_cases e : i = l.length
    · subst e
      rw [mI_pI_eq]
      simp
    · have hi' : i < l.length := by simp only [List.length_append, List.length_cons, List.length_nil] at hi; omega
      rw [mI_pI_ne (by omega), hc.2 i hi', List.getElem_append_left hi']
theorem r_next (h : RRd x n b M) (hc : rCd l M) (hl : l.length ≤ nb x n b) (hN : 2000 ≤ N) : ∃ M', Mo_nextToken N 0 M = some M' ∧ RQ x n (nb x n b) l M' ∧ zrF fY M M' := by
  obtain ⟨M', e, t, f⟩ := h.pass hN
  exact ⟨M', e, ⟨t, hc.gg (f.2.2.1 _ _ _ (by omega)) (fun i => f.2.2.1 _ _ _ (by omega)), hl⟩, f.f.mo (fun _ _ _ q => .inl q)⟩
theorem RQ.l9 (h : RQ x n b l M) (h0 : tKi x n b ≠ 0) : l.length < 1000 ∧ l.length + 1 ≤ nb x n b := by
  have h1 := nb_gt h0
  have h2 := nb_le (x := x) h.1.2.2
  have h3 := h.1.1.2.2
  have h4 := h.2.2
  omega
/-- where it goes on when a part has ended -/
def r62 (M : ZM) : Nat → Nat
  | 0 => 0
  | d + 1 => if mI M 62 0 (d + 1) = 1 then r62 M d else d + 1
theorem r62_c : ∀ (d : Nat), (∀ k, k ≤ d → mI M' 62 0 k = mI M 62 0 k) → r62 M' d = r62 M d
  | 0, _ => rfl
  | d + 1, h => by
    rw [r62, r62, h (d + 1) (Nat.le_refl _), r62_c d (fun k hk => h k (by omega))]
def rOpn (d : Nat) (M : ZM) : Prop := d = 0 ∨ mI M 62 0 d ≠ 1
theorem rOpn.r (h : rOpn d M) : r62 M d = d := by
  cases d with
  | zero => rfl
  | succ d =>
    rw [r62, if_neg]
    rcases h with h | h
    · omega
    · exact h
theorem r_152 {rec : Nat → Int → Int → ZM → Option (Int × ZM)} : ∀ (d g : Nat), d < g → d ≤ 6 → Mo_reads_152 N rec g 0 d 0 M = Mo_reads_172 N rec 0 (r62 M d : Nat) 0 M := by
  intro d
  induction d with
  | zero =>
    intro g hg _
    obtain ⟨g, rfl⟩ : ∃ g', g = g' + 1 := ⟨g - 1, by omega⟩
    rw [Mo_reads_152, if_neg (by omega)]
    rfl
  | succ d ih =>
    intro g hg hd
    obtain ⟨g, rfl⟩ : ∃ g', g = g' + 1 := ⟨g - 1, by omega⟩
    have e : z32 (((d + 1 : Nat) : Int) + -1) = (d : Int) := by rw [zs (by omega)]; omega
    rw [Mo_reads_152, if_pos (by omega), zI_t (by omega), e, Int.toNat_natCast, r62]
    clear e
    by_cases c : mI M 62 0 (d + 1) = 1
    · rw [if_pos c, if_pos c, zW_e]
      exact ih g (by omega) (by omega)
    · rw [if_neg c, if_neg c]
theorem r_379 {rec : Nat → Int → Int → ZM → Option (Int × ZM)} : ∀ (d g : Nat), d < g → d ≤ 6 → Mo_reads_379 N rec g 0 d 0 M = Mo_reads_424 N rec 0 (r62 M d : Nat) 0 M := by
  intro d
  induction d with
  | zero =>
    intro g hg _
    obtain ⟨g, rfl⟩ : ∃ g', g = g' + 1 := ⟨g - 1, by omega⟩
    rw [Mo_reads_379, if_neg (by omega)]
    rfl
  | succ d ih =>
    intro g hg hd
    obtain ⟨g, rfl⟩ : ∃ g', g = g' + 1 := ⟨g - 1, by omega⟩
    have e : z32 (((d + 1 : Nat) : Int) + -1) = (d : Int) := by rw [zs (by omega)]; omega
    rw [Mo_reads_379, if_pos (by omega), zI_t (by omega), e, Int.toNat_natCast, r62]
    clear e
    by_cases c : mI M 62 0 (d + 1) = 1
    · rw [if_pos c, if_pos c, zW_e]
      exact ih g (by omega) (by omega)
    · rw [if_neg c, if_neg c]
theorem r11_0 (h : RRd x n b M) : Mo_reads_11 N (g + 1) 0 d 0 M = if tKi x n b = 43 ∨ tKi x n b = 45 ∨ tKi x n b = 42 then Mo_reads_206 N (Mo_reads_11 N g) 0 d M else if tKi x n b = 60 ∨ tKi x n b = 61 then Mo_reads_263 N (Mo_reads_11 N g) 0 d 0 M else Mo_reads_304 N (Mo_reads_11 N g) 0 d 0 M := by
  rw [Mo_reads_11, if_pos rfl]
  have s : ∀ c : Int, 3 < c → Mo_isSign N 0 c M = some (if tKi x n b = c then 1 else 0, M) := fun c hc => r_isSign hc h.2.1 h.1
  rw [s 43 (by decide), zB_s, s 45 (by decide), zB_s, s 42 (by decide), zB_s, s 60 (by decide), zB_s, s 61 (by decide), zB_s]
  by_cases c1 : tKi x n b = 43
  · rw [if_pos c1, if_neg (by decide), if_pos (.inl c1)]
  · rw [if_neg c1, if_pos rfl]
    by_cases c2 : tKi x n b = 45
    · rw [if_pos c2, if_neg (by decide), if_pos (.inr (.inl c2))]
    · rw [if_neg c2, if_pos rfl]
      by_cases c3 : tKi x n b = 42
      · rw [if_pos c3, if_neg (by decide), if_pos (.inr (.inr c3))]
      · rw [if_neg c3, if_pos rfl, if_neg (show ¬ (tKi x n b = 43 ∨ tKi x n b = 45 ∨ tKi x n b = 42) by omega)]
        by_cases c4 : tKi x n b = 60
        · rw [if_pos c4, if_neg (by decide), if_pos (.inl c4)]
        · rw [if_neg c4, if_pos rfl]
          by_cases c5 : tKi x n b = 61
          · rw [if_pos c5, if_neg (by decide), if_pos (.inr c5)]
          · rw [if_neg c5, if_pos rfl, if_neg (by omega)]
theorem r11_1 (h : RRd x n b M) : Mo_reads_11 N (g + 1) 0 d 1 M = if tKi x n b = 2 ∨ tKi x n b = 40 ∨ tWd x n b = some 23 ∨ eFact x n b ≠ 0 then Mo_reads_65 N (Mo_reads_11 N g) 0 d 1 (- eFact x n b) (if tWd x n b = some 23 then 1 else 0) (if tKi x n b = 40 then 1 else 0) M else zB (Mo_fails N 0 1 M) fun v M1 => some (z_b1 v, M1) := by
  rw [Mo_reads_11, if_neg (by decide), r_fact h.2.1, zB_s, r_isWord 23 (by decide) (by decide +kernel) h.2.1, zB_s, r_isSign (by decide) h.2.1 h.1, zB_s]
  by_cases c1 : eFact x n b = 0
  · rw [if_pos (show - eFact x n b = 0 by omega)]
    by_cases c2 : tWd x n b = some 23
    · rw [if_pos c2, if_neg (by decide), if_pos (show tKi x n b = 2 ∨ tKi x n b = 40 ∨ tWd x n b = some 23 ∨ eFact x n b ≠ 0 from .inr (.inr (.inl c2)))]
    · rw [if_neg c2, if_pos rfl]
      by_cases c3 : tKi x n b = 40
      · rw [if_pos c3, if_neg (by decide), if_pos (show tKi x n b = 2 ∨ tKi x n b = 40 ∨ tWd x n b = some 23 ∨ eFact x n b ≠ 0 from .inr (.inl c3))]
      · rw [if_neg c3, if_pos rfl]
        by_cases c4 : tKi x n b = 2
        · rw [if_pos (h.2.1.w2.2 c4), if_pos (show tKi x n b = 2 ∨ tKi x n b = 40 ∨ tWd x n b = some 23 ∨ eFact x n b ≠ 0 from .inl c4)]
        · rw [if_neg (fun q => c4 (h.2.1.w2.1 q)), if_neg (show ¬ (tKi x n b = 2 ∨ tKi x n b = 40 ∨ tWd x n b = some 23 ∨ eFact x n b ≠ 0) from ?_)]
          intro q
          rcases q with q | q | q | q
          · exact c4 q
          · exact c3 q
          · exact c2 q
          · exact q c1
  · rw [if_neg (show ¬ (- eFact x n b = 0) by omega), if_pos (show tKi x n b = 2 ∨ tKi x n b = 40 ∨ tWd x n b = some 23 ∨ eFact x n b ≠ 0 from .inr (.inr (.inr c1)))]
/-- the reference reads so, after the codes l, and goes on at depth d' -/
def RX (N : Nat) (x : Nat → Int) (n : Nat) (F : Nat → Nat → Nat → Prop) (d' : Nat) (l : List Int) (M : ZM) (Q : Nat → ZM → Prop) (o : EO) (r : Option (Int × ZM)) : Prop := match o with
  | .inl e => ∃ M', r = some (0, M') ∧ mI M' 11 0 9 = e ∧ rTp n x M' ∧ zrF F M M'
  | .inr z => ∃ g' M', r = Mo_reads_11 N g' 0 (d' : Int) 0 M' ∧ n < g' + z.1 ∧ RQ x n z.1 (l ++ z.2.2) M' ∧ Q z.1 M' ∧ zrF F M M'
theorem RX.w {F : Nat → Nat → Nat → Prop} {d' : Nat} {Q : Nat → ZM → Prop} {o : EO} {r : Option (Int × ZM)} {M0 : ZM} (f : zrF F M0 M) (h : RX N x n F d' l M Q o r) : RX N x n F d' l M0 Q o r := by
  unfold RX at h ⊢
  cases o with
  | inl e => obtain ⟨M', a, b, c, g⟩ := h; exact ⟨M', a, b, c, f.tr g⟩
  | inr z => obtain ⟨g', M', a, b, c, e, g⟩ := h; exact ⟨g', M', a, b, c, e, f.tr g⟩
theorem RX.mo {F F' : Nat → Nat → Nat → Prop} {d' : Nat} {Q Q' : Nat → ZM → Prop} {o : EO} {r : Option (Int × ZM)} (h : RX N x n F d' l M Q o r) (hf : ∀ t i k, F t i k → F' t i k) (hq : ∀ b M', zrF F M M' → Q b M' → Q' b M') : RX N x n F' d' l M Q' o r := by
  unfold RX at h ⊢
  cases o with
  | inl e => obtain ⟨M', a, b, c, g⟩ := h; exact ⟨M', a, b, c, g.mo hf⟩
  | inr z => obtain ⟨g', M', a, b, c, e, g⟩ := h; exact ⟨g', M', a, b, c, hq _ _ g e, g.mo hf⟩
/-- a part is read so -/
def rGd (N : Nat) (x : Nat → Int) (n : Nat) (F : Nat → Nat → Nat → Prop) (d : Nat) (I : ZM → Prop) (Q : Nat → ZM → Prop) (pa : Nat → EO) : Prop := ∀ b l M g, RQ x n b l M → I M → n < g + b → RX N x n F d l M Q (pa b) (Mo_reads_11 N g 0 d 1 M)
theorem r_loop {sg : Nat → Option (Int × Int)} {pa : Nat → EO} {F : Nat → Nat → Nat → Prop} {I : ZM → Prop} {Q : Nat → ZM → Prop} (hs0 : ∀ b s, sg b = some s → tKi x n b ≠ 0) (hs : ∀ b s l M g, sg b = some s → RQ x n b l M → Q b M → ∃ M', Mo_reads_11 N (g + 1) 0 d 0 M = Mo_reads_11 N g 0 d 1 M' ∧ RQ x n (nb x n b) (l ++ [s.2]) M' ∧ I M' ∧ zrF F M M') (hp : rGd N x n F d I Q pa) (hgd : eGood n pa) (l : List Int) : ∀ (f b g : Nat) (u w : List Int) (M : ZM), RQ x n b (l ++ w) M → Q b M → n < b + f → n < g + b → RX N x n F d l M (fun b' M' => Q b' M' ∧ sg b' = none) (eLoop sg pa x n f b u w) (Mo_reads_11 N g 0 d 0 M) := by
  intro f
  induction f with
  | zero => intro b g u w M h _ h1; have := h.1.2.2; omega
  | succ f ih =>
    intro b g u w M h hq hf hg
    have hb := h.1.2.2
    rw [eLoop]
    cases hsg : sg b with
    | none => exact ⟨g, M, rfl, hg, h, ⟨hq, hsg⟩, zrF.rf M⟩
    | some s =>
      obtain ⟨g, rfl⟩ : ∃ g', g = g' + 1 := ⟨g - 1, by omega⟩
      obtain ⟨M1, e1, q1, i1, f1⟩ := hs b s (l ++ w) M g hsg h hq
      have h1 := nb_gt (hs0 b s hsg)
      rw [e1]
      have hx := hp (nb x n b) (l ++ w ++ [s.2]) M1 g q1 i1 (by omega)
      unfold RX at hx
      cases ho : pa (nb x n b) with
      | inl e =>
        rw [ho] at hx
        obtain ⟨M', a, c1, c2, k⟩ := hx
        exact ⟨M', a, c1, c2, f1.tr k⟩
      | inr z =>
        rw [ho] at hx
        obtain ⟨g', M', a, c1, c2, c3, k⟩ := hx
        rw [a]
        have hz := c2.1.2.2
        have c2' : RQ x n z.1 (l ++ (w ++ s.2 :: z.2.2)) M' := by
          have e : l ++ w ++ [s.2] ++ z.2.2 = l ++ (w ++ s.2 :: z.2.2) := by simp
          rw [← e]; exact c2
        have hz2 := hgd _ z (nb_le hb) ho
        exact (ih z.1 g' (u ++ z.2.1 ++ [s.1]) (w ++ s.2 :: z.2.2) M' c2' c3 (by omega) c1).w (f1.tr k)
theorem r_many {sg : Nat → Option (Int × Int)} {pa : Nat → EO} {F : Nat → Nat → Nat → Prop} {I : ZM → Prop} {Q : Nat → ZM → Prop} (hs0 : ∀ b s, sg b = some s → tKi x n b ≠ 0) (hs : ∀ b s l M g, sg b = some s → RQ x n b l M → Q b M → ∃ M', Mo_reads_11 N (g + 1) 0 d 0 M = Mo_reads_11 N g 0 d 1 M' ∧ RQ x n (nb x n b) (l ++ [s.2]) M' ∧ I M' ∧ zrF F M M') (hp : rGd N x n F d I Q pa) (hgd : eGood n pa) : rGd N x n F d I (fun b' M' => Q b' M' ∧ sg b' = none) (eMany sg pa x n) := by
  intro b l M g h hi hg
  have hb := h.1.2.2
  have hn := h.1.1.2.2
  have hx := hp b l M g h hi hg
  unfold eMany
  unfold RX at hx
  cases ho : pa b with
  | inl e =>
    rw [ho] at hx
    exact hx
  | inr z =>
    rw [ho] at hx
    obtain ⟨g', M', a, c1, c2, c3, k⟩ := hx
    rw [a]
    exact (r_loop hs0 hs hp hgd l 1001 z.1 g' z.2.1 z.2.2 M' c2 c3 (by omega) c1).w k
theorem r_237 {v : Int} {rec : Nat → Int → Int → ZM → Option (Int × ZM)} (h : RQ x n b l M) (h0 : tKi x n b ≠ 0) (hN : 2000 ≤ N) : ∃ M', Mo_reads_237 N rec 0 d 0 v M = rec 0 d 1 M' ∧ RQ x n (nb x n b) (l ++ [v]) M' ∧ zrF fY M M' := by
  have hl := h.l9 h0
  obtain ⟨M1, e1, h1, c1, f1⟩ := r_puts (N := N) (c := v) h.1 h.2.1 hl.1
  obtain ⟨M2, e2, h2, f2⟩ := r_next (N := N) h1 c1 (by simp only [List.length_append, List.length_cons, List.length_nil]; omega) hN
  refine ⟨M2, ?_, h2, f1.tr f2⟩
  unfold Mo_reads_237 Mo_reads_424
  rw [e1, zBv_s, e2, zBv_s]
theorem r_sg206 {v : Int} (h : RQ x n b l M) (c : (tKi x n b = 43 ∧ v = 20) ∨ (tKi x n b = 45 ∧ v = 21) ∨ (tKi x n b = 42 ∧ v = 22)) (hN : 2000 ≤ N) : ∃ M', Mo_reads_11 N (g + 1) 0 d 0 M = Mo_reads_11 N g 0 d 1 M' ∧ RQ x n (nb x n b) (l ++ [v]) M' ∧ zrF fY M M' := by
  have s : ∀ c : Int, 3 < c → Mo_isSign N 0 c M = some (if tKi x n b = c then 1 else 0, M) := fun c hc => r_isSign hc h.1.2.1 h.1.1
  rw [r11_0 h.1, if_pos (by omega)]
  unfold Mo_reads_206
  rw [s 43 (by decide), zB_s, s 45 (by decide), zB_s]
  obtain ⟨M', e, r⟩ := r_237 (v := v) (d := d) (rec := Mo_reads_11 N g) h (by omega) hN
  refine ⟨M', ?_, r⟩
  rcases c with ⟨c, rfl⟩ | ⟨c, rfl⟩ | ⟨c, rfl⟩
  · rw [if_pos c, if_neg (by decide), e]
  · rw [if_neg (show ¬ tKi x n b = 43 by omega), if_pos rfl, if_pos c, if_neg (by decide), e]
  · rw [if_neg (show ¬ tKi x n b = 43 by omega), if_pos rfl, if_neg (show ¬ tKi x n b = 45 by omega), if_pos rfl, e]
theorem RQ.p (h : RQ x n b l M) {t k : Nat} {v : Int} (hk : t = 62 ∨ t = 63) : RQ x n b l (pI M t 0 k v) := ⟨h.1.p (by omega) (by omega), h.2.1.gg (mI_pI_ne (by omega)) (fun i => mI_pI_ne (by omega)), h.2.2⟩
theorem zrF.p6 {d1 d2 k : Nat} {v : Int} (h : d1 < k) : zrF (fXr d1 d2) M (pI M 62 0 k v) := zrF.p (.inr (.inl ⟨rfl, rfl, h⟩))
theorem zrF.p7 {d1 d2 k : Nat} {v : Int} (h : d2 ≤ k) : zrF (fXr d1 d2) M (pI M 63 0 k v) := zrF.p (.inr (.inr ⟨rfl, rfl, h⟩))
theorem zrF.y67 (h : zrF fY M M') (k : Nat) : mI M' 62 0 k = mI M 62 0 k ∧ mI M' 63 0 k = mI M 63 0 k := ⟨h.2.2.1 _ _ _ (by unfold fY fRr; omega), h.2.2.1 _ _ _ (by unfold fY fRr; omega)⟩
theorem r_put63 {v y : Int} {rec : Nat → Int → Int → ZM → Option (Int × ZM)} (h : RQ x n b l M) (h0 : tKi x n b ≠ 0) (hN : 2000 ≤ N) (hd : d ≤ 6) : ∃ M', (zBv (Mo_puts N 0 v M) fun M101 => zI ((0 : Int) ≤ (d : Int) ∧ (d : Int) < 7) <| zW (pI M101 63 0 (d : Int).toNat y) fun M102 => Mo_reads_424 N rec 0 d 1 M102) = rec 0 d 1 M' ∧ RQ x n (nb x n b) (l ++ [v]) M' ∧ mI M' 63 0 d = y ∧ (∀ k, mI M' 62 0 k = mI M 62 0 k) ∧ zrF (fXr d d) M M' := by
  have hl := h.l9 h0
  obtain ⟨M1, e1, h1, c1, f1⟩ := r_puts (N := N) (c := v) h.1 h.2.1 hl.1
  have hl1 : (l ++ [v]).length ≤ nb x n b := by simp only [List.length_append, List.length_cons, List.length_nil]; omega
  obtain ⟨M2, e2, h2, f2⟩ := r_next (N := N) (M := pI M1 63 0 d y) (b := b) (x := x) (n := n) (h1.p (by decide) (by omega)) (c1.gg (mI_pI_ne (by omega)) (fun i => mI_pI_ne (by omega))) hl1 hN
  refine ⟨M2, ?_, h2, (f2.y67 d).2.trans mI_pI_eq, fun k => (f2.y67 k).1.trans ((mI_pI_ne (by omega)).trans (f1.y67 k).1), f1.y.tr ((zrF.p7 (Nat.le_refl d)).tr f2.y)⟩
  unfold Mo_reads_424
  rw [e1, zBv_s, zI_t (by omega), Int.toNat_natCast, zW_e, e2, zBv_s]
theorem r_sg263 {v : Int} (h : RQ x n b l M) (c : (tKi x n b = 60 ∧ v = 24) ∨ (tKi x n b = 61 ∧ v = 25)) (hN : 2000 ≤ N) (hd : d ≤ 6) (h6 : mI M 63 0 d = 0) : ∃ M', Mo_reads_11 N (g + 1) 0 d 0 M = Mo_reads_11 N g 0 d 1 M' ∧ RQ x n (nb x n b) (l ++ [v]) M' ∧ mI M' 63 0 d = 1 ∧ (∀ k, mI M' 62 0 k = mI M 62 0 k) ∧ zrF (fXr d d) M M' := by
  rw [r11_0 h.1, if_neg (show ¬ (tKi x n b = 43 ∨ tKi x n b = 45 ∨ tKi x n b = 42) by omega), if_pos (by omega)]
  unfold Mo_reads_263 Mo_reads_289
  rw [zI_t (by omega), Int.toNat_natCast, if_pos h6, r_isSign (by decide) h.1.2.1 h.1.1, zB_s]
  obtain ⟨M', e, r⟩ := r_put63 (v := v) (y := z_b1 1) (d := d) (rec := Mo_reads_11 N g) h (by omega) hN hd
  rw [Int.toNat_natCast] at e
  refine ⟨M', ?_, r⟩
  rcases c with ⟨c, rfl⟩ | ⟨c, rfl⟩
  · rw [if_pos c, if_neg (by decide), e]
  · rw [if_neg (show ¬ tKi x n b = 60 by omega), if_pos rfl, e]
theorem r_sg304 {v : Int} (h : RQ x n b l M) (c : (tWd x n b = some 24 ∧ v = 26) ∨ (tWd x n b = some 25 ∧ v = 27)) (hN : 2000 ≤ N) (hd : d ≤ 6) : ∃ M', Mo_reads_11 N (g + 1) 0 d 0 M = Mo_reads_11 N g 0 d 1 M' ∧ RQ x n (nb x n b) (l ++ [v]) M' ∧ mI M' 63 0 d = 0 ∧ (∀ k, mI M' 62 0 k = mI M 62 0 k) ∧ zrF (fXr d d) M M' := by
  have h1 : tKi x n b = 1 := by
    rcases c with c | c
    · exact ((tWd_iff (by decide)).1 c.1).1
    · exact ((tWd_iff (by decide)).1 c.1).1
  rw [r11_0 h.1, if_neg (show ¬ (tKi x n b = 43 ∨ tKi x n b = 45 ∨ tKi x n b = 42) by omega), if_neg (by omega)]
  unfold Mo_reads_304 Mo_reads_324 Mo_reads_342
  rw [r_isWord 24 (by decide) (by decide +kernel) h.1.2.1, zB_s, r_isWord 25 (by decide) (by decide +kernel) h.1.2.1, zB_s]
  obtain ⟨M', e, r⟩ := r_put63 (v := v) (y := z_b1 0) (d := d) (rec := Mo_reads_11 N g) h (by omega) hN hd
  refine ⟨M', ?_, r⟩
  rcases c with ⟨c, rfl⟩ | ⟨c, rfl⟩
  · rw [if_pos c, if_neg (by decide), r_isWord 24 (by decide) (by decide +kernel) h.1.2.1, zB_s, if_pos c, if_neg (by decide), e]
  · have c24 : ¬ tWd x n b = some 24 := by rw [c]; decide
    rw [if_neg c24, if_pos rfl, if_pos c, if_neg (by decide), r_isWord 24 (by decide) (by decide +kernel) h.1.2.1, zB_s, if_neg c24, if_pos rfl, e]
def rI6 (d : Nat) (v : Int) (M : ZM) : Prop := rOpn d M ∧ mI M 63 0 d = v
theorem rI6.y {v : Int} (h : rI6 d v M) (f : zrF fY M M') : rI6 d v M' := by
  unfold rI6 rOpn at h ⊢
  rw [(f.y67 d).1, (f.y67 d).2]
  exact h
theorem rI6.xx {v : Int} (h : rI6 d v M) (f : zrF (fXr d (d + 1)) M M') : rI6 d v M' := by
  unfold rI6 rOpn at h ⊢
  rw [f.2.2.1 62 0 d (by unfold fXr fY fRr; omega), f.2.2.1 63 0 d (by unfold fXr fY fRr; omega)]
  exact h
theorem r_prod {v : Int} {pa : Nat → EO} (hN : 2000 ≤ N) (hp : rGd N x n (fXr d (d + 1)) d (rI6 d v) (fun _ M => rI6 d v M) pa) (hg : eGood n pa) : rGd N x n (fXr d (d + 1)) d (rI6 d v) (fun b M => rI6 d v M ∧ sgP x n b = none) (eMany (sgP x n) pa x n) :=
  r_many sgP_0 (fun b s l M g hs h hq => by
    unfold sgP at hs
    split at hs
    · next c =>
      cases hs
      obtain ⟨M', e, r, f⟩ := r_sg206 (v := 22) (d := d) (g := g) h (by omega) hN
      exact ⟨M', e, r, hq.y f, f.y⟩
    · cases hs) hp hg
theorem r_sum {v : Int} {pa : Nat → EO} {Q : Nat → Prop} (hN : 2000 ≤ N) (hp : rGd N x n (fXr d (d + 1)) d (rI6 d v) (fun b M => rI6 d v M ∧ Q b) pa) (hg : eGood n pa) : rGd N x n (fXr d (d + 1)) d (rI6 d v) (fun b M => (rI6 d v M ∧ Q b) ∧ sgS x n b = none) (eMany (sgS x n) pa x n) :=
  r_many sgS_0 (fun b s l M g hs h hq => by
    unfold sgS at hs
    split at hs
    · next c =>
      cases hs
      obtain ⟨M', e, r, f⟩ := r_sg206 (v := 20) (d := d) (g := g) h (by omega) hN
      exact ⟨M', e, r, hq.1.y f, f.y⟩
    · split at hs
      · next c =>
        cases hs
        obtain ⟨M', e, r, f⟩ := r_sg206 (v := 21) (d := d) (g := g) h (by omega) hN
        exact ⟨M', e, r, hq.1.y f, f.y⟩
      · cases hs) hp hg
/-- at the end of a test -/
def rET (x : Nat → Int) (n d : Nat) (b : Nat) (M : ZM) : Prop := rOpn d M ∧ sgP x n b = none ∧ sgS x n b = none ∧ (sgT x n b = none ∨ mI M 63 0 d = 1)
theorem r_test {su : Nat → EO} (hN : 2000 ≤ N) (hd : d ≤ 6) (hp : ∀ v, rGd N x n (fXr d (d + 1)) d (rI6 d v) (fun b M => (rI6 d v M ∧ sgP x n b = none) ∧ sgS x n b = none) su) : rGd N x n (fXr d d) d (rI6 d 0) (rET x n d) (eTest su x n) := by
  intro b l M g h hi hg
  have hx := hp 0 b l M g h hi hg
  have wide : ∀ {M M'}, zrF (fXr d (d + 1)) M M' → zrF (fXr d d) M M' := fun f => f.xx (Nat.le_refl _) (by omega)
  unfold eTest
  unfold RX at hx
  cases ho : su b with
  | inl e =>
    rw [ho] at hx
    obtain ⟨M', a, c1, c2, k⟩ := hx
    exact ⟨M', a, c1, c2, wide k⟩
  | inr z =>
    rw [ho] at hx
    obtain ⟨g', M1, a, c1, c2, ⟨⟨c3, c4⟩, c5⟩, k⟩ := hx
    show RX N x n (fXr d d) d l M (rET x n d) (match sgT x n z.1 with
    | none => .inr z
    | some s => match su (nb x n z.1) with
      | .inl e => .inl e
      | .inr y => .inr (y.1, z.2.1 ++ y.2.1 ++ [s.1], z.2.2 ++ s.2 :: y.2.2)) _
    cases hsg : sgT x n z.1 with
    | none => exact ⟨g', M1, a, c1, c2, ⟨c3.1, c4, c5, .inl hsg⟩, wide k⟩
    | some s =>
      have hb := c2.1.2.2
      obtain ⟨g', rfl⟩ : ∃ g2, g' = g2 + 1 := ⟨g' - 1, by omega⟩
      have hs : (tKi x n z.1 = 60 ∧ s.2 = 24) ∨ (tKi x n z.1 = 61 ∧ s.2 = 25) := by
        unfold sgT at hsg
        split at hsg
        · next c => cases hsg; exact .inl ⟨c, rfl⟩
        · split at hsg
          · next c => cases hsg; exact .inr ⟨c, rfl⟩
          · cases hsg
      obtain ⟨M2, e2, q2, v2, o2, f2⟩ := r_sg263 (v := s.2) (d := d) (g := g') c2 hs hN hd c3.2
      have h1 := nb_gt (sgT_0 z.1 s hsg)
      rw [a, e2]
      have i2 : rI6 d 1 M2 := ⟨by have := c3.1; unfold rOpn at this ⊢; rw [o2]; exact this, v2⟩
      have hy := hp 1 (nb x n z.1) (l ++ z.2.2 ++ [s.2]) M2 g' q2 i2 (by omega)
      unfold RX at hy
      cases hoy : su (nb x n z.1) with
      | inl e =>
        rw [hoy] at hy
        obtain ⟨M', a, c1, c2, k'⟩ := hy
        exact ⟨M', a, c1, c2, (wide k).tr (f2.tr (wide k'))⟩
      | inr y =>
        rw [hoy] at hy
        obtain ⟨g3, M', a, e1, e2, ⟨⟨e3, e4⟩, e5⟩, k'⟩ := hy
        refine ⟨g3, M', a, e1, ?_, ⟨e3.1, e4, e5, .inr e3.2⟩, (wide k).tr (f2.tr (wide k'))⟩
        have e : l ++ z.2.2 ++ [s.2] ++ y.2.2 = l ++ (z.2.2 ++ s.2 :: y.2.2) := by simp
        show RQ x n y.1 (l ++ (z.2.2 ++ s.2 :: y.2.2)) M'
        rw [← e]
        exact e2
theorem r_expr {pa : Nat → EO} (hN : 2000 ≤ N) (hd : d ≤ 6) (hp : ∀ v, rGd N x n (fXr d (d + 1)) d (rI6 d v) (fun _ M => rI6 d v M) pa) (hg : eGood n pa) : rGd N x n (fXr d d) d (rI6 d 0) (fun b M => rET x n d b M ∧ sgE x n b = none) (eE pa x n) :=
  r_many sgE_0 (fun b s l M g hs h hq => by
    have fin : ∀ v : Int, (tWd x n b = some 24 ∧ v = 26) ∨ (tWd x n b = some 25 ∧ v = 27) → ∃ M', Mo_reads_11 N (g + 1) 0 d 0 M = Mo_reads_11 N g 0 d 1 M' ∧ RQ x n (nb x n b) (l ++ [v]) M' ∧ rI6 d 0 M' ∧ zrF (fXr d d) M M' := fun v hv => by
      obtain ⟨M', e, r, v, o, f⟩ := r_sg304 (d := d) (g := g) h hv hN hd
      exact ⟨M', e, r, ⟨by have := hq.1; unfold rOpn at this ⊢; rw [o]; exact this, v⟩, f⟩
    unfold sgE at hs
    split at hs
    · next c => cases hs; exact fin 26 (.inl ⟨c, rfl⟩)
    · split at hs
      · next c => cases hs; exact fin 27 (.inr ⟨c, rfl⟩)
      · cases hs) (r_test hN hd (fun v => r_sum hN (r_prod hN (hp v) hg) (eMany_g sgP_0 hg))) (eTest_g (eMany_g sgS_0 (eMany_g sgP_0 hg)))
/-- at the end of an E -/
theorem r_endE (h : RQ x n b l M) (hd : d ≤ 6) (hq : rET x n d b M ∧ sgE x n b = none) : Mo_reads_11 N (g + 1) 0 d 0 M = if tKi x n b = 41 ∧ 0 < d then (zBv (Mo_puts N 0 29 M) fun M104 => zW (z32 ((d : Int) + -1)) fun x105 => Mo_reads_379 N (Mo_reads_11 N g) N 0 x105 0 M104) else Mo_reads_399 N 0 d M := by
  obtain ⟨⟨h1, h2, h3, h4⟩, h5⟩ := hq
  have n42 : tKi x n b ≠ 42 := fun c => by unfold sgP at h2; rw [if_pos c] at h2; cases h2
  have n43 : tKi x n b ≠ 43 := fun c => by unfold sgS at h3; rw [if_pos c] at h3; cases h3
  have n45 : tKi x n b ≠ 45 := fun c => by unfold sgS at h3; rw [if_neg n43, if_pos c] at h3; cases h3
  have w24 : tWd x n b ≠ some 24 := fun c => by unfold sgE at h5; rw [if_pos c] at h5; cases h5
  have w25 : tWd x n b ≠ some 25 := fun c => by unfold sgE at h5; rw [if_neg w24, if_pos c] at h5; cases h5
  have e304 : Mo_reads_304 N (Mo_reads_11 N g) 0 d 0 M = if tKi x n b = 41 ∧ 0 < d then (zBv (Mo_puts N 0 29 M) fun M104 => zW (z32 ((d : Int) + -1)) fun x105 => Mo_reads_379 N (Mo_reads_11 N g) N 0 x105 0 M104) else Mo_reads_399 N 0 d M := by
    unfold Mo_reads_304
    rw [r_isWord 24 (by decide) (by decide +kernel) h.1.2.1, zB_s, if_neg w24, if_pos rfl, r_isWord 25 (by decide) (by decide +kernel) h.1.2.1, zB_s, if_neg w25, if_pos rfl, r_isSign (by decide) h.1.2.1 h.1.1, zB_s]
    by_cases c : tKi x n b = 41
    · rw [if_pos c, if_neg (by decide)]
      by_cases c2 : 0 < d
      · rw [if_pos (show (0 : Int) < (d : Int) by omega), if_pos ⟨c, c2⟩]
      · rw [if_neg (show ¬ (0 : Int) < (d : Int) by omega), if_neg (fun q => c2 q.2)]
    · rw [if_neg c, if_pos rfl, if_neg (fun q => c q.1)]
  rw [r11_0 h.1, if_neg (show ¬ (tKi x n b = 43 ∨ tKi x n b = 45 ∨ tKi x n b = 42) by omega)]
  by_cases c : tKi x n b = 60 ∨ tKi x n b = 61
  · have h6 : mI M 63 0 d = 1 := by
      rcases h4 with h4 | h4
      · exfalso
        unfold sgT at h4
        rcases c with c | c
        · rw [if_pos c] at h4; cases h4
        · rw [if_neg (by omega), if_pos c] at h4; cases h4
      · exact h4
    rw [if_pos c]
    unfold Mo_reads_263
    rw [zI_t (by omega), Int.toNat_natCast, h6, if_neg (by decide), e304]
  · rw [if_neg c, e304]
theorem r_418 (h : RRd x n b M) : ∃ M', Mo_reads_418 N 0 M = some (0, M') ∧ mI M' 11 0 9 = 1 + 16 * (b : Int) ∧ rTp n x M' ∧ zrF fRr M M' := by
  unfold Mo_reads_418
  obtain ⟨M', e1, r⟩ := r_fails (N := N) (e := 1) (by omega) h
  rw [e1, zB_s, zb10]
  exact ⟨M', rfl, r⟩
theorem zrF.ry {d1 d2 : Nat} (h : zrF fRr M M') : zrF (fXr d1 d2) M M' := h.mo (fun _ _ _ q => .inl (.inl q))
theorem rPt_gd {pa : Nat → EO} (h : ∀ b l M g, RQ x n b l M → n < g + b → RX N x n (fXr d (d + 1)) (r62 M d) l M (fun _ _ => True) (pa b) (Mo_reads_11 N g 0 d 1 M)) (v : Int) : rGd N x n (fXr d (d + 1)) d (rI6 d v) (fun _ M => rI6 d v M) pa := by
  intro b l M g hq hi hg
  have := h b l M g hq hg
  rw [hi.1.r] at this
  exact this.mo (fun _ _ _ q => q) (fun b M' f _ => hi.xx f)
theorem r_part (hN : 2000 ≤ N) : ∀ (k d : Nat), 6 ≤ d + k → d ≤ 5 → ∀ (b : Nat) (l : List Int) (M : ZM) (g : Nat), RQ x n b l M → n < g + b → RX N x n (fXr d (d + 1)) (r62 M d) l M (fun _ _ => True) (ePart x n k d b) (Mo_reads_11 N g 0 d 1 M) := by
  intro k
  induction k with
  | zero => intro d h1 h2; omega
  | succ k ih =>
    intro d h1 h2 b l M g h hg
    have hb := h.1.2.2
    obtain ⟨g, rfl⟩ : ∃ g', g = g' + 1 := ⟨g - 1, by omega⟩
    rw [ePart, r11_1 h.1]
    by_cases c0 : tKi x n b = 2 ∨ tKi x n b = 40 ∨ tWd x n b = some 23 ∨ eFact x n b ≠ 0
    · rw [if_pos c0, if_pos c0]
      have h0 : tKi x n b ≠ 0 := by
        rcases c0 with c | c | c | c
        · omega
        · omega
        · have := ((tWd_iff (by decide)).1 c).1; omega
        · intro e
          apply c
          have no : ∀ i, i < 30 → tWd x n b ≠ some i := fun i hi q => by have := ((tWd_iff hi).1 q).1; omega
          unfold eFact
          rw [if_neg (no 26 (by decide)), if_neg (no 27 (by decide)), if_neg (no 28 (by decide)), if_neg (no 29 (by decide))]
      have hl := h.l9 h0
      have g1 := nb_gt h0
      unfold Mo_reads_65
      by_cases c1 : d < 5
      · rw [if_pos c1, if_neg (show ¬ (d : Int) = 5 by omega)]
        have k147 : ∀ v : Int, ∃ M', Mo_reads_147 N (Mo_reads_11 N g) 0 d 0 v M = Mo_reads_11 N g 0 (r62 M d : Nat) 0 M' ∧ RQ x n (nb x n b) (l ++ [v]) M' ∧ zrF fY M M' := by
          intro v
          obtain ⟨M1, e1, p1, q1, f1⟩ := r_puts (N := N) (c := v) h.1 h.2.1 hl.1
          obtain ⟨M2, e2, p2, f2⟩ := r_next (N := N) p1 q1 (by simp only [List.length_append, List.length_cons, List.length_nil]; omega) hN
          refine ⟨M2, ?_, p2, f1.tr f2⟩
          unfold Mo_reads_147
          rw [e1, zBv_s, r_152 d N (by omega) (by omega)]
          unfold Mo_reads_172
          rw [e2, zBv_s, r62_c d (fun k _ => (f1.y67 k).1)]
        have k99 : ∀ (v x4 : Int) (c y : Int), (if x4 = 0 then (2 : Int) else 1) = c → ∃ M', Mo_reads_99 N (Mo_reads_11 N g) 0 d 1 x4 0 v M = Mo_reads_11 N g 0 ((d + 1 : Nat) : Int) 1 M' ∧ RQ x n (nb x n b) (l ++ [v]) M' ∧ mI M' 62 0 (d + 1) = c ∧ mI M' 63 0 (d + 1) = 0 ∧ zrF (fXr d (d + 1)) M M' := by
          intro v x4 c y hc
          obtain ⟨M1, e1, p1, q1, f1⟩ := r_puts (N := N) (c := v) h.1 h.2.1 hl.1
          obtain ⟨M2, e2, p2, f2⟩ := r_next (N := N) (M := pI (pI M1 62 0 (d + 1) c) 63 0 (d + 1) 0) ((p1.p (by decide) (by omega)).p (by decide) (by omega)) ((q1.gg (mI_pI_ne (by omega)) (fun i => mI_pI_ne (by omega))).gg (mI_pI_ne (by omega)) (fun i => mI_pI_ne (by omega))) (by simp only [List.length_append, List.length_cons, List.length_nil]; omega) hN
          refine ⟨M2, ?_, p2, (f2.y67 _).1.trans ((mI_pI_ne (by omega)).trans mI_pI_eq), (f2.y67 _).2.trans mI_pI_eq, f1.y.tr ((zrF.p6 (by omega)).tr ((zrF.p7 (by omega)).tr f2.y))⟩
          unfold Mo_reads_99
          rw [e1, zBv_s, zsucc (by omega), zW_e]
          unfold Mo_reads_172
          by_cases c4 : x4 = 0
          · rw [if_pos c4] at hc ⊢
            subst hc
            rw [zI_t (by omega), zW_e, zI_t (by omega), zW_e, Int.toNat_natCast, zb10, e2, zBv_s]
          · rw [if_neg c4] at hc ⊢
            subst hc
            rw [zI_t (by omega), zW_e, zI_t (by omega), zW_e, Int.toNat_natCast, zb10, e2, zBv_s]
        by_cases c2 : tKi x n b = 40
        · have nw : tWd x n b ≠ some 23 := fun q => by have := ((tWd_iff (by decide)).1 q).1; omega
          rw [if_pos c2, if_pos c2, if_neg nw, if_pos rfl, if_neg (by decide), if_pos rfl]
          obtain ⟨M1, e1, q1, v62, v63, f1⟩ := k99 28 0 2 0 rfl
          rw [e1]
          have hgd := r_expr (d := d + 1) (x := x) (n := n) hN (by omega) (rPt_gd (ih (d + 1) (by omega) (by omega))) (ePart_g k (d + 1))
          have hx := hgd (nb x n b) (l ++ [28]) M1 g q1 ⟨.inr (by rw [v62]; decide), v63⟩ (by omega)
          have wide : ∀ {M M'}, zrF (fXr (d + 1) (d + 1)) M M' → zrF (fXr d (d + 1)) M M' := fun f => f.xx (by omega) (Nat.le_refl _)
          unfold RX at hx
          cases ho : eE (ePart x n k (d + 1)) x n (nb x n b) with
          | inl e =>
            rw [ho] at hx
            obtain ⟨M', a, c1, c2, k⟩ := hx
            exact ⟨M', a, c1, c2, f1.tr (wide k)⟩
          | inr z =>
            rw [ho] at hx
            obtain ⟨g', M2, a, d1, d2, d3, kk⟩ := hx
            have hz := d2.1.2.2
            obtain ⟨g', rfl⟩ : ∃ g2, g' = g2 + 1 := ⟨g' - 1, by omega⟩
            rw [a, r_endE d2 (by omega) d3]
            show RX N x n (fXr d (d + 1)) (r62 M d) l M (fun _ _ => True) (if tKi x n z.1 = 41 then .inr (nb x n z.1, z.2.1, 28 :: (z.2.2 ++ [29])) else .inl (1 + 16 * (z.1 : Int))) _
            by_cases c3 : tKi x n z.1 = 41
            · have hl2 := d2.l9 (by omega)
              have g2 := nb_gt (x := x) (n := n) (b := z.1) (by omega)
              rw [if_pos c3, if_pos ⟨c3, by omega⟩]
              obtain ⟨M3, e3, p3, q3, f3⟩ := r_puts (N := N) (c := 29) d2.1 d2.2.1 hl2.1
              obtain ⟨M4, e4, p4, f4⟩ := r_next (N := N) p3 q3 (by simp only [List.length_append, List.length_cons, List.length_nil] at hl2 ⊢; omega) hN
              have ed : z32 (((d + 1 : Nat) : Int) + -1) = (d : Int) := by rw [zs (by omega)]; omega
              rw [e3, zBv_s, ed, zW_e, r_379 d N (by omega) (by omega)]
              clear ed
              unfold Mo_reads_424
              have hr : r62 M3 d = r62 M d := r62_c d (fun j hj => ((f3.y67 j).1.trans (kk.2.2.1 _ _ _ (by unfold fXr fY fRr; omega))).trans (f1.2.2.1 _ _ _ (by unfold fXr fY fRr; omega)))
              rw [e4, zBv_s, hr]
              have el : l ++ [28] ++ z.2.2 ++ [29] = l ++ 28 :: (z.2.2 ++ [29]) := by simp
              rw [el] at p4
              exact ⟨g', M4, rfl, by show n < g' + nb x n z.1; omega, p4, trivial, f1.tr ((wide kk).tr (f3.y.tr f4.y))⟩
            · rw [if_neg c3, if_neg (fun q => c3 q.1)]
              unfold Mo_reads_399
              rw [if_neg (by omega)]
              obtain ⟨M3, e3, w1, w2, w3⟩ := r_418 (N := N) d2.1
              exact ⟨M3, e3, w1, w2, f1.tr ((wide kk).tr w3.ry)⟩
        · rw [if_neg c2, if_neg c2]
          by_cases c3 : tWd x n b = some 23
          · rw [if_pos c3, if_pos c3, if_neg (by decide), if_neg (by decide)]
            obtain ⟨M1, e1, q1, v62, v63, f1⟩ := k99 30 1 1 0 rfl
            rw [e1]
            have hx := ih (d + 1) (by omega) (by omega) (nb x n b) (l ++ [30]) M1 g q1 (by omega)
            have wide : ∀ {M M'}, zrF (fXr (d + 1) (d + 1 + 1)) M M' → zrF (fXr d (d + 1)) M M' := fun f => f.xx (by omega) (by omega)
            have hr : r62 M1 (d + 1) = r62 M d := by
              rw [r62, if_pos v62]
              exact r62_c d (fun j hj => f1.2.2.1 _ _ _ (by unfold fXr fY fRr; omega))
            rw [hr] at hx
            unfold RX at hx
            cases ho : ePart x n k (d + 1) (nb x n b) with
            | inl e =>
              rw [ho] at hx
              obtain ⟨M', a, c1, c2, k⟩ := hx
              exact ⟨M', a, c1, c2, f1.tr (wide k)⟩
            | inr z =>
              rw [ho] at hx
              obtain ⟨g', M2, a, d1, d2, d3, kk⟩ := hx
              refine ⟨g', M2, a, d1, ?_, trivial, f1.tr (wide kk)⟩
              have el : l ++ [30] ++ z.2.2 = l ++ 30 :: z.2.2 := by simp
              show RQ x n z.1 (l ++ 30 :: z.2.2) M2
              rw [← el]
              exact d2
          · rw [if_neg c3, if_neg c3, if_pos rfl, if_pos rfl]
            by_cases c4 : tKi x n b = 2
            · have hf : eFact x n b = 0 := by
                have no : ∀ i, i < 30 → tWd x n b ≠ some i := fun i hi q => by have := ((tWd_iff hi).1 q).1; omega
                unfold eFact
                rw [if_neg (no 26 (by decide)), if_neg (no 27 (by decide)), if_neg (no 28 (by decide)), if_neg (no 29 (by decide))]
              have hv := wV_b c4
              rw [if_pos c4, if_neg (show ¬ (0 : Int) < - eFact x n b by omega), h.1.v c4, zs (by omega)]
              obtain ⟨M1, e1, q1, f1⟩ := k147 (100 + wV x n b)
              rw [e1]
              exact ⟨g, M1, rfl, by show n < g + nb x n b; omega, q1, trivial, f1.y⟩
            · have hf : eFact x n b ≠ 0 := by
                rcases c0 with c | c | c | c
                · exact absurd c c4
                · exact absurd c c2
                · exact absurd c c3
                · exact c
              have hv : eFact x n b < 0 := by
                unfold eFact at hf ⊢
                split
                · omega
                · split
                  · omega
                  · split
                    · omega
                    · split
                      · omega
                      · simp_all
              rw [if_neg c4, if_pos (show (0 : Int) < - eFact x n b by omega)]
              obtain ⟨M1, e1, q1, f1⟩ := k147 (- eFact x n b)
              rw [e1]
              exact ⟨g, M1, rfl, by show n < g + nb x n b; omega, q1, trivial, f1.y⟩
      · rw [if_neg c1, if_pos (show (d : Int) = 5 by omega)]
        obtain ⟨M3, d1, d2, d3, d4⟩ := r_fails (N := N) (e := 5) (by omega) h.1
        rw [d1, zB_s, zb10]
        exact ⟨M3, rfl, d2, d3, d4.ry⟩
    · rw [if_neg c0, if_neg c0]
      obtain ⟨M3, d1, d2, d3, d4⟩ := r_fails (N := N) (e := 1) (by omega) h.1
      rw [d1, zB_s, zb10]
      exact ⟨M3, rfl, d2, d3, d4.ry⟩
/-- what the line of a law comes to: an error, or the next place and the codes -/
def oGiv (x : Nat → Int) (n b : Nat) : EO := match eE (ePart x n 7 0) x n b with
  | .inl e => .inl e
  | .inr z => if tKi x n z.1 = 59 then .inr (nb x n z.1, z.2.1, z.2.2) else .inl (1 + 16 * (z.1 : Int))
theorem r_reads (h : RQ x n b [] M) (hN : 2000 ≤ N) : match oGiv x n b with
  | .inl e => ∃ M', Mo_reads N 0 M = some (0, M') ∧ mI M' 11 0 9 = e ∧ rTp n x M' ∧ zrF (fXr 0 0) M M'
  | .inr z => ∃ M', Mo_reads N 0 M = some (1, M') ∧ RQ x n z.1 z.2.2 M' ∧ zrF (fXr 0 0) M M' := by
  have hb := h.1.2.2
  have hn := h.1.1.2.2
  unfold Mo_reads oGiv
  rw [zb10, zW_e]
  have f0 : zrF (fXr 0 0) M (pI M 63 0 0 0) := zrF.p7 (Nat.le_refl 0)
  have hx := r_expr (d := 0) (x := x) (n := n) hN (by omega) (rPt_gd (r_part hN 7 0 (by omega) (by omega))) (ePart_g 7 0) b [] (pI M 63 0 0 0) N (h.p (.inr rfl)) ⟨.inl rfl, mI_pI_eq⟩ (by omega)
  unfold RX at hx
  cases ho : eE (ePart x n 7 0) x n b with
  | inl e =>
    rw [ho] at hx
    obtain ⟨M', a, c1, c2, k⟩ := hx
    exact ⟨M', a, c1, c2, f0.tr k⟩
  | inr z =>
    rw [ho] at hx
    obtain ⟨g', M2, a, d1, d2, d3, kk⟩ := hx
    have hz := d2.1.2.2
    obtain ⟨g', rfl⟩ : ∃ g2, g' = g2 + 1 := ⟨g' - 1, by omega⟩
    rw [List.nil_append] at d2
    have a' := a.trans (r_endE d2 (by omega) d3)
    rw [if_neg (fun q => by omega)] at a'
    unfold Mo_reads_399 at a'
    rw [if_pos (show ((0 : Nat) : Int) = 0 from rfl), r_isSign (by decide) d2.1.2.1 d2.1.1, zB_s] at a'
    dsimp only
    by_cases c3 : tKi x n z.1 = 59
    · rw [if_pos c3]
      rw [if_pos c3, if_neg (by decide)] at a'
      have g2 := nb_gt (x := x) (n := n) (b := z.1) (by omega)
      obtain ⟨M4, e4, p4, f4⟩ := r_next (N := N) d2.1 d2.2.1 (by have := d2.2.2; omega) hN
      rw [e4, zBv_s] at a'
      exact ⟨M4, a', p4, f0.tr (kk.tr f4.y)⟩
    · rw [if_neg c3]
      rw [if_neg c3, if_pos rfl] at a'
      obtain ⟨M3, e3, w1, w2, w3⟩ := r_418 (N := N) d2.1
      exact ⟨M3, a'.trans e3, w1, w2, f0.tr (kk.tr w3.ry)⟩
end REXP
