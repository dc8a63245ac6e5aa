def fLi (a t : Nat) (t' i k : Nat) : Bool := (t' == 36 && i == a && decide (5 * t ≤ k) && decide (k < 5 * t + 5)) || (t' == 37 && i == a && k == t)
/-- tries of one -/
def tO1 (P : PK) (S : SK) (o : Int) (i : Nat) (w : Nat) (tr : Nat → Int) : Prop := 1 ≤ w ∧ w ≤ 5 ∧ (∀ r, r < w → 0 ≤ tr r ∧ tr r ≤ 4) ∧ (mOwn P o i = false → w = 1 ∧ tr 0 = sA S i) ∧ (∀ r r', r < r' → r' < w → tr r < tr r') ∧ (mOwn P o i = true → ∀ a : Nat, a < 5 → ∃ r, r < w ∧ tr r ≤ a ∧ aAl P S i a (tr r))
theorem aAl.sy {P : PK} {S : SK} {t : Nat} {x y : Int} (h : aAl P S t x y) : aAl P S t y x := ⟨fun j hj => (h.1 j hj).symm, fun d hd => (h.2 d hd).symm⟩
theorem aAl.tr {P : PK} {S : SK} {t : Nat} {x y z : Int} (h : aAl P S t x y) (h' : aAl P S t y z) : aAl P S t x z := ⟨fun j hj => (h.1 j hj).trans (h'.1 j hj), fun d hd => (h.2 d hd).trans (h'.2 d hd)⟩
section STRY
variable {N c p a : Nat} {P : PK} {S : SK} {M : ZM}
theorem sTb_g {t : Nat} {M M' : ZM} (h : sTb P S a t M) (e : ∀ t' k, (t' = 34 ∧ 30 * t ≤ k ∧ k < 30 * t + 30) ∨ (t' = 35 ∧ 50 * t ≤ k ∧ k < 50 * t + 50) → mI M' t' a k = mI M t' a k) (h6 : qN P ≤ 6) : sTb P S a t M' := fun x hx => ⟨fun j hj => (e _ _ (by omega)).trans ((h x hx).1 j hj), fun d hd => (e _ _ (by omega)).trans ((h x hx).2 d hd)⟩
theorem s_put {t x w : Nat} (ht : t < 6) (hw : w < 5) (hx : x < 5) {n cnt : Nat} {f : Int} {rec15 : Nat → Int → Int → Int → Int → Int → ZM → Option ZM} (h37 : mI M 37 a t = (w : Int)) : Se_listTries_46 N rec15 a t cnt f ((5 * t : Nat) : Int) x M = rec15 a t cnt f ((5 * t : Nat) : Int) ((x + 1 : Nat) : Int) (pI (pI M 36 a (5 * t + w) x) 37 a t ((w + 1 : Nat) : Int)) := by
  unfold Se_listTries_46
  have e1 : z32 (((5 * t : Nat) : Int) + (w : Int)) = ((5 * t + w : Nat) : Int) := by rw [zs (by omega)]; omega
  have i6 : (0 : Int) ≤ (t : Int) ∧ (t : Int) < 6 := by omega
  rw [zI_t i6, Int.toNat_natCast, h37, e1]
  clear e1
  simp only [zW_e, Int.toNat_natCast]
  rw [zI_t (by omega), zI_t i6, zI_t i6, mI_pI_ne (by omega), h37, zsucc (by omega), zsucc (by omega)]
theorem s_li15 (hv : VP P) (hN : 2000 ≤ N) {t : Nat} (ht : t < qN P) : ∀ (n x w : Nat) (tr : Nat → Int) (M : ZM), sTb P S a t M → mI M 37 a t = (w : Int) → w ≤ x → (∀ r, r < w → mI M 36 a (5 * t + r) = tr r ∧ 0 ≤ tr r ∧ tr r < x) → (∀ r r', r < r' → r' < w → tr r < tr r') → (∀ y : Nat, y < x → ∃ r, r < w ∧ tr r ≤ y ∧ aAl P S t y (tr r)) → x ≤ 5 → 5 - x < n → ∃ (M' : ZM) (w' : Nat) (tr' : Nat → Int), Se_listTries_15 N n a t (qN P : Nat) (-1) ((5 * t : Nat) : Int) x M = some M' ∧ zfr (fLi a t) M M' ∧ mI M' 37 a t = ((w' : Nat) : Int) ∧ (∀ r, r < w' → mI M' 36 a (5 * t + r) = tr' r) ∧ 1 ≤ w' ∧ w' ≤ 5 ∧ (∀ r, r < w' → 0 ≤ tr' r ∧ tr' r ≤ 4) ∧ (∀ r r', r < r' → r' < w' → tr' r < tr' r') ∧ (∀ y : Nat, y < 5 → ∃ r, r < w' ∧ tr' r ≤ y ∧ aAl P S t y (tr' r)) := by
  intro n
  induction n with
  | zero => intros; omega
  | succ n ih =>
    intro x w tr M hT h37 hw h36 hmo hcv hx hn
    have h6 := hv.n
    unfold Se_listTries_15
    by_cases e : x = 5
    · subst e
      rw [if_neg (by omega)]
      obtain ⟨r0, hr0, _⟩ := hcv 0 (by omega)
      exact ⟨M, w, tr, rfl, zfr.rf M, h37, fun r hr => (h36 r hr).1, by omega, by omega, fun r hr => by have := (h36 r hr).2; omega, hmo, hcv⟩
    · unfold Se_isNew
      obtain ⟨v, e1, hvv⟩ := s_new3 (N := N) hv hN ht (x := x) (by omega) hT N 0 (by omega) (by omega) (fun y hy => by omega)
      rw [show ((0 : Nat) : Int) = 0 from rfl] at e1
      rw [if_pos (by omega), if_pos rfl, e1, zB_s]
      rcases hvv with ⟨rfl, hnew⟩ | ⟨rfl, y, hy, hal⟩
      · rw [if_neg (by decide), s_put (n := n) (by omega) (by omega) (by omega) h37]
        have f1 : zfr (fLi a t) M (pI (pI M 36 a (5 * t + w) (x : Int)) 37 a t ((w + 1 : Nat) : Int)) := ((zfr.rf M).pI (by simp [fLi]; omega)).pI (by simp [fLi])
        obtain ⟨M', w', tr', e2, f2, g2⟩ := ih (x + 1) (w + 1) (fun r => if r = w then (x : Int) else tr r) (pI (pI M 36 a (5 * t + w) (x : Int)) 37 a t ((w + 1 : Nat) : Int)) (sTb_g hT (fun t' k h => by rw [mI_pI_ne (by omega), mI_pI_ne (by omega)]) h6) mI_pI_eq (by omega) (fun r hr => by
          rw [mI_pI_ne (by omega), mI_pI]
          by_cases e4 : r = w
          · rw [if_pos (by omega), if_pos e4]; omega
          · rw [if_neg (by omega), if_neg e4]
            have := h36 r (by omega)
            omega) (fun r r' h1 h2 => by
          by_cases e4 : r' = w
          · have := (h36 r (by omega)).2
            rw [if_neg (by omega), if_pos e4]; omega
          · rw [if_neg (by omega), if_neg e4]
            exact hmo r r' h1 (by omega)) (fun y hy => by
          by_cases e4 : y = x
          · exact ⟨w, by omega, by rw [if_pos rfl, e4]; omega, by rw [if_pos rfl, e4]; exact aAl_rf⟩
          · obtain ⟨r, r1, r2, r3⟩ := hcv y (by omega)
            exact ⟨r, by omega, by rw [if_neg (by omega)]; exact r2, by rw [if_neg (by omega)]; exact r3⟩) (by omega) (by omega)
        exact ⟨M', w', tr', e2, f1.tr f2, g2⟩
      · rw [if_pos rfl]
        simp only [zW_e]
        rw [zsucc (by omega)]
        exact ih (x + 1) w tr M hT h37 (by omega) (fun r hr => by have := h36 r hr; omega) hmo (fun y' hy' => by
          by_cases e4 : y' = x
          · obtain ⟨r, r1, r2, r3⟩ := hcv y hy
            exact ⟨r, r1, by omega, by rw [e4]; exact hal.sy.tr r3⟩
          · exact hcv y' (by omega)) (by omega) (by omega)
theorem s_lf15 (hv : VP P) (hN : 2000 ≤ N) {t f : Nat} (ht : t < qN P) (hf : f < 5) : ∀ (n x : Nat) (M : ZM), mI M 37 a t = (if f < x then 1 else 0) → (f < x → mI M 36 a (5 * t) = f) → x ≤ 5 → 5 - x < n → ∃ M', Se_listTries_15 N n a t (qN P : Nat) (f : Int) ((5 * t : Nat) : Int) x M = some M' ∧ zfr (fLi a t) M M' ∧ mI M' 37 a t = 1 ∧ mI M' 36 a (5 * t) = f := by
  intro n
  induction n with
  | zero => intros; omega
  | succ n ih =>
    intro x M h37 h36 hx hn
    have h6 := hv.n
    unfold Se_listTries_15
    by_cases e : x = 5
    · subst e
      rw [if_neg (by omega)]
      exact ⟨M, rfl, zfr.rf M, by rw [h37, if_pos hf], h36 hf⟩
    · rw [if_pos (by omega), if_neg (by omega)]
      by_cases b : x = f
      · subst b
        rw [if_neg (by omega)] at h37
        rw [if_pos rfl, s_put (n := n) (w := 0) (by omega) (by omega) (by omega) h37]
        have f1 : zfr (fLi a t) M (pI (pI M 36 a (5 * t + 0) (x : Int)) 37 a t ((0 + 1 : Nat) : Int)) := ((zfr.rf M).pI (by simp [fLi])).pI (by simp [fLi])
        obtain ⟨M', e2, f2, g2⟩ := ih (x + 1) (pI (pI M 36 a (5 * t + 0) (x : Int)) 37 a t ((0 + 1 : Nat) : Int)) (by rw [mI_pI_eq, if_pos (by omega)]; rfl) (fun _ => by rw [mI_pI_ne (by omega), Nat.add_zero, mI_pI_eq]) (by omega) (by omega)
        exact ⟨M', e2, f1.tr f2, g2⟩
      · rw [if_neg (by omega)]
        simp only [zW_e]
        rw [zsucc (by omega)]
        refine ih (x + 1) M ?_ (fun h => h36 (by omega)) (by omega) (by omega)
        rw [h37]
        by_cases e2 : f < x
        · rw [if_pos e2, if_pos (by omega)]
        · rw [if_neg e2, if_neg (by omega)]
/-- tries of t are laid; fixed: -1, or its angle -/
theorem s_list (hv : VP P) (hz : VS c P S) (hN : 2000 ≤ N) {t : Nat} {o : Int} (ht : t < qN P) (hT : sTb P S a t M) : ∃ (M' : ZM) (w : Nat) (tr : Nat → Int), Se_listTries N a t (qN P : Nat) (if mOwn P o t = true then -1 else sA S t) M = some M' ∧ zfr (fLi a t) M M' ∧ mI M' 37 a t = ((w : Nat) : Int) ∧ (∀ r, r < w → mI M' 36 a (5 * t + r) = tr r) ∧ tO1 P S o t w tr := by
  have h6 := hv.n
  unfold Se_listTries
  have e1 : z32 ((t : Int) * 5) = ((5 * t : Nat) : Int) := by rw [zs (by omega)]; omega
  rw [e1]
  clear e1
  simp only [zW_e, Int.toNat_natCast]
  rw [zI_t (by omega)]
  have f1 : zfr (fLi a t) M (pI M 37 a t 0) := (zfr.rf M).pI (by simp [fLi])
  by_cases b : mOwn P o t = true
  · rw [if_pos b]
    obtain ⟨M', w, tr, e2, f2, g1, g2, g3, g4, g5, g7, g8⟩ := s_li15 (N := N) (S := S) hv hN ht N 0 0 (fun _ => 0) (pI M 37 a t 0) (sTb_g hT (fun t' k h => by rw [mI_pI_ne (by omega)]) h6) mI_pI_eq (by omega) (fun r hr => by omega) (fun r r' _ hr => by omega) (fun y hy => by omega) (by omega) (by omega)
    exact ⟨M', w, tr, e2, f1.tr f2, g1, g2, g3, g4, g5, fun h => (by rw [b] at h; cases h), g7, fun _ => g8⟩
  · rw [if_neg b]
    have ha := hz.a (k := t) (by omega)
    obtain ⟨f, hf⟩ : ∃ f : Nat, sA S t = f := ⟨(sA S t).toNat, by omega⟩
    rw [hf]
    obtain ⟨M', e2, f2, g1, g2⟩ := s_lf15 (N := N) (a := a) hv hN ht (f := f) (by omega) N 0 (pI M 37 a t 0) (by rw [mI_pI_eq, if_neg (by omega)]) (fun h => by omega) (by omega) (by omega)
    refine ⟨M', 1, fun _ => (f : Int), e2, f1.tr f2, g1, fun r hr => ?_, by omega, by omega, fun r _ => by show (0 : Int) ≤ (f : Int) ∧ (f : Int) ≤ 4; omega, fun _ => ⟨rfl, hf.symm⟩, fun r r' h1 h2 => by omega, fun h => absurd h b⟩
    have : r = 0 := by omega
    rw [this, Nat.add_zero]; exact g2
/-- a search as far as turbine k -/
def sOk (P : PK) (S : SK) (o : Int) (a k : Nat) (wd : Nat → Nat) (tr : Nat → Nat → Int) (M : ZM) : Prop := ∀ u, u < k → sTb P S a u M ∧ mI M 37 a u = (wd u : Int) ∧ (∀ r, r < wd u → mI M 36 a (5 * u + r) = tr u r) ∧ tO1 P S o u (wd u) (tr u)
theorem sOk_g {o : Int} {k : Nat} {wd : Nat → Nat} {tr : Nat → Nat → Int} {M M' : ZM} (h : sOk P S o a k wd tr M) (hk : k ≤ qN P) (h6 : qN P ≤ 6) (e : ∀ t' i, (t' = 34 ∧ i < 30 * k) ∨ (t' = 35 ∧ i < 50 * k) ∨ (t' = 36 ∧ i < 5 * k) ∨ (t' = 37 ∧ i < k) → mI M' t' a i = mI M t' a i) : sOk P S o a k wd tr M' := fun u hu => by
  obtain ⟨h1, h2, h3, h4⟩ := h u hu
  exact ⟨sTb_g h1 (fun t' i h => e t' i (by omega)) h6, (e _ _ (by omega)).trans h2, fun r hr => (e _ _ (by have := h4.2.1; omega)).trans (h3 r hr), h4⟩
/-- search a's own rows but the first row of sums, and what is measured -/
def fZ (a t i k : Nat) : Bool := fF t i k || (i == a && ((t == 6 && k == 1) || (33 ≤ t && t ≤ 38) || (t == 39 && decide (6 ≤ k))))
theorem fZ_p {a : Nat} : ∀ t i k, t = 3 ∨ t = 4 ∨ t = 26 ∨ (28 ≤ t ∧ t ≤ 32) → fZ a t i k = false := by
  intro t i k h; simp [fZ, fF]; omega
theorem fZ_s {a b : Nat} : ∀ t k, t = 7 ∨ t = 40 ∨ t = 41 → fZ a t b k = false := by
  intro t k h; simp [fZ, fF]; omega
theorem fFo_Z {a t : Nat} : ∀ t' i k, fZ a t' i k = false → fFo a t t' i k = false := by
  intro t' i k h; simp [fZ, fF] at h; simp [fFo]; omega
theorem fLi_Z {a t : Nat} : ∀ t' i k, fZ a t' i k = false → fLi a t t' i k = false := by
  intro t' i k h; simp [fZ, fF] at h; simp [fLi]; omega
theorem s_seek3 (hv : VP P) (hz : VS c P S) (hN : 2000 ≤ N) {o : Int} (ho : 0 ≤ o ∧ o ≤ 2) : ∀ (n i : Nat) (wd : Nat → Nat) (tr : Nat → Nat → Int) (M : ZM), KM M → CP p P M → CS 0 S M → sOk P S o a i wd tr M → (∀ u, u < i → mI M 38 a u = 0) → i ≤ qN P → qN P - i < n → ∃ (M' : ZM) (wd : Nat → Nat) (tr : Nat → Nat → Int), Se_seek_3 N n a p 0 0 o i M = Se_seek_3 N 1 a p 0 0 o (qN P : Nat) M' ∧ zfr (fZ a) M M' ∧ sOk P S o a (qN P) wd tr M' ∧ (∀ u, u < qN P → mI M' 38 a u = 0) := by
  intro n
  induction n with
  | zero => intros; omega
  | succ n ih =>
    intro i wd tr M hk hp hs hO h38 hi hn
    have h6 := hv.n
    by_cases e : i = qN P
    · subst e
      refine ⟨M, wd, tr, ?_, zfr.rf M, hO, h38⟩
      unfold Se_seek_3
      rw [hp.n, if_neg (by omega), if_neg (by omega)]
    · have hiN : i < qN P := by omega
      unfold Se_seek_3
      rw [hp.n, if_pos (by omega)]
      obtain ⟨M1, e1, f1, g1⟩ := s_foresee (N := N) (a := a) hv hz hN hiN hp hs
      rw [e1, zBv_s]
      have hp1 := hp.fr f1 fFo_p
      have hs1 := hs.fr f1 fFo_s
      have k67 : ∀ y : Int, y = (if mOwn P o i = true then -1 else sA S i) → ∃ (M' : ZM) (wd : Nat → Nat) (tr : Nat → Nat → Int), Se_seek_67 N (Se_seek_3 N n) a p 0 0 o i a i (qN P : Nat) y M1 = Se_seek_3 N 1 a p 0 0 o (qN P : Nat) M' ∧ zfr (fZ a) M M' ∧ sOk P S o a (qN P) wd tr M' ∧ (∀ u, u < qN P → mI M' 38 a u = 0) := by
        intro y hy
        subst hy
        unfold Se_seek_67
        obtain ⟨M2, w, tr1, e2, f2, g2, g3, g4⟩ := s_list (N := N) (o := o) hv hz hN hiN g1
        rw [e2, zBv_s, zI_t (by omega)]
        simp only [zW_e, Int.toNat_natCast]
        rw [zsucc (by omega)]
        have f3 : zfr (fZ a) M (pI M2 38 a i 0) := ((f1.mo fFo_Z).tr (f2.mo fLi_Z)).pI (by simp [fZ])
        refine (ih (i + 1) (fun u => if u = i then w else wd u) (fun u => if u = i then tr1 else tr u) (pI M2 38 a i 0) (hk.e f3.1) (hp.fr f3 fZ_p) (hs.fr f3 fZ_s) ?_ ?_ (by omega) (by omega)) |> fun ⟨M', wd', tr', q1, q2, q3⟩ => ⟨M', wd', tr', q1, f3.tr q2, q3⟩
        · intro u hu
          by_cases e4 : u = i
          · subst e4
            simp only [if_true]
            exact ⟨sTb_g g1 (fun t' k h => by rw [mI_pI_ne (by omega), f2.2 _ _ _ (by simp [fLi]; omega)]) h6, by rw [mI_pI_ne (by omega), g2], fun r hr => by rw [mI_pI_ne (by omega), g3 r hr], g4⟩
          · obtain ⟨o1, o2, o3, o4⟩ := hO u (by omega)
            have := o4.2.1
            simp only [if_neg e4]
            exact ⟨sTb_g o1 (fun t' k h => by rw [mI_pI_ne (by omega), f2.2 _ _ _ (by simp [fLi]; omega), f1.2 _ _ _ (by simp [fFo]; omega)]) h6, by rw [mI_pI_ne (by omega), f2.2 _ _ _ (by simp [fLi]; omega), f1.2 _ _ _ (by simp [fFo]), o2], fun r hr => by rw [mI_pI_ne (by omega), f2.2 _ _ _ (by simp [fLi]; omega), f1.2 _ _ _ (by simp [fFo]), o3 r hr], o4⟩
        · intro u hu
          rw [mI_pI]
          by_cases e4 : u = i
          · rw [if_pos ⟨rfl, rfl, e4⟩]
          · rw [if_neg (by omega), f2.2 _ _ _ (by simp [fLi]), f1.2 _ _ _ (by simp [fFo]), h38 u (by omega)]
      have k42 : ∀ y : Int, y = (if mOwn P o i = true then 1 else 0) → ∃ (M' : ZM) (wd : Nat → Nat) (tr : Nat → Nat → Int), Se_seek_42 N (Se_seek_3 N n) a p 0 0 o i y M1 = Se_seek_3 N 1 a p 0 0 o (qN P : Nat) M' ∧ zfr (fZ a) M M' ∧ sOk P S o a (qN P) wd tr M' ∧ (∀ u, u < qN P → mI M' 38 a u = 0) := by
        intro y hy
        unfold Se_seek_42
        rw [hp1.n]
        by_cases b : mOwn P o i = true
        · rw [if_pos b] at hy
          rw [if_neg (by omega)]
          exact k67 (-1) (by rw [if_pos b])
        · rw [if_neg b] at hy
          rw [if_pos hy, zI_t (by omega), Int.toNat_natCast, hs1.a (by omega)]
          exact k67 _ (by rw [if_neg b])
      by_cases b0 : o = 0
      · rw [if_pos b0]; exact k42 1 (by simp [mOwn, b0])
      · rw [if_neg b0, zI_t (by omega), Int.toNat_natCast, hp1.o hiN]
        by_cases b1 : qT P 2 i = o
        · rw [if_pos b1]; exact k42 1 (by simp [mOwn, b1])
        · rw [if_neg b1]; exact k42 0 (by simp [mOwn, b0, b1])
end STRY
