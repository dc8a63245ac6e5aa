section BEST
variable {N c p a : Nat} {P : PK} {S : SK} {M : ZM} {o : Int} {wd : Nat → Nat} {tr : Nat → Nat → Int}
theorem fAd_Z {a : Nat} : ∀ t i k, fZ a t i k = false → fAd a t i k = false := by
  intro t i k h; simp [fZ, fF] at h; simp [fAd]; omega
theorem fF_Z {a : Nat} : ∀ t i k, fZ a t i k = false → fF t i k = false := by
  intro t i k h; simp [fZ] at h; exact h.1
/-- the best of the rows before n -/
def sB' (P : PK) (S : SK) (o : Int) (a : Nat) (wd : Nat → Nat) (tr : Nat → Nat → Int) (n : Nat) (M : ZM) : Prop := ∃ m, m < n ∧ mI M 6 a 1 = mVal P S o (cA P S wd tr m) ∧ (∀ t, t < qN P → mI M 33 a t = cA P S wd tr m t) ∧ (∀ u, u < n → mVal P S o (cA P S wd tr u) ≤ mVal P S o (cA P S wd tr m)) ∧ (∀ u, u < m → mVal P S o (cA P S wd tr u) < mVal P S o (cA P S wd tr m))
theorem s_106 (hv : VP P) (hz : VS c P S) (hN : 20000 ≤ N) (ho : 0 ≤ o ∧ o ≤ 2) {x : Int} (hx : x = mPr P S) : ∀ (d m n : Nat) (M : ZM), KM M → CP p P M → CS 0 S M → sD P S o a wd tr n M → sSm P S (cA P S wd tr n) a (qN P) M → (n = 0 ∨ sB' P S o a wd tr n M) → n + d = cW wd (qN P) → 1 ≤ d → d ≤ m → ∃ M', Se_seek_106 N m a p 0 o x n M = some M' ∧ zfr (fZ a) M M' ∧ sB' P S o a wd tr (cW wd (qN P)) M' := by
  intro d
  induction d with
  | zero => intros; omega
  | succ d ih =>
    intro m n M hk hp hs hD hS hB hnd hd1 hdm
    have h6 := hv.n
    have ht := sOk_t hD.1
    have hW : cW wd (qN P) ≤ 15625 := Nat.le_trans (cW_le (P := P) wd (fun i hi => (ht i hi).2.1) (Nat.le_refl _)) (Nat.pow_le_pow_right (n := 5) (j := 6) (by decide) h6)
    cases m with
    | zero => omega
    | succ m =>
      -- what comes behind a value
      have k167 : ∀ M1, zfr (fZ a) M M1 → sD P S o a wd tr n M1 → sSm P S (cA P S wd tr n) a (qN P) M1 → sB' P S o a wd tr (n + 1) M1 → ∃ M', Se_seek_167 N (Se_seek_106 N m) a p 0 o x n M1 = some M' ∧ zfr (fZ a) M M' ∧ sB' P S o a wd tr (cW wd (qN P)) M' := by
        intro M1 f1 hD1 hS1 hB1
        have hp1 := hp.fr f1 fZ_p
        unfold Se_seek_167 Se_next
        rw [hp1.n]
        simp only [zW_e]
        rw [zs (x := ((qN P : Nat) : Int) - 1) (by omega)]
        rcases s_next4 (N := N) (a := a) (wd := wd) hv (fun i hi => ⟨(ht i hi).1, (ht i hi).2.1⟩) (qN P) N n M1 (fun u hu => (hD1.1 u hu).2.1) hD1.2 (fun u h1 h2 => by omega) (by omega) (Nat.le_refl _) (by omega) with ⟨g1, M2, g2, g3⟩ | ⟨g1, M2, i, g2, g3, g4, g5, g7, g8⟩
        · rw [g2, zB_s, if_pos (by decide)]
          refine ⟨M2, rfl, f1.tr (g3.mo (fun t i k h => by simp [fZ, fF] at h; simp; omega)), ?_⟩
          obtain ⟨q, q1, q2, q3, q4, q5⟩ := hB1
          rw [← g1]
          exact ⟨q, q1, by rw [g3.2 _ _ _ (by simp), q2], fun t ht => by rw [g3.2 _ _ _ (by simp), q3 t ht], q4, q5⟩
        · have f2 : zfr (fZ a) M M2 := f1.tr (g4.mo (fun t i k h => by simp [fZ, fF] at h; simp; omega))
          have hp2 := hp.fr f2 fZ_p
          rw [g2, zB_s, if_neg (by omega), hp2.n]
          have hD2 : sD P S o a wd tr (n + 1) M2 := ⟨sOk_g hD1.1 (Nat.le_refl _) h6 (fun t' j h => g4.2 _ _ _ (by simp; omega)), g5⟩
          have hsame : ∀ u, u < i → cA P S wd tr (n + 1) u = cA P S wd tr n u := fun u hu => by
            show cDg wd tr (qN P) (n + 1) (sA S) u = cDg wd tr (qN P) n (sA S) u
            rw [dgt_c (by omega), dgt_c (by omega), g8 u hu]
          have hS2 : sSm P S (cA P S wd tr (n + 1)) a i M2 := fun u hu j hj => by
            rw [g4.2 _ _ _ (by simp), hS1 u (by omega) j hj]
            exact zsum_cg fun v hvv => by rw [hsame v (by omega)]
          unfold Se_addFrom
          obtain ⟨M3, e3, f3, g9⟩ := s_add2 (N := N) hv (by omega) (n := n + 1) N i M2 hD2 hS2 (by omega) (by omega)
          rw [e3, zBv_s, zsucc (by omega)]
          have f3z := f2.tr (f3.mo fAd_Z)
          obtain ⟨M', e4, f4, g10⟩ := ih m (n + 1) M3 (hk.e f3z.1) (hp.fr f3z fZ_p) (hs.fr f3z fZ_s) (sD_g hD2 h6 (fun t' k h => f3.2 _ _ _ (by simp [fAd]; omega))) g9 (.inr (by
            obtain ⟨q, q1, q2, q3, q4, q5⟩ := hB1
            exact ⟨q, q1, by rw [f3.2 _ _ _ (by simp [fAd]), g4.2 _ _ _ (by simp), q2], fun t ht => by rw [f3.2 _ _ _ (by simp [fAd]), g4.2 _ _ _ (by simp), q3 t ht], q4, q5⟩)) (by omega) (by omega) (by omega)
          exact ⟨M', e4, f3z.tr f4, g10⟩
      have k137 : ∀ M1 y, zfr fF M M1 → y = mVal P S o (cA P S wd tr n) → ∃ M', Se_seek_137 N (Se_seek_106 N m) a p 0 o x n y M1 = some M' ∧ zfr (fZ a) M M' ∧ sB' P S o a wd tr (cW wd (qN P)) M' := by
        intro M1 y f1 hy
        have hp1 := hp.fr f1 fF_p
        have hD1 : sD P S o a wd tr n M1 := sD_g hD h6 (fun t' k h => f1.2 _ _ _ (by simp [fF]; omega))
        have hS1 : sSm P S (cA P S wd tr n) a (qN P) M1 := fun u hu j hj => by rw [f1.2 _ _ _ (by simp [fF])]; exact hS u hu j hj
        have k153 : (∀ u, u < n → mVal P S o (cA P S wd tr u) < y) → ∃ M', Se_seek_153 N (Se_seek_106 N m) a p 0 o x n y M1 = some M' ∧ zfr (fZ a) M M' ∧ sB' P S o a wd tr (cW wd (qN P)) M' := by
          intro hlt
          unfold Se_seek_153 Se_keepRow
          simp only [zW_e]
          have f2 : zfr (fZ a) M (pI M1 6 a 1 y) := (f1.mo fF_Z).pI (by simp [fZ])
          rw [(hp.fr f2 fZ_p).n]
          obtain ⟨M2, e2, f3, g2⟩ := s_keep2 (N := N) hv (n := n) N 0 (pI M1 6 a 1 y) (sD_g hD1 h6 (fun t' k h => by rw [mI_pI_ne (by omega)])) (fun t ht => by omega) (by omega) (by omega)
          rw [show ((0 : Nat) : Int) = 0 from rfl] at e2
          rw [e2, zBv_s]
          have f3z := f2.tr (f3.mo (fun t i k h => by simp [fZ, fF] at h; simp; omega))
          refine k167 M2 f3z (sD_g hD1 h6 (fun t' k h => by rw [f3.2 _ _ _ (by simp; omega), mI_pI_ne (by omega)])) (fun u hu j hj => by rw [f3.2 _ _ _ (by simp), mI_pI_ne (by omega)]; exact hS1 u hu j hj) ⟨n, by omega, by rw [f3.2 _ _ _ (by simp), mI_pI_eq, hy], g2, fun u hu => ?_, fun u hu => by rw [← hy]; exact hlt u hu⟩
          by_cases e : u = n
          · rw [e]; exact Int.le_refl _
          · have := hlt u (by omega); omega
        unfold Se_seek_137
        by_cases b0 : n = 0
        · rw [if_pos (by omega)]
          exact k153 (fun u hu => by omega)
        · rw [if_neg (by omega)]
          obtain ⟨q, q1, q2, q3, q4, q5⟩ : sB' P S o a wd tr n M := by rcases hB with h | h; exact absurd h b0; exact h
          rw [f1.2 _ _ _ (by simp [fF]), q2]
          by_cases b1 : mVal P S o (cA P S wd tr q) < y
          · rw [if_pos b1]
            exact k153 (fun u hu => by have := q4 u hu; omega)
          · rw [if_neg b1]
            refine k167 M1 (f1.mo fF_Z) hD1 hS1 ⟨q, by omega, by rw [f1.2 _ _ _ (by simp [fF]), q2], fun t ht => by rw [f1.2 _ _ _ (by simp [fF]), q3 t ht], fun u hu => ?_, q5⟩
            by_cases e : u = n
            · rw [e, ← hy]; omega
            · exact q4 u (by omega)
      unfold Se_seek_106
      rw [if_pos (by omega)]
      by_cases b0 : o = 0
      · unfold Se_sale
        obtain ⟨M1, e1, f1⟩ := s_sale3 (N := N) (o := o) hv hz (by omega) hx N 0 M hk hp hD hS (fun t ht => by omega) (by omega) (by omega)
        rw [show ((0 : Nat) : Int) = 0 from rfl] at e1
        rw [if_pos b0, e1, zB_s]
        exact k137 M1 _ f1 (by rw [mVal_t, mVt, if_pos b0])
      · unfold Se_share
        have e1 := s_share5 (N := N) hv hp hD hS N 0 (by omega) (by omega)
        rw [show ((0 : Nat) : Int) = 0 from rfl, show zsum (fun t => if qT P 2 t = o then vGf P S (cA P S wd tr n) t else 0) 0 = 0 from rfl] at e1
        rw [if_neg b0, e1, zB_s]
        exact k137 M _ (zfr.rf M) (by rw [mVal_t, mVt, if_neg b0])
theorem s_seek (hv : VP P) (hz : VS c P S) (hN : 20000 ≤ N) (ho : 0 ≤ o ∧ o ≤ 2) (hk : KM M) (hp : CP p P M) (hs : CS 0 S M) (h0 : ∀ j, j < 6 → mI M 39 a j = 0) : ∃ M', Se_seek N a p 0 0 o M = some M' ∧ zfr (fZ a) M M' ∧ mI M' 6 a 1 = mMost P S o ∧ (∀ t, t < qN P → mI M' 33 a t = mRowB P S o t) := by
  have h6 := hv.n
  unfold Se_seek
  obtain ⟨M1, wd, tr, e1, f1, hO, h38⟩ := s_seek3 (N := N) (a := a) hv hz (by omega) ho N 0 (fun _ => 0) (fun _ _ => 0) M hk hp hs (fun u hu => by omega) (fun u hu => by omega) (by omega) (by omega)
  rw [show ((0 : Nat) : Int) = 0 from rfl] at e1
  rw [e1]
  have hp1 := hp.fr f1 fZ_p
  have hs1 := hs.fr f1 fZ_s
  have ht := sOk_t hO
  unfold Se_seek_3
  rw [hp1.n, if_neg (by omega)]
  have hD : sD P S o a wd tr 0 M1 := ⟨hO, fun u hu => by rw [h38 u hu, dgt_0]; rfl⟩
  unfold Se_addFrom
  obtain ⟨M2, e2, f2, g2⟩ := s_add2 (N := N) hv (by omega) (n := 0) N 0 M1 hD (fun u hu j hj => by
    have : u = 0 := by omega
    subst this
    rw [Nat.zero_mul, Nat.zero_add, f1.2 _ _ _ (by simp [fZ, fF]; omega), h0 j (by omega)]; rfl) (by omega) (by omega)
  rw [show ((0 : Nat) : Int) = 0 from rfl] at e2
  have f2z := f1.tr (f2.mo fAd_Z)
  have hp2 := hp.fr f2z fZ_p
  have hs2 := hs.fr f2z fZ_s
  rw [e2, zBv_s, hs2.t, c_price hv hp2 hz.t, zB_s]
  have hWp := cW_pos (P := P) wd (fun i hi => (ht i hi).1) (Nat.le_refl (qN P))
  have hW : cW wd (qN P) ≤ 15625 := Nat.le_trans (cW_le (P := P) wd (fun i hi => (ht i hi).2.1) (Nat.le_refl _)) (Nat.pow_le_pow_right (n := 5) (j := 6) (by decide) h6)
  obtain ⟨M3, e3, f3, m, m1, m2, m3, m4, m5⟩ := s_106 (N := N) (p := p) hv hz hN ho (x := mRow P 2 (sT S) - 10) rfl (cW wd (qN P)) N 0 M2 (hk.e f2z.1) hp2 hs2 (sD_g hD h6 (fun t' k h => f2.2 _ _ _ (by simp [fAd]; omega))) g2 (.inl rfl) (by omega) hWp (by omega)
  rw [show ((0 : Nat) : Int) = 0 from rfl] at e3
  obtain ⟨t1, t2⟩ := tr_best wd tr hv hz ht m1 m2 (fun u hu => by rw [m2]; exact m4 u hu) (fun u hu => by rw [m2]; exact m5 u hu)
  exact ⟨M3, e3, f2z.tr f3, t1, fun t ht => by rw [m3 t ht]; exact t2 t ht⟩
end BEST
section WBEST
variable {N c : Nat} {A : AK} {M : ZM}
theorem CSe.z {P : PK} {S : SK} {M M' : ZM} {a : Nat} (h : CSe P S M) (f : ∀ t i k, (t = 6 ∨ t = 33 ∨ (t = 39 ∧ k < 6)) → i ≠ a → mI M' t i k = mI M t i k) (f39 : ∀ k, k < 6 → mI M' 39 a k = mI M 39 a k) (h1 : mI M' 6 a 2 = 1) (h2 : mI M' 6 a 1 = mMost P S a) (h3 : ∀ k, k < qN P → mI M' 33 a k = mRowB P S a k) : CSe P S M' := by
  intro o ho
  by_cases e : o = a
  · subst e
    exact ⟨fun j hj => (f39 j hj).trans ((h o ho).1 j hj), .inr ⟨h1, h2, h3⟩⟩
  · obtain ⟨q1, q2⟩ := h o ho
    refine ⟨fun j hj => (f _ _ _ (by omega) e).trans (q1 j hj), ?_⟩
    rcases q2 with q2 | ⟨q2, q3, q4⟩
    · exact .inl ((f _ _ _ (by omega) e).trans q2)
    · exact .inr ⟨(f _ _ _ (by omega) e).trans q2, (f _ _ _ (by omega) e).trans q3, fun k hk => (f _ _ _ (by omega) e).trans (q4 k hk)⟩
theorem w_searched (h : CA A M) (hv : VA c A) (hN : 20000 ≤ N) {a : Nat} (ha : a < 3) {x : Int} (hx : x = -1 ∨ (0 ≤ x ∧ x < qN (aP A))) : ∃ M', Wp_searched N 0 a x M = some (if x = -1 then mMost (aP A) (aS A) a else mRowB (aP A) (aS A) a x.toNat, M') ∧ CA A M' ∧ zCl M M' := by
  obtain ⟨p, hr, hp⟩ := h.2.1
  have h6 := hv.p.n
  have k36 : ∀ M1, CA A M1 → mI M1 6 a 1 = mMost (aP A) (aS A) a → (∀ k, k < qN (aP A) → mI M1 33 a k = mRowB (aP A) (aS A) a k) → Wp_searched_36 N x a M1 = some (if x = -1 then mMost (aP A) (aS A) a else mRowB (aP A) (aS A) a x.toNat, M1) := by
    intro M1 _ h1 h2
    unfold Wp_searched_36
    by_cases b : x = -1
    · rw [if_pos b, if_pos b, h1]
    · rw [if_neg b, if_neg b, zI_t (by omega), h2 _ (by omega)]
  unfold Wp_searched
  rw [zI_t (by omega)]
  simp only [zW_e, Int.toNat_natCast]
  have hSe := h.2.2.2.2.2.2.2.1 a ha
  by_cases b : mI M 6 a 2 = 0
  · rw [if_pos b, hr.1, zO_s]
    obtain ⟨M1, e1, f1, g1, g2⟩ := s_seek (N := N) (o := (a : Int)) hv.p hv.s hN (by omega) h.k hp h.s hSe.1
    rw [e1, zBv_s]
    have hc : CA A (pI M1 6 a 2 1) := by
      obtain ⟨h1, ⟨p', h2, h3⟩, h4, h5, h7, h8, h9, h10, h11⟩ := h
      have q : ∀ t i k, fZ a t i k = false → ¬ (t = 6 ∧ k = 2) → mI (pI M1 6 a 2 1) t i k = mI M t i k := fun t i k hf hne => by
        rw [mI_pI_ne (by omega), f1.2 t i k hf]
      have er : mR (pI M1 6 a 2 1) = mR M := mR_2 f1.1
      refine ⟨h1.e f1.1, ⟨p', ⟨by rw [er]; exact h2.1, by rw [er]; exact h2.2⟩, h3.gg (fun t i k ht => q t i k (by simp [fZ, fF]; omega) (by omega)) (fun i k => mL_2 f1.1 _ _ _)⟩, h4.g (fun t k ht => q _ _ _ (by simp [fZ, fF]; omega) (by omega)), h5.g (fun t k ht => q _ _ _ (by simp [fZ, fF]; omega) (by omega)), h7.g (fun t k ht => q _ _ _ (by simp [fZ, fF]; omega) (by omega)), fun m hm => (h8 m hm).g (q _ _ _ (by simp [fZ, fF]) (by omega)) (fun t k ht => q _ _ _ (by simp [fZ, fF]; omega) (by omega)) (fun t i k ht _ => q _ _ _ (by simp [fZ, fF]; omega) (by omega)), h9.g (fun k _ => q _ _ _ (by simp [fZ, fF]) (by omega)) (fun t i k ht _ _ => q _ _ _ (by simp [fZ, fF]; omega) (by omega)), ?_, h11.g (fun t i k ht => q _ _ _ (by simp [fZ, fF]; omega) (by omega))⟩
      refine h10.z (a := a) (fun t i k ht hi => ?_) (fun k hk => ?_) mI_pI_eq ?_ (fun k hk => ?_)
      · rw [mI_pI_ne (by omega), f1.2 _ _ _ (by simp [fZ, fF]; omega)]
      · rw [mI_pI_ne (by omega), f1.2 _ _ _ (by simp [fZ, fF]; omega)]
      · rw [mI_pI_ne (by omega), g1]
      · rw [mI_pI_ne (by omega), g2 k hk]
    refine ⟨_, k36 _ hc (by rw [mI_pI_ne (by omega), g1]) (fun k hk => by rw [mI_pI_ne (by omega), g2 k hk]), hc, ?_⟩
    exact (f1.cl (fun t i k h => by simp [rk] at h; simp [fZ, fF]; omega)).tr ⟨rfl, fun t i k h => mI_pI_ne (by rintro ⟨rfl, _, _⟩; cases h), fun _ _ _ _ => rfl⟩
  · rw [if_neg b]
    rcases hSe.2 with q | ⟨_, q2, q3⟩
    · exact absurd q b
    · exact ⟨M, k36 M h q2 q3, h, zCl.rf M⟩
theorem w_best (h : CA A M) (hv : VA c A) (hN : 20000 ≤ N) (x : Int) : ∃ M', Wp_best N 0 x M = some (qBest A x, M') ∧ CA A M' ∧ zCl M M' := by
  obtain ⟨p, hr, hp⟩ := h.2.1
  unfold Wp_best qBest Wp_best_16
  by_cases b : x = -1
  · obtain ⟨M1, e1, f1, s1⟩ := w_searched (N := N) h hv hN (a := 0) (by omega) (x := x) (.inl b)
    rw [show ((0 : Nat) : Int) = 0 from rfl] at e1
    rw [if_pos b, e1, zB_s, if_pos b, if_pos b]
    exact ⟨M1, rfl, f1, s1⟩
  · rw [if_neg b, c_stands hr hp, zB_s, if_neg b]
    by_cases b2 : 0 ≤ x ∧ x < qN (aP A)
    · obtain ⟨M1, e1, f1, s1⟩ := w_searched (N := N) h hv hN (a := 0) (by omega) (x := x) (.inr b2)
      rw [show ((0 : Nat) : Int) = 0 from rfl] at e1
      rw [if_pos b2, if_neg (by decide), e1, zB_s, if_neg b, if_pos b2]
      exact ⟨M1, rfl, f1, s1⟩
    · rw [if_neg b2, if_pos rfl, if_neg b2]
      exact ⟨M, rfl, h, zCl.rf M⟩
theorem w_alone (h : CA A M) (hv : VA c A) (hN : 20000 ≤ N) (y x : Int) : ∃ M', Wp_alone N 0 y x M = some (qAlone A y x, M') ∧ CA A M' ∧ zCl M M' := by
  obtain ⟨p, hr, hp⟩ := h.2.1
  unfold Wp_alone qAlone Wp_alone_26
  by_cases b1 : y < 1
  · rw [if_pos b1, if_neg (by omega)]; exact ⟨M, rfl, h, zCl.rf M⟩
  · rw [if_neg b1]
    by_cases b3 : 2 < y
    · rw [if_pos b3, if_neg (by omega)]; exact ⟨M, rfl, h, zCl.rf M⟩
    · obtain ⟨a, rfl⟩ : ∃ a : Nat, y = a := ⟨y.toNat, by omega⟩
      rw [if_neg b3, if_pos (show 1 ≤ (a : Int) ∧ (a : Int) ≤ 2 by omega)]
      by_cases b : x = -1
      · obtain ⟨M1, e1, f1, s1⟩ := w_searched (N := N) h hv hN (a := a) (by omega) (x := x) (.inl b)
        rw [if_pos b, e1, zB_s, if_pos b, if_pos b]
        exact ⟨M1, rfl, f1, s1⟩
      · rw [if_neg b, c_stands hr hp, zB_s, if_neg b]
        by_cases b2 : 0 ≤ x ∧ x < qN (aP A)
        · obtain ⟨M1, e1, f1, s1⟩ := w_searched (N := N) h hv hN (a := a) (by omega) (x := x) (.inr b2)
          rw [if_pos b2, if_neg (by decide), e1, zB_s, if_neg b, if_pos b2]
          exact ⟨M1, rfl, f1, s1⟩
        · rw [if_neg b2, if_pos rfl, if_neg b2]
          exact ⟨M, rfl, h, zCl.rf M⟩
end WBEST
