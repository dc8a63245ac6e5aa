def KM (M : ZM) : Prop := ∃ sl sx, mK M = zK0 sl sx
theorem KM.n {M : ZM} (h : KM M) {t i : Nat} (m : Nat) (hm : ∀ sl, zlen sl t i = m) : mN M t i = m := by
  obtain ⟨sl, sx, h⟩ := h
  rw [← hm sl]
  exact congrArg (fun K : ZK => K.2.1 t i) h
theorem KM.e {M M' : ZM} (h : KM M) (e : M'.2 = M.2) : KM M' := by
  obtain ⟨sl, sx, h⟩ := h
  exact ⟨sl, sx, (mK_2 e).trans h⟩
def fB (t _i k : Nat) : Bool := t == 23 || t == 24 || (t == 0 && k == 6)
theorem fB_F : ∀ t i k, fF t i k = false → fB t i k = false := by
  intro t i k h; simp [fF] at h; simp [fB]; omega
theorem fB_n {t i k : Nat} (h : t ≠ 23 ∧ t ≠ 24 ∧ t ≠ 0) : fB t i k = false := by simp [fB, h]
section BRNG
variable {N p i : Nat} {P : PK} {S : SK} {M : ZM} {c : Nat}
theorem c_fill5 {t a m : Nat} {x : Int} (hm6 : m ≤ 2000) : ∀ (n k : Nat) (M : ZM), mN M t a = m → k ≤ m → m - k < n → ∃ M', Ar_fill_5 N n t a x k m M = some M' ∧ M'.2 = M.2 ∧ (∀ j, k ≤ j → j < m → mI M' t a j = x) ∧ (∀ t' i' j, ¬ (t' = t ∧ i' = a ∧ k ≤ j) → mI M' t' i' j = mI M t' i' j) := by
  intro n
  induction n with
  | zero => intros; omega
  | succ n ih =>
    intro k M hm hk hn
    unfold Ar_fill_5
    by_cases b : k = m
    · rw [if_neg (by omega)]
      exact ⟨M, rfl, rfl, fun j h1 h2 => by omega, fun _ _ _ _ => rfl⟩
    · rw [if_pos (by omega), zI_t (by omega)]
      simp only [zW, Int.toNat_natCast]
      rw [zsucc (by omega)]
      obtain ⟨M', e, h1, h2, h3⟩ := ih (k + 1) (pI M t a k x) hm (by omega) (by omega)
      refine ⟨M', e, h1, fun j h4 h5 => ?_, fun t' i' j h4 => ?_⟩
      · by_cases b2 : j = k
        · subst b2; rw [h3 t a j (by omega), mI_pI_eq]
        · exact h2 j (by omega) h5
      · rw [h3 t' i' j (by omega), mI_pI_ne (by omega)]
theorem c_fill {t a m : Nat} {x : Int} (hm6 : m ≤ 1000) (hN : 2000 ≤ N) (hm : mN M t a = m) : ∃ M', Ar_fill N t a x M = some M' ∧ M'.2 = M.2 ∧ (∀ j, j < m → mI M' t a j = x) ∧ (∀ t' i' j, ¬ (t' = t ∧ i' = a) → mI M' t' i' j = mI M t' i' j) := by
  unfold Ar_fill
  simp only [zW]
  rw [hm]
  obtain ⟨M', e, h1, h2, h3⟩ := c_fill5 (N := N) (t := t) (a := a) (x := x) (m := m) (by omega) N 0 M hm (by omega) (by omega)
  exact ⟨M', e, h1, fun j hj => h2 j (by omega) hj, fun t' i' j h => h3 t' i' j (by omega)⟩
theorem c_bring31 (hv : VP P) {pw : Nat → Int} {f : Int} {a : Nat} (hpw : ∀ t, t < qN P → 0 ≤ pw t ∧ pw t ≤ 99) : ∀ (k n : Nat) (M : ZM), CP p P M → (∀ t, t < qN P → mI M 22 a t = pw t) → k ≤ (qO P).length → (∀ g, g < 6 → mI M 24 a g = (mBr P pw f ((qO P).drop k)).1 g) → (∀ g, g < 6 → mI M 23 a g = (mBr P pw f ((qO P).drop k)).2.1 g) → mI M 0 a 6 = (mBr P pw f ((qO P).drop k)).2.2 → k < n → ∃ M', Fl_bring_31 N n a p f ((k : Int) - 1) M = some M' ∧ zfr fB M M' ∧ (∀ u, u < 6 → mI M' 23 a u = mLd P pw f u) ∧ mI M' 0 a 6 = mHm P pw f := by
  intro k
  induction k with
  | zero =>
    intro n M hp h22 hk h24 h23 h0 hn
    cases n with
    | zero => omega
    | succ n =>
      unfold Fl_bring_31
      rw [if_pos (by omega)]
      exact ⟨M, rfl, zfr.rf M, h23, h0⟩
  | succ k ih =>
    intro n M hp h22 hk h24 h23 h0 hn
    cases n with
    | zero => omega
    | succ n =>
      have h6 := hv.n
      have hkl : k < (qO P).length := by omega
      have hlen : (qO P).length ≤ 6 := by
        have h1 := hv.nd
        have h2 : ∀ t, t ∈ qO P → t < 6 := fun t ht => by
          obtain ⟨j, hj, rfl⟩ := List.getElem_of_mem ht
          have := (hv.ord j hj).1
          omega
        exact zlen6 h1 h2
      obtain ⟨ho1, ho2⟩ := hv.ord k hkl
      have hmem : (qO P)[k] ∈ qO P := List.getElem_mem hkl
      have hg := (hv.mem _ ho1).1 hmem
      have hh := hv.h ho1 hg
      have hgo := hv.g ho1
      have hd : (qO P).drop k = (qO P)[k] :: (qO P).drop (k + 1) := List.drop_eq_getElem_cons hkl
      generalize ht : (qO P)[k] = t at *
      have hb := mBr_b (P := P) (pw := pw) (f := f) (fun t ht => (hpw t ht).1) (fun t ht => hv.h ht) (r := (qO P).drop (k + 1)) (fun u hu => by
        have hu2 := List.mem_of_mem_drop hu
        obtain ⟨j, hj, rfl⟩ := List.getElem_of_mem hu2
        exact ⟨(hv.ord j hj).1, (hv.mem _ (hv.ord j hj).1).1 hu2⟩)
      have hld : ((qO P).drop (k + 1)).length ≤ 6 := by rw [List.length_drop]; omega
      generalize hB : mBr P pw f ((qO P).drop (k + 1)) = B at *
      have hp0 := hpw t ho1
      have b24 := hb.1 t
      unfold Fl_bring_31
      rw [if_neg (by omega), show (((k + 1 : Nat) : Int) - 1) = (k : Int) by omega, c_get hp.ol (by omega) (by rw [hp.z0]; omega) (hp.oi hkl), ht, zB_s, zI_t (by omega)]
      simp only [zW, Int.toNat_natCast]
      rw [hp.g ho1, h22 t ho1, h24 t (by omega), hp.h ho1]
      have fin : ∀ y : Int, y = (if (t : Int) = f then 0 else zmin (pw t + B.1 t) (qT P 5 t)) → ∃ M', Fl_bring_89 N (Fl_bring_31 N n) a p f k t (qT P 4 t) y M = some M' ∧ zfr fB M M' ∧ (∀ u, u < 6 → mI M' 23 a u = mLd P pw f u) ∧ mI M' 0 a 6 = mHm P pw f := by
        intro y hy
        have hyb : 0 ≤ y ∧ y ≤ 200 := by
          subst hy
          unfold zmin
          split
          · omega
          · split <;> omega
        have b0 := hb.2.2
        unfold Fl_bring_89
        rw [zI_t (by omega)]
        simp only [zW, Int.toNat_natCast]
        have e1 : z32 ((k : Int) + -1) = (k : Int) - 1 := zs (by omega)
        rw [e1]
        have hB' : mBr P pw f ((qO P).drop k) = (fun (g : Nat) => if qT P 4 t ≠ 6 ∧ (g : Int) = qT P 4 t then B.1 g + y else B.1 g, fun (u : Nat) => if u = t then y else B.2.1 u, if qT P 4 t = 6 then B.2.2 + y else B.2.2) := by
          rw [hd, mBr, hB, hy]
        rcases hgo with hgo | hgo | hgo
        · exact absurd hgo hg
        · rw [if_pos hgo, mI_pI_ne (by omega), h0, zs (by omega)]
          have hf : zfr fB M (pI (pI M 23 a t y) 0 a 6 (B.2.2 + y)) := ((zfr.rf M).pI (by simp [fB])).pI (by simp [fB])
          obtain ⟨M', e, r1, r2, r3⟩ := ih n _ (hp.fr (hf.mo fB_F) fF_p) (fun u hu => by rw [mI_pI_ne (by omega), mI_pI_ne (by omega), h22 u hu]) (by omega) (fun g hgg => by rw [mI_pI_ne (by omega), mI_pI_ne (by omega), h24 g hgg, hB']; simp [hgo]) (fun g hgg => by
            rw [mI_pI_ne (by omega), mI_pI, h23 g hgg, hB']
            simp) (by rw [mI_pI_eq, hB']; simp [hgo]) (by omega)
          exact ⟨M', e, hf.tr r1, r2, r3⟩
        · rw [if_neg (by omega), if_neg (by omega), if_pos (by omega), zI_t (by omega), zI_t (by omega)]
          have hg2 := hb.1 (qT P 4 t).toNat
          rw [mI_pI_ne (by omega), h24 _ (by omega), zs (by omega)]
          have hf : zfr fB M (pI (pI M 23 a t y) 24 a (qT P 4 t).toNat (B.1 (qT P 4 t).toNat + y)) := ((zfr.rf M).pI (by simp [fB])).pI (by simp [fB])
          obtain ⟨M', e, r1, r2, r3⟩ := ih n _ (hp.fr (hf.mo fB_F) fF_p) (fun u hu => by rw [mI_pI_ne (by omega), mI_pI_ne (by omega), h22 u hu]) (by omega) (fun g hgg => by
            rw [mI_pI, hB']
            by_cases b : g = (qT P 4 t).toNat
            · rw [if_pos ⟨rfl, rfl, b⟩]
              simp only
              rw [if_pos (by omega), b]
            · rw [if_neg (by omega), mI_pI_ne (by omega), h24 g hgg]
              simp only
              rw [if_neg (by omega)]) (fun g hgg => by
            rw [mI_pI_ne (by omega), mI_pI, h23 g hgg, hB']
            simp) (by rw [mI_pI_ne (by omega), mI_pI_ne (by omega), h0, hB']; simp only; rw [if_neg (by omega)]) (by omega)
          exact ⟨M', e, hf.tr r1, r2, r3⟩
      by_cases bf : (t : Int) = f
      · rw [if_pos bf]
        exact fin 0 (by rw [if_pos bf])
      · rw [if_neg bf, zI_t (by omega), zI_t (by omega), zI_t (by omega), zs (by omega)]
        exact fin _ (by rw [if_neg bf])
theorem c_bring (hv : VP P) (hk : KM M) (hp : CP p P M) (hN : 2000 ≤ N) {pw : Nat → Int} {f : Int} {a : Nat} (hpw : ∀ t, t < qN P → 0 ≤ pw t ∧ pw t ≤ 99) (h22 : ∀ t, t < qN P → mI M 22 a t = pw t) : ∃ M', Fl_bring N a p f M = some M' ∧ zfr fB M M' ∧ (∀ u, u < 6 → mI M' 23 a u = mLd P pw f u) ∧ mI M' 0 a 6 = mHm P pw f := by
  unfold Fl_bring
  obtain ⟨M1, e1, k1, a1, b1⟩ := c_fill (N := N) (t := 24) (a := a) (x := 0) (m := 6) (by omega) hN (hk.n 6 (fun _ => rfl))
  rw [e1, zBv_s]
  obtain ⟨M2, e2, k2, a2, b2⟩ := c_fill (N := N) (M := M1) (t := 23) (a := a) (x := 0) (m := 6) (by omega) hN ((hk.e k1).n 6 (fun _ => rfl))
  rw [e2, zBv_s]
  simp only [zW]
  have hf1 : zfr fB M M2 := ⟨k2.trans k1, fun t i k h => by
    simp [fB] at h
    rw [b2 t i k (by omega), b1 t i k (by omega)]⟩
  have hf2 : zfr fB M (pI M2 0 a 6 0) := hf1.pI (by simp [fB])
  have hp2 := hp.fr (hf2.mo fB_F) fF_p
  have hlen : (qO P).length ≤ 6 := by
    have h1 := hv.nd
    have h6 := hv.n
    have h2 : ∀ t, t ∈ qO P → t < 6 := fun t ht => by
      obtain ⟨j, hj, rfl⟩ := List.getElem_of_mem ht
      have := (hv.ord j hj).1
      omega
    exact zlen6 h1 h2
  rw [hp2.ol, zs (by omega)]
  obtain ⟨M', e, r1, r2, r3⟩ := c_bring31 (N := N) (p := p) hv hpw (f := f) (a := a) (qO P).length N _ hp2 (fun t ht => by rw [mI_pI_ne (by omega), b2 _ _ _ (by omega), b1 _ _ _ (by omega), h22 t ht]) (Nat.le_refl _) (fun g hg => by
    rw [mI_pI_ne (by omega), b2 _ _ _ (by omega), a1 g hg]; simp [mBr]) (fun g hg => by
    rw [mI_pI_ne (by omega), a2 g hg]; simp [mBr]) (by rw [mI_pI_eq]; simp [mBr]) (by omega)
  exact ⟨M', e, hf2.tr r1, r2, r3⟩
theorem c_measure (hv : VP P) (hs : VS c P S) (hk : KM M) (hp : CP p P M) (hc : CS i S M) (hN : 2000 ≤ N) {a : Nat} : ∃ M', Fl_measure N a p i M = some M' ∧ zfr fF M M' ∧ (∀ o, o < qN P → mI M' 20 a o = mTkn P (sA S) (mRun S) (mFr P S) o ∧ mI M' 21 a o = mWnd (mBl P S) (mTkn P (sA S) (mRun S) (mFr P S) o) ∧ mI M' 22 a o = mPow P S (mFr P S) (mBl P S) o) ∧ (∀ o, o < 6 → mI M' 23 a o = mLd P (mPow P S (mFr P S) (mBl P S)) (-1) o) ∧ mI M' 0 a 5 = zsum (mPow P S (mFr P S) (mBl P S)) (qN P) ∧ mI M' 0 a 6 = mHome P S := by
  unfold Fl_measure
  rw [hc.t, c_round (j := 1) hv hp (by omega) (by omega) hs.t, zB_s]
  obtain ⟨M1, e1, f1, g1⟩ := c_take (N := N) (a := a) hv hs hp hc hN (hv.fr hs.t)
  rw [e1, zBv_s]
  have hp1 := hp.fr f1 fF_p
  have hc1 := hc.fr f1 (fun t k h => fF_s t i k h)
  rw [hc1.t, c_round (j := 0) hv hp1 (by omega) (by omega) hs.t, zB_s]
  obtain ⟨M2, e2, f2, g2, g3, g4⟩ := c_give (N := N) (a := a) (fr := mRow P 1 (sT S)) hv hs hp1 hc1 hN (hv.bl hs.t) g1
  rw [e2, zBv_s]
  have hp2 := hp1.fr f2 fF_p
  obtain ⟨M3, e3, f3, g5, g6⟩ := c_bring (N := N) (f := -1) (a := a) hv ((hk.e f1.1).e f2.1) hp2 hN (pw := mPow P S (mRow P 1 (sT S)) (mRow P 0 (sT S))) (fun t _ => mPow_b) (fun t ht => (g2 t ht).2)
  rw [e3, zBv_s]
  refine ⟨M3, rfl, (f1.tr f2).tr (f3.mo fB_F), fun o ho => ⟨?_, ?_, ?_⟩, g5, ?_, g6⟩
  · rw [f3.2 _ _ _ (by simp [fB]), g4, g1 o ho]; rfl
  · rw [f3.2 _ _ _ (by simp [fB]), (g2 o ho).1]; rfl
  · rw [f3.2 _ _ _ (by simp [fB]), (g2 o ho).2]; rfl
  · rw [f3.2 _ _ _ (by simp [fB]), g3]; rfl
end BRNG
