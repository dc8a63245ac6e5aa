/-- digits of the n-th row of tries -/
def dgt (wd : Nat → Nat) : Nat → Nat → Nat → Nat
  | 0, _, _ => 0
  | k + 1, n, i => if i = k then n % wd k else dgt wd k (n / wd k) i
theorem dgt_c {wd : Nat → Nat} {tr : Nat → Nat → Int} : ∀ {k n : Nat} {A : Nat → Int} {u : Nat}, u < k → cDg wd tr k n A u = tr u (dgt wd k n u)
  | 0, _, _, _, h => by omega
  | k + 1, n, A, u, h => by
    unfold cDg dgt
    by_cases e : u = k
    · subst e; rw [cDg_hi _ _ (Nat.le_refl _), if_pos rfl, mPut, if_pos rfl]
    · rw [if_neg e]; exact dgt_c (by omega)
theorem dgt_lt {wd : Nat → Nat} : ∀ {k n : Nat} {u : Nat}, (∀ i, i < k → 1 ≤ wd i) → u < k → dgt wd k n u < wd u
  | 0, _, _, _, h => by omega
  | k + 1, n, u, hw, h => by
    unfold dgt
    by_cases e : u = k
    · subst e; rw [if_pos rfl]; exact Nat.mod_lt _ (hw u (by omega))
    · rw [if_neg e]; exact dgt_lt (fun i hi => hw i (by omega)) (by omega)
theorem dgt_0 {wd : Nat → Nat} : ∀ {k : Nat} {u : Nat}, dgt wd k 0 u = 0
  | 0, _ => rfl
  | k + 1, u => by
    unfold dgt
    rw [Nat.zero_mod, Nat.zero_div]
    split
    · rfl
    · exact dgt_0
section SEEK
variable {N c p a : Nat} {P : PK} {S : SK} {M : ZM} {o : Int} {wd : Nat → Nat} {tr : Nat → Nat → Int}
theorem sOk_t (h : sOk P S o a (qN P) wd tr M) : tOk wd tr P S o := fun i hi => (h i hi).2.2.2
/-- what the search stands on at the n-th row -/
def sD (P : PK) (S : SK) (o : Int) (a : Nat) (wd : Nat → Nat) (tr : Nat → Nat → Int) (n : Nat) (M : ZM) : Prop := sOk P S o a (qN P) wd tr M ∧ (∀ u, u < qN P → mI M 38 a u = (dgt wd (qN P) n u : Int))
abbrev cA (P : PK) (S : SK) (wd : Nat → Nat) (tr : Nat → Nat → Int) (n : Nat) : Nat → Int := cDg wd tr (qN P) n (sA S)
theorem s_angle (hv : VP P) {n : Nat} (h : sD P S o a wd tr n M) {t : Nat} (ht : t < qN P) : Se_angleOf N a t M = some (cA P S wd tr n t, M) := by
  have h6 := hv.n
  obtain ⟨h1, h2, h3, h4⟩ := h.1 t ht
  have hd := dgt_lt (wd := wd) (k := qN P) (n := n) (fun i hi => (h.1 i hi).2.2.2.1) ht
  have h5 := h4.2.1
  unfold Se_angleOf
  rw [zI_t (by omega), Int.toNat_natCast, h.2 t ht, ix5' (by omega) (by omega), zI_t (by omega), Int.toNat_natCast, h3 _ hd]
  show _ = some (cDg wd tr (qN P) n (sA S) t, M)
  rw [dgt_c ht]
theorem cA_b (h : sOk P S o a (qN P) wd tr M) {n t : Nat} (ht : t < qN P) : 0 ≤ cA P S wd tr n t ∧ cA P S wd tr n t ≤ 4 := by
  have hd := dgt_lt (wd := wd) (k := qN P) (n := n) (fun i hi => (h i hi).2.2.2.1) ht
  show 0 ≤ cDg wd tr (qN P) n (sA S) t ∧ cDg wd tr (qN P) n (sA S) t ≤ 4
  rw [dgt_c ht]
  exact (h t ht).2.2.2.2.2.1 _ hd
def fAd (a : Nat) (t i k : Nat) : Bool := t == 39 && i == a && decide (6 ≤ k)
theorem sD_g {n : Nat} {M M' : ZM} (h : sD P S o a wd tr n M) (h6 : qN P ≤ 6) (e : ∀ t' k, 34 ≤ t' ∧ t' ≤ 38 → mI M' t' a k = mI M t' a k) : sD P S o a wd tr n M' := ⟨sOk_g h.1 (Nat.le_refl _) h6 (fun t' i h => e _ _ (by omega)), fun u hu => (e _ _ (by omega)).trans (h.2 u hu)⟩
/-- rows of sums as far as i -/
def sSm (P : PK) (S : SK) (A : Nat → Int) (a i : Nat) (M : ZM) : Prop := ∀ u, u ≤ i → ∀ j, j < qN P → mI M 39 a (u * 6 + j) = zsum (fun v => tkT P S v (A v) j) u
theorem s_add24 (hv : VP P) {n i : Nat} {rec2 : Nat → Int → Int → ZM → Option ZM} (hi : i < qN P) : ∀ (m j : Nat) (M : ZM), sD P S o a wd tr n M → sSm P S (cA P S wd tr n) a i M → (∀ e, e < j → mI M 39 a ((i + 1) * 6 + e) = zsum (fun v => tkT P S v (cA P S wd tr n v) e) (i + 1)) → j ≤ qN P → qN P - j < m → ∃ M', Se_addFrom_24 N rec2 m a (qN P : Nat) i (((5 * i + (cA P S wd tr n i).toNat) * 6 : Nat) : Int) j M = rec2 a (qN P : Nat) ((i + 1 : Nat) : Int) M' ∧ zfr (fAd a) M M' ∧ sSm P S (cA P S wd tr n) a (i + 1) M' := by
  intro m
  induction m with
  | zero => intros; omega
  | succ m ih =>
    intro j M hD hS hR hj hn
    have h6 := hv.n
    have hab := cA_b hD.1 (n := n) hi
    unfold Se_addFrom_24
    by_cases e : j = qN P
    · subst e
      rw [if_neg (by omega)]
      simp only [zW_e]
      rw [zsucc (by omega)]
      refine ⟨M, rfl, zfr.rf M, fun u hu q hq => ?_⟩
      by_cases e2 : u = i + 1
      · subst e2; exact hR q hq
      · exact hS u (by omega) q hq
    · have e1 : z32 ((((5 * i + (cA P S wd tr n i).toNat) * 6 : Nat) : Int) + (j : Int)) = (((5 * i + (cA P S wd tr n i).toNat) * 6 + j : Nat) : Int) := by rw [zs (by omega)]; omega
      have e2 : z32 ((i : Int) + 1) = ((i + 1 : Nat) : Int) := zsucc (by omega)
      rw [if_pos (by omega), ix6 (by omega) (by omega), e1, e2, ix6 (by omega) (by omega)]
      clear e1 e2
      simp only [zW_e, Int.toNat_natCast]
      rw [zI_t (by omega), zI_t (by omega), zI_t (by omega), zsucc (by omega), hS i (Nat.le_refl _) j (by omega)]
      have ht := ((hD.1 i hi).1 (cA P S wd tr n i).toNat (by omega)).1 j (by omega)
      rw [show (((cA P S wd tr n i).toNat : Nat) : Int) = cA P S wd tr n i by omega] at ht
      rw [ht]
      have b1 := tkS_b hv (S := S) (A := cA P S wd tr n) (j := j) (n := i)
      have b2 := tkT_b hv (S := S) (t := i) (a := cA P S wd tr n i) (j := j)
      rw [zs (x := zsum (fun v => tkT P S v (cA P S wd tr n v) j) i + tkT P S i (cA P S wd tr n i) j) (by omega)]
      have f1 : zfr (fAd a) M (pI M 39 a ((i + 1) * 6 + j) (zsum (fun v => tkT P S v (cA P S wd tr n v) j) i + tkT P S i (cA P S wd tr n i) j)) := (zfr.rf M).pI (by simp [fAd]; omega)
      obtain ⟨M', e3, f2, g2⟩ := ih (j + 1) _ (sD_g hD h6 (fun t' k h => f1.2 _ _ _ (by simp [fAd]; omega))) (fun u hu q hq => by
        rw [mI_pI_ne (by omega)]; exact hS u hu q hq) (fun e' he' => by
        rw [mI_pI]
        by_cases e4 : e' = j
        · rw [if_pos (by omega), e4]; rfl
        · rw [if_neg (by omega), hR e' (by omega)]) (by omega) (by omega)
      exact ⟨M', e3, f1.tr f2, g2⟩
theorem s_add2 (hv : VP P) (hN : 2000 ≤ N) {n : Nat} : ∀ (m i : Nat) (M : ZM), sD P S o a wd tr n M → sSm P S (cA P S wd tr n) a i M → i ≤ qN P → qN P - i < m → ∃ M', Se_addFrom_2 N m a (qN P : Nat) i M = some M' ∧ zfr (fAd a) M M' ∧ sSm P S (cA P S wd tr n) a (qN P) M' := by
  intro m
  induction m with
  | zero => intros; omega
  | succ m ih =>
    intro i M hD hS hi hn
    have h6 := hv.n
    unfold Se_addFrom_2
    by_cases e : i = qN P
    · subst e
      rw [if_neg (by omega)]
      exact ⟨M, rfl, zfr.rf M, hS⟩
    · have hab := cA_b hD.1 (n := n) (t := i) (by omega)
      rw [if_pos (by omega), s_angle hv hD (by omega), zB_s]
      have ea : cA P S wd tr n i = (((cA P S wd tr n i).toNat : Nat) : Int) := by omega
      have e1 : z32 (z32 (z32 ((i : Int) * 5) + cA P S wd tr n i) * 6) = (((5 * i + (cA P S wd tr n i).toNat) * 6 : Nat) : Int) := by
        rw [ea, ix5' (by omega) (by omega), zs (by omega)]; omega
      simp only [zW_e]
      rw [e1]
      clear e1 ea
      obtain ⟨M1, e2, f1, g1⟩ := s_add24 (N := N) (rec2 := Se_addFrom_2 N m) hv (i := i) (by omega) N 0 M hD hS (fun e he => by omega) (by omega) (by omega)
      rw [show ((0 : Nat) : Int) = 0 from rfl] at e2
      rw [e2]
      obtain ⟨M', e3, f2, g2⟩ := ih (i + 1) M1 (sD_g hD h6 (fun t' k h => f1.2 _ _ _ (by simp [fAd]; omega))) g1 (by omega) (by omega)
      exact ⟨M', e3, f1.tr f2, g2⟩
theorem s_gift (hv : VP P) {n : Nat} (hp : CP p P M) (hD : sD P S o a wd tr n M) (hS : sSm P S (cA P S wd tr n) a (qN P) M) {t : Nat} (ht : t < qN P) : Se_giftOf N a p t M = some (vGf P S (cA P S wd tr n) t, M) := by
  have h6 := hv.n
  have hab := cA_b hD.1 (n := n) ht
  have b1 := tkS_b hv (S := S) (A := cA P S wd tr n) (j := t) (n := qN P)
  have hb := mCut_b (P := P) (o := t) b1.1
  unfold Se_giftOf
  rw [hp.n, ix6 (by omega) (by omega), zI_t (by omega), Int.toNat_natCast, hS (qN P) (Nat.le_refl _) t ht, c_takenOf hv hp ht (by omega), zB_s, s_angle hv hD ht, zB_s]
  unfold vGf
  generalize hc : mCut P t (zsum (fun v => tkT P S v (cA P S wd tr n v) t) (qN P)) = cu at *
  have ec : cu = ((cu.toNat : Nat) : Int) := by omega
  have ea : cA P S wd tr n t = (((cA P S wd tr n t).toNat : Nat) : Int) := by omega
  have h35 := ((hD.1 t ht).1 (cA P S wd tr n t).toNat (by omega)).2 cu.toNat (by omega)
  rw [← ec, ← ea] at h35
  have e1 : z32 (z32 (z32 (z32 ((t : Int) * 5) + cA P S wd tr n t) * 10) + cu) = (((5 * t + (cA P S wd tr n t).toNat) * 10 + cu.toNat : Nat) : Int) := by
    rw [ea, ix5' (by omega) (by omega), ec, ix10 (by omega) (by omega)]
    simp
  rw [e1]
  clear e1
  rw [zI_t (by omega), Int.toNat_natCast, h35]
theorem s_sale3 (hv : VP P) (hz : VS c P S) (hN : 2000 ≤ N) {n : Nat} {x : Int} (hx : x = mPr P S) : ∀ (m k : Nat) (M : ZM), KM M → CP p P M → sD P S o a wd tr n M → sSm P S (cA P S wd tr n) a (qN P) M → (∀ t, t < k → mI M 22 0 t = vGf P S (cA P S wd tr n) t) → k ≤ qN P → qN P - k < m → ∃ M', Se_sale_3 N m a p 0 x k M = some (mHm P (vGf P S (cA P S wd tr n)) (-1) * mPr P S, M') ∧ zfr fF M M' := by
  intro m
  induction m with
  | zero => intros; omega
  | succ m ih =>
    intro k M hk' hp hD hS h22 hk hn
    have h6 := hv.n
    unfold Se_sale_3
    rw [hp.n]
    have hgb : ∀ t, 0 ≤ vGf P S (cA P S wd tr n) t ∧ vGf P S (cA P S wd tr n) t ≤ 99 := fun t => by rw [← vGf_p]; exact mPow_b
    by_cases e : k = qN P
    · subst e
      rw [if_neg (by omega)]
      obtain ⟨M1, e1, f1, _, g1⟩ := c_bring (N := N) (f := -1) (a := 0) hv hk' hp hN (pw := vGf P S (cA P S wd tr n)) (fun t _ => hgb t) h22
      have hb := mHm_b hv (f := -1) (pw := vGf P S (cA P S wd tr n)) (fun t _ => (hgb t).1)
      have hpr := hv.pr hz.t
      rw [e1, zBv_s, g1, hx]
      have e2 : z32 (mHm P (vGf P S (cA P S wd tr n)) (-1) * mPr P S) = mHm P (vGf P S (cA P S wd tr n)) (-1) * mPr P S := by
        unfold mPr
        generalize mHm P (vGf P S (cA P S wd tr n)) (-1) = q at *
        generalize mRow P 2 (sT S) = r at *
        have h3 : 0 ≤ q * (r - 10 + 10) := Int.mul_nonneg hb.1 (by omega)
        have h4 : 0 ≤ q * (10 - (r - 10)) := Int.mul_nonneg hb.1 (by omega)
        rw [Int.mul_add] at h3
        rw [Int.mul_sub] at h4
        exact zs (by omega)
      rw [e2]
      exact ⟨M1, rfl, f1.mo fB_F⟩
    · rw [if_pos (by omega), s_gift hv hp hD hS (by omega), zB_s, zI_t (by omega)]
      simp only [zW_e, Int.toNat_natCast]
      rw [zsucc (by omega)]
      have f1 : zfr fF M (pI M 22 0 k (vGf P S (cA P S wd tr n) k)) := (zfr.rf M).pI (by simp [fF])
      obtain ⟨M', e2, f2⟩ := ih (k + 1) _ (hk'.e f1.1) (hp.fr f1 fF_p) (sD_g hD h6 (fun t' k h => f1.2 _ _ _ (by simp [fF]; omega))) (fun u hu j hj => by rw [mI_pI_ne (by omega)]; exact hS u hu j hj) (fun t ht => by
        rw [mI_pI]
        by_cases e4 : t = k
        · rw [if_pos ⟨rfl, rfl, e4⟩, e4]
        · rw [if_neg (by omega), h22 t (by omega)]) (by omega) (by omega)
      exact ⟨M', e2, f1.tr f2⟩
theorem s_share5 (hv : VP P) {n : Nat} (hp : CP p P M) (hD : sD P S o a wd tr n M) (hS : sSm P S (cA P S wd tr n) a (qN P) M) : ∀ (m k : Nat), k ≤ qN P → qN P - k < m → Se_share_5 N m a p o (zsum (fun t => if qT P 2 t = o then vGf P S (cA P S wd tr n) t else 0) k) k M = some (zsum (fun t => if qT P 2 t = o then vGf P S (cA P S wd tr n) t else 0) (qN P), M) := by
  intro m
  induction m with
  | zero => intros; omega
  | succ m ih =>
    intro k hk hn
    have h6 := hv.n
    have hi := ih (k + 1)
    have hgb : ∀ t, 0 ≤ vGf P S (cA P S wd tr n) t ∧ vGf P S (cA P S wd tr n) t ≤ 99 := fun t => by rw [← vGf_p]; exact mPow_b
    unfold Se_share_5
    rw [hp.n]
    by_cases e : k = qN P
    · subst e
      rw [if_neg (by omega)]
    · have a1 := zsum_ge (f := fun t => if qT P 2 t = o then vGf P S (cA P S wd tr n) t else 0) (n := k) (a := 0) (fun t _ => by
        have := hgb t
        split <;> omega)
      have a2 := zsum_le (f := fun t => if qT P 2 t = o then vGf P S (cA P S wd tr n) t else 0) (n := k) (a := 99) (fun t _ => by
        have := hgb t
        split <;> omega)
      have a3 := hgb k
      rw [if_pos (by omega), zI_t (by omega), Int.toNat_natCast, hp.o (by omega)]
      simp only [zW_e]
      rw [zsucc (by omega)]
      rw [zsum] at hi
      by_cases b : qT P 2 k = o
      · rw [if_pos b, s_gift hv hp hD hS (by omega), zB_s, zs (by omega)]
        rw [if_pos b] at hi
        exact hi (by omega) (by omega)
      · rw [if_neg b]
        rw [if_neg b, Int.add_zero] at hi
        exact hi (by omega) (by omega)
theorem s_keep2 (hv : VP P) {n : Nat} : ∀ (m k : Nat) (M : ZM), sD P S o a wd tr n M → (∀ t, t < k → mI M 33 a t = cA P S wd tr n t) → k ≤ qN P → qN P - k < m → ∃ M', Se_keepRow_2 N m a (qN P : Nat) k M = some M' ∧ zfr (fun t i _ => t == 33 && i == a) M M' ∧ (∀ t, t < qN P → mI M' 33 a t = cA P S wd tr n t) := by
  intro m
  induction m with
  | zero => intros; omega
  | succ m ih =>
    intro k M hD h33 hk hn
    have h6 := hv.n
    unfold Se_keepRow_2
    by_cases e : k = qN P
    · subst e
      rw [if_neg (by omega)]
      exact ⟨M, rfl, zfr.rf M, h33⟩
    · rw [if_pos (by omega), s_angle hv hD (by omega), zB_s, zI_t (by omega)]
      simp only [zW_e, Int.toNat_natCast]
      rw [zsucc (by omega)]
      have f1 : zfr (fun t i _ => t == 33 && i == a) M (pI M 33 a k (cA P S wd tr n k)) := (zfr.rf M).pI (by simp)
      obtain ⟨M', e2, f2, g2⟩ := ih (k + 1) _ (sD_g hD h6 (fun t' k h => f1.2 _ _ _ (by simp; omega))) (fun t ht => by
        rw [mI_pI]
        by_cases e4 : t = k
        · rw [if_pos ⟨rfl, rfl, e4⟩, e4]
        · rw [if_neg (by omega), h33 t (by omega)]) (by omega) (by omega)
      exact ⟨M', e2, f1.tr f2, g2⟩
/-- the next row -/
theorem s_next4 (hv : VP P) (hw : ∀ i, i < qN P → 1 ≤ wd i ∧ wd i ≤ 5) : ∀ (k m n : Nat) (M : ZM), (∀ u, u < qN P → mI M 37 a u = (wd u : Int)) → (∀ u, u < k → mI M 38 a u = (dgt wd k n u : Int)) → (∀ u, k ≤ u → u < qN P → mI M 38 a u = 0) → n < cW wd k → k ≤ qN P → k < m → (n + 1 = cW wd k ∧ ∃ M', Se_next_4 N m a ((k : Int) - 1) M = some (-1, M') ∧ zfr (fun t i _ => t == 38 && i == a) M M') ∨ (n + 1 < cW wd k ∧ ∃ M' i, Se_next_4 N m a ((k : Int) - 1) M = some (((i : Nat) : Int), M') ∧ i < k ∧ zfr (fun t i _ => t == 38 && i == a) M M' ∧ (∀ u, u < k → mI M' 38 a u = (dgt wd k (n + 1) u : Int)) ∧ (∀ u, k ≤ u → u < qN P → mI M' 38 a u = 0) ∧ (∀ u, u < i → dgt wd k (n + 1) u = dgt wd k n u)) := by
  intro k
  induction k with
  | zero =>
    intro m n M h37 h38 h0 hn hk hm
    cases m with
    | zero => omega
    | succ m =>
      left
      simp only [cW] at hn ⊢
      refine ⟨by omega, M, ?_, zfr.rf M⟩
      unfold Se_next_4
      rw [if_pos (by omega)]
  | succ k ih =>
    intro m n M h37 h38 h0 hn hk hm
    have h6 := hv.n
    obtain ⟨w1, w5⟩ := hw k (by omega)
    cases m with
    | zero => omega
    | succ m =>
      have hd : dgt wd (k + 1) n k = n % wd k := by unfold dgt; rw [if_pos rfl]
      have hr : n % wd k < wd k := Nat.mod_lt _ (by omega)
      have hdm := Nat.div_add_mod n (wd k)
      unfold Se_next_4
      rw [if_neg (by omega), show (((k + 1 : Nat) : Int) - 1) = (k : Int) by omega, zI_t (by omega), zI_t (by omega), Int.toNat_natCast, h38 k (by omega), hd, h37 k (by omega), zsucc (by omega)]
      have hdl : ∀ u, u < k → dgt wd (k + 1) n u = dgt wd k (n / wd k) u := fun u hu => by
        show (if u = k then n % wd k else dgt wd k (n / wd k) u) = _
        rw [if_neg (by omega)]
      by_cases b : n % wd k + 1 < wd k
      · right
        have q1 : (n + 1) / wd k = n / wd k := by
          rw [← hdm, Nat.add_assoc, Nat.mul_add_div (by omega), Nat.div_eq_of_lt b, Nat.mul_add_div (by omega), Nat.div_eq_of_lt hr]
        have q2 : (n + 1) % wd k = n % wd k + 1 := by
          rw [← hdm, Nat.add_assoc, Nat.mul_add_mod, Nat.mod_eq_of_lt b, Nat.mul_add_mod, Nat.mod_eq_of_lt hr]
        have hlt : n + 1 < cW wd (k + 1) := by
          have h1 : n / wd k < cW wd k := Nat.div_lt_of_lt_mul (by rw [Nat.mul_comm]; exact hn)
          have h2 : (n / wd k + 1) * wd k ≤ cW wd k * wd k := Nat.mul_le_mul_right _ h1
          rw [Nat.add_mul, Nat.mul_comm] at h2
          show n + 1 < cW wd k * wd k
          omega
        rw [if_pos (by omega), zI_t (by omega), zI_t (by omega)]
        simp only [zW_e]
        refine ⟨hlt, _, k, rfl, by omega, (zfr.rf M).pI (by simp), fun u hu => ?_, fun u h1 h2 => ?_, fun u hu => ?_⟩
        · rw [mI_pI]
          show _ = ((if u = k then (n + 1) % wd k else dgt wd k ((n + 1) / wd k) u : Nat) : Int)
          rw [q1, q2]
          by_cases e : u = k
          · rw [if_pos ⟨rfl, rfl, e⟩, if_pos e]
          · rw [if_neg (by omega), if_neg e, h38 u hu, hdl u (by omega)]
        · rw [mI_pI_ne (by omega), h0 u h1 h2]
        · show (if u = k then (n + 1) % wd k else dgt wd k ((n + 1) / wd k) u) = (if u = k then n % wd k else dgt wd k (n / wd k) u)
          rw [q1, if_neg (by omega), if_neg (by omega)]
      · have hmx : n % wd k + 1 = wd k := by omega
        have e1 : n + 1 = wd k * (n / wd k + 1) := by rw [Nat.mul_add, Nat.mul_one]; omega
        have q1 : (n + 1) / wd k = n / wd k + 1 := by rw [e1, Nat.mul_div_cancel_left _ (by omega)]
        have q2 : (n + 1) % wd k = 0 := by rw [e1, Nat.mul_mod_right]
        have hq : n / wd k < cW wd k := Nat.div_lt_of_lt_mul (by rw [Nat.mul_comm]; exact hn)
        rw [if_neg (by omega), zI_t (by omega)]
        simp only [zW_e]
        rw [zs (x := (k : Int) + -1) (by omega), show (k : Int) + -1 = (k : Int) - 1 by omega]
        have f1 : zfr (fun t i _ => t == 38 && i == a) M (pI M 38 a k 0) := (zfr.rf M).pI (by simp)
        rcases ih m (n / wd k) (pI M 38 a k 0) (fun u hu => by rw [mI_pI_ne (by omega), h37 u hu]) (fun u hu => by rw [mI_pI_ne (by omega), h38 u (by omega), hdl u hu]) (fun u h1 h2 => by
          rw [mI_pI]
          by_cases e : u = k
          · rw [if_pos ⟨rfl, rfl, e⟩]
          · rw [if_neg (by omega), h0 u (by omega) h2]) hq (by omega) (by omega) with ⟨g1, M', g2, g3⟩ | ⟨g1, M', i, g2, g3, g4, g5, g7, g8⟩
        · left
          refine ⟨?_, M', g2, f1.tr g3⟩
          show n + 1 = cW wd k * wd k
          rw [← g1, Nat.mul_comm]; exact e1
        · right
          refine ⟨?_, M', i, g2, by omega, f1.tr g4, fun u hu => ?_, fun u h1 h2 => g7 u (by omega) h2, fun u hu => ?_⟩
          · show n + 1 < cW wd k * wd k
            have : (n / wd k + 1) * wd k < cW wd k * wd k := Nat.mul_lt_mul_of_pos_right g1 (by omega)
            rw [Nat.mul_comm] at this
            omega
          · show _ = ((if u = k then (n + 1) % wd k else dgt wd k ((n + 1) / wd k) u : Nat) : Int)
            rw [q1, q2]
            by_cases e : u = k
            · rw [if_pos e, g7 u (by omega) (by omega)]; rfl
            · rw [if_neg e, g5 u (by omega)]
          · show (if u = k then (n + 1) % wd k else dgt wd k ((n + 1) / wd k) u) = (if u = k then n % wd k else dgt wd k (n / wd k) u)
            rw [if_neg (by omega), if_neg (by omega), q1]
            exact g8 u hu
end SEEK
