section SREF
variable {N c : Nat} {A : AK} {M : ZM}
theorem r_pby8 {S : SK} (hv : VP (aP A)) (hz : VS c (aP A) S) (hN : 2000 ≤ N) {o f bl : Int} (hf : 0 ≤ f ∧ f ≤ 3) (hb : 0 ≤ bl ∧ bl ≤ 30) : ∀ (n k : Nat) (M : ZM), RP (aP A) M → R0 (qN (aP A)) S M → mI M 11 0 51 = f → mI M 11 0 50 = bl → k ≤ qN (aP A) → qN (aP A) - k < n → ∃ M', Mo_powerBy_8 N n 0 o (zsum (fun t => if qT (aP A) 2 t = o then mPow (aP A) S f bl t else 0) k) k M = some (zsum (fun t => if qT (aP A) 2 t = o then mPow (aP A) S f bl t else 0) (qN (aP A)), M') ∧ zfr fr M M' := by
  intro n
  induction n with
  | zero => intros; omega
  | succ n ih =>
    intro k M hp hs hfr hbl hk hn
    have h6 := hv.n
    have hi := ih (k + 1)
    unfold Mo_powerBy_8
    rw [hp.n]
    by_cases b : k = qN (aP A)
    · subst b
      rw [if_neg (by omega)]
      exact ⟨M, rfl, zfr.rf M⟩
    · have hkN : k < qN (aP A) := by omega
      have a1 := zsum_ge (f := fun t => if qT (aP A) 2 t = o then mPow (aP A) S f bl t else 0) (n := k) (a := 0) (fun t _ => by
        have := mPow_b (P := aP A) (S := S) (fr := f) (bl := bl) (t := t)
        split <;> omega)
      have a2 := zsum_le (f := fun t => if qT (aP A) 2 t = o then mPow (aP A) S f bl t else 0) (n := k) (a := 99) (fun t _ => by
        have := mPow_b (P := aP A) (S := S) (fr := f) (bl := bl) (t := t)
        split <;> omega)
      have a3 := mPow_b (P := aP A) (S := S) (fr := f) (bl := bl) (t := k)
      rw [if_pos (by omega), zI_t (by omega), Int.toNat_natCast, hp.o hkN]
      simp only [zW_e, Int.add_zero]
      rw [zsucc (by omega)]
      rw [zsum] at hi
      by_cases b2 : qT (aP A) 2 k = o
      · obtain ⟨M1, e1, f1⟩ := r_powerOf (N := N) hv hp hs hz hN hfr hf hbl hb hkN
        rw [if_pos b2, e1, zB_s, zs (by omega)]
        rw [if_pos b2] at hi
        obtain ⟨M', e2, f2⟩ := hi M1 (hp.fr f1 fw_p) (hs.fr f1 (fun k _ _ => fw_s (by omega) k)) (by rw [f1.2 _ _ _ (fw_n (by omega)), hfr]) (by rw [f1.2 _ _ _ (fw_n (by omega)), hbl]) (by omega) (by omega)
        exact ⟨M', e2, (f1.mo fw_r).tr f2⟩
      · rw [if_neg b2, zs (by omega)]
        rw [if_neg b2, Int.add_zero] at hi
        exact hi M hp hs hfr hbl (by omega) (by omega)
theorem r_much (hv : VA c A) (hN : 2000 ≤ N) {B : Nat → Int} (hz : VS c (aP A) (sWA (aS A) B)) (hp : RP (aP A) M) (hs : R0 (qN (aP A)) (sWA (aS A) B) M) {o : Int} : ∃ M', (if o = 0 then Mo_soldNow N 0 M else Mo_powerBy N 0 o M) = some (mVal (aP A) (aS A) o B, M') ∧ zfr fr M M' := by
  have h6 := hv.p.n
  unfold mVal
  by_cases b : o = 0
  · rw [if_pos b, if_pos b]
    obtain ⟨M1, e1, f1, _⟩ := r_soldNow (N := N) hv.p hz hN hp hs
    exact ⟨M1, e1, f1⟩
  · rw [if_neg b, if_neg b]
    unfold Mo_powerBy
    obtain ⟨M1, e1, f1, g1, g2⟩ := r_looks (N := N) hv.p hp hs hz.t
    rw [e1, zBv_s]
    obtain ⟨M2, e2, f2⟩ := r_pby8 (N := N) hv.p hz hN (o := o) (hv.p.fr hz.t) (hv.p.bl hz.t) N 0 M1 (hp.fr f1 fr_p) (hs.fr f1 (fun k _ _ => fr_s (by omega) k)) g2 g1 (by omega) (by omega)
    exact ⟨M2, e2, f1.tr f2⟩
/-- the room of a search -/
def rT (A : AK) (B : Nat → Int) (b : Int) (v : Nat) (M : ZM) : Prop := rE 83 A (sWA (aS A) B) M ∧ mI M 11 0 54 = b ∧ mI M 11 0 55 = (v : Int)
theorem own_bit (hv : VP (aP A)) {o : Int} {t : Nat} (ht : t < qN (aP A)) : z_and (z_shr ((zbts (mOwn (aP A) o) (qN (aP A)) : Nat) : Int) (t : Int)) 1 = if mOwn (aP A) o t then 1 else 0 := by
  have h6 := hv.n
  rw [zan_b _ (pow64 h6 zbts_lt) _ (by omega), zbts_t]
  simp [ht]
theorem m_ta88 (hv : VA c A) (hN : 2000 ≤ N) {o : Int} {rec68 : Nat → Int → Int → Int → Int → ZM → Option ZM} {rows v : Nat} (hvv : v < 100000) {b : Int} {bv : Nat} : ∀ (k n left : Nat) (B : Nat → Int) (M : ZM), left ≤ v → (∀ t, t < 6 → 0 ≤ B t ∧ B t ≤ 4) → rT A B b bv M → k ≤ qN (aP A) → k < n → ∃ M', Mo_turnsAll_88 N rec68 n 0 ((zbts (mOwn (aP A) o) (qN (aP A)) : Nat) : Int) o rows v left ((k : Int) - 1) M = rec68 0 ((zbts (mOwn (aP A) o) (qN (aP A)) : Nat) : Int) o rows ((v + 1 : Nat) : Int) M' ∧ zfr fQ M M' ∧ rT A (mDg (aP A) o k left B) (if b < mVal (aP A) (aS A) o (mDg (aP A) o k left B) then mVal (aP A) (aS A) o (mDg (aP A) o k left B) else b) (if b < mVal (aP A) (aS A) o (mDg (aP A) o k left B) then v else bv) M' := by
  intro k
  induction k with
  | zero =>
    intro n left B M hl hB hT hk hn
    cases n with
    | zero => omega
    | succ n =>
      have hz : VS c (aP A) (sWA (aS A) B) := ⟨hv.s.1, hv.s.2.1, hB, hv.s.2.2.2.1, hv.s.2.2.2.2⟩
      obtain ⟨M1, e1, f1⟩ := r_much (N := N) hv hN hz hT.1.2.1 hT.1.2.2.1 (o := o)
      have hE1 := rE_r (.inr rfl) hT.1 f1
      have h54 : mI M1 11 0 54 = b := by rw [f1.2 _ _ _ (by simp [fr]), hT.2.1]
      have h55 : mI M1 11 0 55 = (bv : Int) := by rw [f1.2 _ _ _ (by simp [fr]), hT.2.2]
      have k146 : ∃ M', Mo_turnsAll_146 N rec68 0 ((zbts (mOwn (aP A) o) (qN (aP A)) : Nat) : Int) o rows v (mVal (aP A) (aS A) o B) M1 = rec68 0 ((zbts (mOwn (aP A) o) (qN (aP A)) : Nat) : Int) o rows ((v + 1 : Nat) : Int) M' ∧ zfr fQ M M' ∧ rT A B (if b < mVal (aP A) (aS A) o B then mVal (aP A) (aS A) o B else b) (if b < mVal (aP A) (aS A) o B then v else bv) M' := by
        unfold Mo_turnsAll_146
        simp only [zW_e]
        rw [h54, zsucc (by omega)]
        by_cases bb : b < mVal (aP A) (aS A) o B
        · rw [if_pos bb, if_pos bb, if_pos bb]
          have f2 : zfr fQ M1 (pI (pI M1 11 0 54 (mVal (aP A) (aS A) o B)) 11 0 55 (v : Int)) := ((zfr.rf M1).pI (by simp [fQ])).pI (by simp [fQ])
          refine ⟨_, rfl, (f1.mo fr_Q).tr f2, ⟨hE1.1.e rfl, hE1.2.1.fr f2 fQ_p, hE1.2.2.1.g (fun k _ _ => ?_), hE1.2.2.2.g (fun k _ _ => ?_)⟩, ?_, mI_pI_eq⟩
          · rw [mI_pI_ne (by omega), mI_pI_ne (by omega)]
          · rw [mI_pI_ne (by omega), mI_pI_ne (by omega)]
          · rw [mI_pI_ne (by omega), mI_pI_eq]
        · rw [if_neg bb, if_neg bb, if_neg bb]
          exact ⟨M1, rfl, f1.mo fr_Q, hE1, h54, h55⟩
      unfold Mo_turnsAll_88
      rw [if_pos (by omega)]
      by_cases bo : o = 0
      · rw [if_pos bo] at e1
        rw [if_pos bo, e1, zB_s]
        exact k146
      · rw [if_neg bo] at e1
        rw [if_neg bo, e1, zB_s]
        exact k146
  | succ k ih =>
    intro n left B M hl hB hT hk hn
    cases n with
    | zero => omega
    | succ n =>
      have h6 := hv.p.n
      unfold Mo_turnsAll_88
      rw [if_neg (by omega), show (((k + 1 : Nat) : Int) - 1) = (k : Int) by omega, own_bit hv.p (by omega)]
      simp only [zW_e]
      rw [zs (x := (k : Int) + -1) (by omega), show (k : Int) + -1 = (k : Int) - 1 by omega]
      unfold mDg
      by_cases bo : mOwn (aP A) o k = true
      · have e4 : z32 (4 + (k : Int)) = ((4 + k : Nat) : Int) := by rw [zs (by omega)]; omega
        have e5 : (left : Int).tmod 5 = ((left % 5 : Nat) : Int) := by rw [Int.tmod_eq_emod_of_nonneg (by omega)]; omega
        have e6 : z32 ((left : Int).tdiv 5) = ((left / 5 : Nat) : Int) := by rw [Int.tdiv_eq_ediv_of_nonneg (by omega), zs (by omega)]; omega
        rw [if_pos bo, if_neg (by decide), e4, e5, e6, if_pos bo]
        clear e4 e5 e6
        rw [zI_t (by omega), Int.toNat_natCast]
        have f1 : zfr fQ M (pI M 81 0 (4 + k) ((left % 5 : Nat) : Int)) := (zfr.rf M).pI (by simp [fQ])
        have hw := R0.wa hT.1.2.2.1 (t := k) (by omega) ((left % 5 : Nat) : Int)
        have hT1 : rT A (mPut B k ((left % 5 : Nat) : Int)) b bv (pI M 81 0 (4 + k) ((left % 5 : Nat) : Int)) := ⟨⟨hT.1.1.e rfl, hT.1.2.1.fr f1 fQ_p, hw, hT.1.2.2.2.g (fun k _ _ => mI_pI_ne (by omega))⟩, (mI_pI_ne (by omega)).trans hT.2.1, (mI_pI_ne (by omega)).trans hT.2.2⟩
        obtain ⟨M', e2, f2, g2⟩ := ih n (left / 5) (mPut B k ((left % 5 : Nat) : Int)) _ (by omega) (fun t ht => by
          unfold mPut
          split
          · omega
          · exact hB t ht) hT1 (by omega) (by omega)
        exact ⟨M', e2, f1.tr f2, g2⟩
      · rw [if_neg bo, if_pos rfl, if_neg bo]
        exact ih n left B M hl hB hT (by omega) (by omega)
theorem m_ta68 (hv : VA c A) (hN : 20000 ≤ N) {o : Int} : ∀ (n v : Nat) (B : Nat → Int) (M : ZM), v ≤ mRw (aP A) o (qN (aP A)) → mRw (aP A) o (qN (aP A)) - v < n → (∀ t, t < 6 → 0 ≤ B t ∧ B t ≤ 4) → (∀ t, ¬ (t < qN (aP A) ∧ mOwn (aP A) o t = true) → B t = sA (aS A) t) → rT A B (mBst (aP A) (aS A) o v).1 (mBst (aP A) (aS A) o v).2 M → ∃ M', Mo_turnsAll_68 N n 0 ((zbts (mOwn (aP A) o) (qN (aP A)) : Nat) : Int) o (mRw (aP A) o (qN (aP A))) v M = some M' ∧ zfr fQ M M' ∧ R0 (qN (aP A)) (aS A) M' ∧ mI M' 11 0 54 = mMost (aP A) (aS A) o ∧ mI M' 11 0 55 = ((mBst (aP A) (aS A) o (mRw (aP A) o (qN (aP A)))).2 : Int) := by
  intro n
  induction n with
  | zero => intros; omega
  | succ n ih =>
    intro v B M hv1 hn hB hBo hT
    have h6 := hv.p.n
    have hr : mRw (aP A) o (qN (aP A)) ≤ 15625 := Nat.le_trans mRw_le (Nat.pow_le_pow_right (n := 5) (j := 6) (by decide) h6)
    unfold Mo_turnsAll_68
    by_cases e : v = mRw (aP A) o (qN (aP A))
    · rw [if_neg (by omega)]
      obtain ⟨M2, e2, f2, s2⟩ := r_back (N := N) (.inr rfl) (by omega) hT.1.1 hT.1.2.2.2
      have h11 : ∀ k, mI M2 11 0 k = mI M 11 0 k := fun k => by
        obtain ⟨M3, e3, k3, s3, r3⟩ := r_copies (N := N) (t := 83) (t2 := 81) (a := 0) (b := 0) (x := 0) (y := 0) (by omega) rfl rfl (by omega) (by omega) (by rw [hT.1.1.n 16 (fun _ => rfl)]; omega) (by rw [hT.1.1.n 16 (fun _ => rfl)]; omega) (by omega) hT.1.2.2.2
        rw [e2] at e3
        cases e3
        exact r3 _ _ _ (by omega)
      rw [e2, zBv_s]
      refine ⟨M2, rfl, f2, s2, ?_, ?_⟩
      · rw [h11, hT.2.1, e]; rfl
      · rw [h11, hT.2.2, e]
    · rw [if_pos (by omega), hT.1.2.1.n]
      simp only [zW_e]
      rw [zs (x := ((qN (aP A) : Nat) : Int) - 1) (by omega)]
      obtain ⟨M1, e1, f1, g1⟩ := m_ta88 (N := N) (rec68 := Mo_turnsAll_68 N n) hv (by omega) (o := o) (rows := mRw (aP A) o (qN (aP A))) (v := v) (by omega) (qN (aP A)) N v B M (Nat.le_refl _) hB hT (Nat.le_refl _) (by omega)
      rw [e1]
      have hD : ∀ t, mDg (aP A) o (qN (aP A)) v B t = mDg (aP A) o (qN (aP A)) v (sA (aS A)) t := mDg_cg hBo
      have hDe : mDg (aP A) o (qN (aP A)) v B = mDg (aP A) o (qN (aP A)) v (sA (aS A)) := funext hD
      rw [hDe] at g1
      obtain ⟨M', e2, f2, g2⟩ := ih (v + 1) (mDg (aP A) o (qN (aP A)) v (sA (aS A))) M1 (by omega) (by omega) (fun t ht => mDg_b (fun t ht => hv.s.2.2.1 t ht) t ht) (fun t ht => by
        by_cases e3 : t < qN (aP A)
        · exact mDg_no (by
            by_cases e4 : mOwn (aP A) o t = true
            · exact absurd ⟨e3, e4⟩ ht
            · simpa using e4)
        · exact mDg_hi (by omega)) (by
        have hm : mBst (aP A) (aS A) o (v + 1) = if (mBst (aP A) (aS A) o v).1 < mVal (aP A) (aS A) o (mDg (aP A) o (qN (aP A)) v (sA (aS A))) then (mVal (aP A) (aS A) o (mDg (aP A) o (qN (aP A)) v (sA (aS A))), v) else mBst (aP A) (aS A) o v := rfl
        rw [hm]
        by_cases bb : (mBst (aP A) (aS A) o v).1 < mVal (aP A) (aS A) o (mDg (aP A) o (qN (aP A)) v (sA (aS A)))
        · rw [if_pos bb]
          rw [if_pos bb, if_pos bb] at g1
          exact g1
        · rw [if_neg bb]
          rw [if_neg bb, if_neg bb] at g1
          exact g1)
      exact ⟨M', e2, f1.tr f2, g2⟩
theorem m_ta18 (hv : VA c A) (hN : 20000 ≤ N) {o : Int} : ∀ (n k : Nat) (M : ZM), k ≤ qN (aP A) → qN (aP A) - k < n → rE 83 A (aS A) M → ∃ M', Mo_turnsAll_18 N n 0 ((zbts (mOwn (aP A) o) (qN (aP A)) : Nat) : Int) o (mRw (aP A) o k) k M = some M' ∧ zfr fQ M M' ∧ R0 (qN (aP A)) (aS A) M' ∧ mI M' 11 0 54 = mMost (aP A) (aS A) o ∧ mI M' 11 0 55 = ((mBst (aP A) (aS A) o (mRw (aP A) o (qN (aP A)))).2 : Int) := by
  intro n
  induction n with
  | zero => intros; omega
  | succ n ih =>
    intro k M hk hn hE
    have h6 := hv.p.n
    have hr : mRw (aP A) o k ≤ 15625 := Nat.le_trans mRw_le (Nat.pow_le_pow_right (n := 5) (j := 6) (by decide) (by omega))
    unfold Mo_turnsAll_18
    rw [hE.2.1.n]
    by_cases b : k = qN (aP A)
    · subst b
      rw [if_neg (by omega)]
      simp only [zW_e]
      have f1 : zfr fQ M (pI (pI M 11 0 54 (-1000000)) 11 0 55 0) := ((zfr.rf M).pI (by simp [fQ])).pI (by simp [fQ])
      have hT : rT A (sA (aS A)) (mBst (aP A) (aS A) o 0).1 (mBst (aP A) (aS A) o 0).2 (pI (pI M 11 0 54 (-1000000)) 11 0 55 0) := by
        refine ⟨⟨hE.1.e rfl, hE.2.1.fr f1 fQ_p, hE.2.2.1.g (fun k _ _ => ?_), hE.2.2.2.g (fun k _ _ => ?_)⟩, ?_, mI_pI_eq⟩
        · rw [mI_pI_ne (by omega), mI_pI_ne (by omega)]
        · rw [mI_pI_ne (by omega), mI_pI_ne (by omega)]
        · rw [mI_pI_ne (by omega), mI_pI_eq]; rfl
      obtain ⟨M', e2, f2, g2⟩ := m_ta68 (N := N) hv hN (o := o) N 0 (sA (aS A)) _ (by omega) (by omega) (fun t ht => hv.s.2.2.1 t ht) (fun _ _ => rfl) hT
      exact ⟨M', e2, f1.tr f2, g2⟩
    · rw [if_pos (by omega), own_bit hv.p (by omega)]
      simp only [zW_e]
      rw [zsucc (by omega)]
      have hi := ih (k + 1) M (by omega) (by omega) hE
      rw [mRw] at hi
      by_cases bo : mOwn (aP A) o k = true
      · rw [if_pos bo, if_pos rfl, zs (by omega)]
        rw [if_pos bo, Int.natCast_mul] at hi
        exact hi
      · rw [if_neg bo, if_neg (by decide), zs (by omega)]
        rw [if_neg bo, Int.natCast_mul] at hi
        exact hi
theorem m_turnsAll (h : RA A M) (hv : VA c A) (hN : 20000 ≤ N) (o : Int) : ∃ M', Mo_turnsAll N 0 ((zbts (mOwn (aP A) o) (qN (aP A)) : Nat) : Int) o M = some M' ∧ zfr fQ M M' ∧ R0 (qN (aP A)) (aS A) M' ∧ mI M' 11 0 54 = mMost (aP A) (aS A) o ∧ mI M' 11 0 55 = ((mBst (aP A) (aS A) o (mRw (aP A) o (qN (aP A)))).2 : Int) := by
  have h6 := hv.p.n
  unfold Mo_turnsAll
  obtain ⟨M1, e1, f1, s1, s2⟩ := r_aside (N := N) h (.inr rfl) (by omega)
  rw [e1, zBv_s]
  obtain ⟨M', e2, f2, g2⟩ := m_ta18 (N := N) hv hN (o := o) N 0 M1 (by omega) (by omega) ⟨h.k.e f1.1, h.p.fr f1 fQ_p, s2, s1⟩
  exact ⟨M', e2, f1.tr f2, g2⟩
theorem m_fo15 (hv : VA c A) (hs : R0 (qN (aP A)) (aS A) M) {o : Int} {t : Nat} (ht : t < qN (aP A)) : ∀ (k n left : Nat) (B : Nat → Int), t ≤ k → k < qN (aP A) → k - t < n → left < 100000 → (∀ u, u ≤ t → B u = sA (aS A) u) → Mo_foundOf_15 N n 0 ((zbts (mOwn (aP A) o) (qN (aP A)) : Nat) : Int) t left k M = some (mDg (aP A) o (k + 1) left B t, M) := by
  intro k
  induction k with
  | zero =>
    intro n left B h1 h2 hn hl hB
    have h6 := hv.p.n
    cases n with
    | zero => omega
    | succ n =>
      have h0 : t = 0 := by omega
      subst h0
      have ez : z32 (4 + ((0 : Nat) : Int)) = ((4 + 0 : Nat) : Int) := by decide
      unfold Mo_foundOf_15
      rw [if_neg (by omega), own_bit hv.p (by omega), ez, zI_t (by decide), Int.toNat_natCast, hs.a (by omega)]
      have e5 : (left : Int).tmod 5 = ((left % 5 : Nat) : Int) := by rw [Int.tmod_eq_emod_of_nonneg (by omega)]; omega
      rw [e5]
      unfold mDg
      by_cases bo : mOwn (aP A) o 0 = true
      · rw [if_pos bo, if_pos rfl, if_pos bo]; rfl
      · rw [if_neg bo, if_neg (by decide), if_neg bo]
        rw [mDg_hi (Nat.le_refl _), hB 0 (by omega)]
  | succ k ih =>
    intro n left B h1 h2 hn hl hB
    have h6 := hv.p.n
    cases n with
    | zero => omega
    | succ n =>
      unfold Mo_foundOf_15
      by_cases e : t = k + 1
      · have ez : z32 (4 + (t : Int)) = ((4 + t : Nat) : Int) := by rw [zs (by omega)]; omega
        rw [if_neg (by omega), own_bit hv.p ht, ez]
        clear ez
        rw [zI_t (by omega), Int.toNat_natCast, hs.a (by omega)]
        have e5 : (left : Int).tmod 5 = ((left % 5 : Nat) : Int) := by rw [Int.tmod_eq_emod_of_nonneg (by omega)]; omega
        rw [e5]
        clear e5
        rw [e]
        unfold mDg
        by_cases bo : mOwn (aP A) o (k + 1) = true
        · rw [if_pos bo, if_pos rfl, if_pos bo, mDg_hi (Nat.le_refl _), mPut, if_pos rfl]
        · rw [if_neg bo, if_neg (by decide), if_neg bo, mDg_hi (Nat.le_refl _), hB (k + 1) (by omega)]
      · rw [if_pos (by omega), own_bit hv.p (by omega)]
        simp only [zW_e]
        have ek : z32 (((k + 1 : Nat) : Int) + -1) = (k : Int) := by rw [zs (by omega)]; omega
        have e6 : z32 ((left : Int).tdiv 5) = ((left / 5 : Nat) : Int) := by rw [Int.tdiv_eq_ediv_of_nonneg (by omega), zs (by omega)]; omega
        have e7 : z32 ((left : Int).tdiv 1) = (left : Int) := by rw [Int.tdiv_one, zs (by omega)]
        rw [ek, e6, e7]
        clear ek e6 e7
        rw [mDg]
        by_cases bo : mOwn (aP A) o (k + 1) = true
        · rw [if_pos bo, if_pos rfl, if_pos bo]
          exact ih n (left / 5) _ (by omega) (by omega) (by omega) (by omega) (fun u hu => by unfold mPut; rw [if_neg (by omega)]; exact hB u hu)
        · rw [if_neg bo, if_neg (by decide), if_neg bo]
          exact ih n left B (by omega) (by omega) (by omega) hl hB
theorem m_found (h : RA A M) (hv : VA c A) (hN : 20000 ≤ N) {o : Int} (h55 : mI M 11 0 55 = ((mBst (aP A) (aS A) o (mRw (aP A) o (qN (aP A)))).2 : Int)) {t : Nat} (ht : t < qN (aP A)) : Mo_foundOf N 0 ((zbts (mOwn (aP A) o) (qN (aP A)) : Nat) : Int) t M = some (mRowB (aP A) (aS A) o t, M) := by
  have h6 := hv.p.n
  have hr : mRw (aP A) o (qN (aP A)) ≤ 15625 := Nat.le_trans mRw_le (Nat.pow_le_pow_right (n := 5) (j := 6) (by decide) h6)
  have hFb : ∀ u, -1000000 < mVal (aP A) (aS A) o (mDg (aP A) o (qN (aP A)) u (sA (aS A))) := fun u => by
    have hz' : VS c (aP A) (sWA (aS A) (mDg (aP A) o (qN (aP A)) u (sA (aS A)))) := ⟨hv.s.1, hv.s.2.1, fun k hk => mDg_b (fun t ht => hv.s.2.2.1 t ht) k hk, hv.s.2.2.2.1, hv.s.2.2.2.2⟩
    have := mVal_b hv.p (o := o) hz'
    omega
  have hb := (mBst_is (P := aP A) (o := o) (S := aS A) (F := fun u => mVal (aP A) (aS A) o (mDg (aP A) o (qN (aP A)) u (sA (aS A)))) (fun _ => rfl) hFb (n := mRw (aP A) o (qN (aP A))) mRw_pos).1
  unfold Mo_foundOf
  simp only [zW_e]
  rw [h55, h.p.n, zs (x := ((qN (aP A) : Nat) : Int) - 1) (by omega), show ((qN (aP A) : Nat) : Int) - 1 = ((qN (aP A) - 1 : Nat) : Int) by omega]
  rw [m_fo15 (N := N) hv h.s ht (qN (aP A) - 1) N _ (sA (aS A)) (by omega) (by omega) (by omega) (by omega) (fun _ _ => rfl)]
  rw [show qN (aP A) - 1 + 1 = qN (aP A) by omega]
  rfl
def qBest (A : AK) (x : Int) : Int := if x = -1 then mMost (aP A) (aS A) 0 else if 0 ≤ x ∧ x < qN (aP A) then mRowB (aP A) (aS A) 0 x.toNat else -1000000
def qAlone (A : AK) (y x : Int) : Int := if 1 ≤ y ∧ y ≤ 2 then (if x = -1 then mMost (aP A) (aS A) y else if 0 ≤ x ∧ x < qN (aP A) then mRowB (aP A) (aS A) y x.toNat else -2) else -2
theorem m_search (h0 : RA A M) (hv : VA c A) (hN : 20000 ≤ N) {o x : Int} (hx : x = -1 ∨ (0 ≤ x ∧ x < qN (aP A))) : ∃ M', (zB (Mo_ownedBy N 0 o M) fun v101 M101 => zBv (Mo_turnsAll N 0 v101 o M101) fun M102 => if x = (-1) then some (mI M102 11 0 54, M102) else zB (Mo_ownedBy N 0 o M102) fun v103 M103 => zB (Mo_foundOf N 0 v103 x M103) fun v104 M104 => some (v104, M104)) = some (if x = -1 then mMost (aP A) (aS A) o else mRowB (aP A) (aS A) o x.toNat, M') ∧ zfr fQ M M' ∧ R0 (qN (aP A)) (aS A) M' := by
  rw [r_ownedBy hv.p h0.p (by omega), zB_s]
  obtain ⟨M1, e1, f1, s1, g1, g2⟩ := m_turnsAll (N := N) h0 hv hN o
  rw [e1, zBv_s]
  by_cases b : x = -1
  · rw [if_pos b, if_pos b, g1]
    exact ⟨M1, rfl, f1, s1⟩
  · have h1 := h0.fq f1 s1
    obtain ⟨k, rfl⟩ : ∃ k : Nat, x = k := ⟨x.toNat, by omega⟩
    rw [if_neg b, if_neg b, r_ownedBy hv.p h1.p (by omega), zB_s, m_found h1 hv hN g2 (by omega), zB_s, Int.toNat_natCast]
    exact ⟨M1, rfl, f1, s1⟩
theorem m_best (h : RA A M) (hv : VA c A) (hN : 20000 ≤ N) (x : Int) : ∃ M', Mo_best N 0 x M = some (qBest A x, M') ∧ RA A M' ∧ zRl M M' := by
  have h0 := h.z 0
  unfold Mo_best qBest Mo_best_22
  simp only [zW_e]
  by_cases b : x = -1
  · obtain ⟨M1, e1, f1, s1⟩ := m_search (N := N) h0 hv hN (o := 0) (x := x) (.inl b)
    rw [if_pos b, e1, if_pos b, if_pos b]
    exact h.e2 f1 s1 rfl
  · rw [if_neg b, r_isTurbine h0.p, zB_s, if_neg b]
    by_cases b2 : 0 ≤ x ∧ x < qN (aP A)
    · obtain ⟨M1, e1, f1, s1⟩ := m_search (N := N) h0 hv hN (o := 0) (x := x) (.inr b2)
      rw [if_pos b2, if_neg (by decide), e1, if_neg b, if_pos b2]
      exact h.e2 f1 s1 rfl
    · rw [if_neg b2, if_pos rfl, if_neg b2]
      exact h.e0 rfl
theorem m_alone (h : RA A M) (hv : VA c A) (hN : 20000 ≤ N) (y x : Int) : ∃ M', Mo_alone N 0 y x M = some (qAlone A y x, M') ∧ RA A M' ∧ zRl M M' := by
  have h0 := h.z 0
  unfold Mo_alone qAlone Mo_alone_30
  simp only [zW_e]
  rw [r_within, zB_s]
  by_cases by1 : 1 ≤ y ∧ y ≤ 2
  · rw [if_pos by1, if_neg (by decide), if_pos by1]
    by_cases b : x = -1
    · obtain ⟨M1, e1, f1, s1⟩ := m_search (N := N) h0 hv hN (o := y) (x := x) (.inl b)
      rw [if_pos b, e1, if_pos b, if_pos b]
      exact h.e2 f1 s1 rfl
    · rw [if_neg b, r_isTurbine h0.p, zB_s, if_neg b]
      by_cases b2 : 0 ≤ x ∧ x < qN (aP A)
      · obtain ⟨M1, e1, f1, s1⟩ := m_search (N := N) h0 hv hN (o := y) (x := x) (.inr b2)
        rw [if_pos b2, if_neg (by decide), e1, if_neg b, if_pos b2]
        exact h.e2 f1 s1 rfl
      · rw [if_neg b2, if_pos rfl, if_neg b2]
        exact h.e0 rfl
  · rw [if_neg by1, if_pos rfl, if_neg by1]
    exact h.e0 rfl
end SREF
