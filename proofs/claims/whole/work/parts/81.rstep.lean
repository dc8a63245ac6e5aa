/-- what is written by a step of the reference -/
def fp (t i k : Nat) : Bool := fr t i k || t == 81
theorem fr_fp : ∀ t i k, fp t i k = false → fr t i k = false := by
  intro t i k h; simp [fp] at h; exact h.1
theorem fp_p : ∀ t k, t = 51 ∨ (53 ≤ t ∧ t ≤ 61) → fp t 0 k = false := by
  intro t k h; simp [fp, fr]; omega
section RSTEP
variable {N : Nat} {P : PK} {S : SK} {M : ZM} {c : Nat}
theorem r_home35 (hv : VP P) (hN : 2000 ≤ N) {pw : Nat → Int} {x : Int} (hpw : ∀ t, t < qN P → 0 ≤ pw t ∧ pw t ≤ 99) : ∀ (far n : Nat) (M : ZM), RP P M → far ≤ 6 → (∀ t, t < qN P → mI M 88 0 t = rIn P (mLd P pw x) pw (rDn P far 0) t) → far < n → ∃ M', Mo_homeBy_35 N n 0 x (rAl P (mLd P pw x) (rDn P far 0)) far M = some (mHm P pw x, M') ∧ zfr fc M M' ∧ (∀ t, t < qN P → qT P 4 t ≠ -1 → mI M' 88 0 t = mLd P pw x t) := by
  intro far
  induction far with
  | zero =>
    intro n M h hfar hI hn
    cases n with
    | zero => omega
    | succ n =>
      unfold Mo_homeBy_35
      rw [if_neg (by omega)]
      have hD : ∀ u, u < qN P → qT P 4 u ≠ -1 → rDn P 0 0 u = true := fun u hu hg => by
        have := ((mHop_b hv hu).2.1 hg).1
        simp [rDn]; omega
      refine ⟨M, ?_, zfr.rf M, fun t ht hg => ?_⟩
      · rw [mHm_eq hv]
        unfold rAl
        rw [zsum_cg (g := fun u => if qT P 4 u = 6 then mLd P pw x u else 0)]
        intro u hu
        by_cases e : qT P 4 u = 6
        · rw [if_pos ⟨e, hD u hu (by omega)⟩, if_pos e]
        · rw [if_neg (fun h => e h.1), if_neg e]
      · rw [hI t ht, rIn, hD t ht hg, if_pos rfl]
  | succ far ih =>
    intro n M h hfar hI hn
    cases n with
    | zero => omega
    | succ n =>
      have h6 := hv.n
      unfold Mo_homeBy_35
      rw [if_pos (by omega)]
      obtain ⟨M1, e1, f1, g1⟩ := r_home42 (N := N) hv hN (x := x) hpw (rec35 := Mo_homeBy_35 N n) (far := far + 1) (by omega) N 0 M h hI (by omega) (by omega)
      rw [show ((0 : Nat) : Int) = 0 from rfl] at e1
      rw [e1]
      have hDe : rDn P (far + 1) (qN P) = rDn P far 0 ∨ True := .inr trivial
      have hD : ∀ u, u < qN P → rDn P (far + 1) (qN P) u = rDn P far 0 u := fun u hu => by
        unfold rDn
        rw [Bool.eq_iff_iff]
        simp
        omega
      have eA : rAl P (mLd P pw x) (rDn P (far + 1) (qN P)) = rAl P (mLd P pw x) (rDn P far 0) := zsum_cg fun u hu => by rw [hD u hu]
      have eI : ∀ t, t < qN P → rIn P (mLd P pw x) pw (rDn P (far + 1) (qN P)) t = rIn P (mLd P pw x) pw (rDn P far 0) t := fun t ht => by
        unfold rIn
        rw [hD t ht, zsum_cg (fun u hu => by rw [hD u hu])]
      rw [eA, show (((far + 1 : Nat) : Int) - 1) = (far : Int) by omega]
      obtain ⟨M', e2, f2, g2⟩ := ih n M1 (h.fr f1 fc_p) (by omega) (fun t ht => by rw [g1 t ht, eI t ht]) (by omega)
      exact ⟨M', e2, f1.tr f2, g2⟩
theorem r_home4 (hv : VP P) (hN : 2000 ≤ N) {pw : Nat → Int} {x : Int} (hpw : ∀ t, t < qN P → 0 ≤ pw t ∧ pw t ≤ 99) : ∀ (n k : Nat) (M : ZM), RP P M → (∀ t, t < qN P → mI M 87 0 t = pw t) → (∀ t, t < k → mI M 88 0 t = pw t) → k ≤ qN P → qN P - k < n → ∃ M', Mo_homeBy_4 N n 0 x 0 k M = some (mHm P pw x, M') ∧ zfr fc M M' ∧ (∀ t, t < qN P → qT P 4 t ≠ -1 → mI M' 88 0 t = mLd P pw x t) := by
  intro n
  induction n with
  | zero => intros; omega
  | succ n ih =>
    intro k M h h87 h88 hk hn
    have h6 := hv.n
    unfold Mo_homeBy_4
    rw [h.n]
    by_cases b : k = qN P
    · subst b
      rw [if_neg (by omega)]
      have hD : ∀ u, u < qN P → rDn P 6 0 u = false := fun u hu => by
        have hb := mHop_b hv hu
        by_cases e : qT P 4 u = -1
        · have := hb.1 e; simp [rDn]; omega
        · have := hb.2.1 e; simp [rDn]; omega
      obtain ⟨M', e2, f2, g2⟩ := r_home35 (N := N) hv hN (x := x) hpw 6 N M h (by omega) (fun t ht => by
        rw [h88 t ht, rIn, hD t ht, zsum_0 (fun u hu => by rw [hD u hu]; simp)]; simp) (by omega)
      have e0 : rAl P (mLd P pw x) (rDn P 6 0) = 0 := zsum_0 (fun u hu => by rw [hD u hu]; simp)
      rw [e0] at e2
      exact ⟨M', e2, f2, g2⟩
    · rw [if_pos (by omega), zI_t (by omega), zI_t (by omega)]
      simp only [zW_e, Int.toNat_natCast]
      rw [zsucc (by omega), h87 k (by omega)]
      have f1 : zfr fc M (pI M 88 0 k (pw k)) := (zfr.rf M).pI (by simp [fc])
      obtain ⟨M', e2, f2, g2⟩ := ih (k + 1) _ (h.fr f1 fc_p) (fun t ht => by rw [mI_pI_ne (by omega), h87 t ht]) (fun t ht => by
        rw [mI_pI]
        by_cases e : t = k
        · rw [if_pos ⟨rfl, rfl, e⟩, e]
        · rw [if_neg (by omega), h88 t (by omega)]) (by omega) (by omega)
      exact ⟨M', e2, f1.tr f2, g2⟩
theorem r_homeBy (hv : VP P) (hN : 2000 ≤ N) (h : RP P M) {pw : Nat → Int} {x : Int} (hpw : ∀ t, t < qN P → 0 ≤ pw t ∧ pw t ≤ 99) (h87 : ∀ t, t < qN P → mI M 87 0 t = pw t) : ∃ M', Mo_homeBy N 0 x M = some (mHm P pw x, M') ∧ zfr fc M M' ∧ (∀ t, t < qN P → qT P 4 t ≠ -1 → mI M' 88 0 t = mLd P pw x t) := by
  have h6 := hv.n
  exact r_home4 hv hN hpw N 0 M h h87 (fun t ht => by omega) (by omega) (by omega)
def f87 (t _i _k : Nat) : Bool := (64 ≤ t && t ≤ 73) || t == 87
theorem f87_r : ∀ t i k, fr t i k = false → f87 t i k = false := by
  intro t i k h; simp [fr] at h; simp [f87]; omega
theorem f87_p : ∀ t k, t = 51 ∨ (53 ≤ t ∧ t ≤ 61) → f87 t 0 k = false := by
  intro t k h; simp [f87]; omega
theorem fw_87 : ∀ t i k, f87 t i k = false → fw t i k = false := by
  intro t i k h; simp [f87] at h; simp [fw]; omega
theorem r_lays2 (hv : VP P) (hz : VS c P S) (hN : 2000 ≤ N) {f bl : Int} (hf : 0 ≤ f ∧ f ≤ 3) (hb : 0 ≤ bl ∧ bl ≤ 30) : ∀ (n k : Nat) (M : ZM), RP P M → R0 (qN P) S M → mI M 11 0 51 = f → mI M 11 0 50 = bl → (∀ t, t < k → mI M 87 0 t = mPow P S f bl t) → k ≤ qN P → qN P - k < n → ∃ M', Mo_laysPowers_2 N n 0 k M = some M' ∧ zfr f87 M M' ∧ (∀ t, t < qN P → mI M' 87 0 t = mPow P S f bl t) := by
  intro n
  induction n with
  | zero => intros; omega
  | succ n ih =>
    intro k M h hs hfr hbl h87 hk hn
    have h6 := hv.n
    unfold Mo_laysPowers_2
    rw [h.n]
    by_cases b : k = qN P
    · subst b
      rw [if_neg (by omega)]
      exact ⟨M, rfl, zfr.rf M, h87⟩
    · rw [if_pos (by omega)]
      obtain ⟨M1, e1, f1⟩ := r_powerOf (N := N) hv h hs hz hN hfr hf hbl hb (t := k) (by omega)
      rw [e1, zB_s, zI_t (by omega)]
      simp only [zW_e, Int.toNat_natCast]
      rw [zsucc (by omega)]
      have f2 : zfr f87 M (pI M1 87 0 k (mPow P S f bl k)) := (f1.mo fw_87).pI (by simp [f87])
      obtain ⟨M', e2, f3, g2⟩ := ih (k + 1) _ (h.fr f2 f87_p) (hs.fr f2 (fun k _ _ => by simp [f87])) (by rw [f2.2 _ _ _ (by simp [f87]), hfr]) (by rw [f2.2 _ _ _ (by simp [f87]), hbl]) (fun t ht => by
        rw [mI_pI]
        by_cases e : t = k
        · rw [if_pos ⟨rfl, rfl, e⟩, e]
        · rw [if_neg (by omega), f1.2 _ _ _ (fw_n (by omega)), h87 t (by omega)]) (by omega) (by omega)
      exact ⟨M', e2, f2.tr f3, g2⟩
/-- what powers lie there when it has been looked -/
theorem r_lp (hv : VP P) (hz : VS c P S) (hN : 2000 ≤ N) (h : RP P M) (hs : R0 (qN P) S M) : ∃ M1 M2, Mo_looks N 0 M = some M1 ∧ Mo_laysPowers N 0 M1 = some M2 ∧ zfr fr M M2 ∧ (∀ t, t < qN P → mI M2 87 0 t = mPow P S (mFr P S) (mBl P S) t) ∧ mI M2 11 0 50 = mBl P S ∧ mI M2 11 0 51 = mFr P S := by
  have h6 := hv.n
  obtain ⟨M1, e1, f1, g1, g2⟩ := r_looks (N := N) hv h hs hz.t
  obtain ⟨M2, e2, f2, g3⟩ := r_lays2 (N := N) hv hz hN (hv.fr hz.t) (hv.bl hz.t) N 0 M1 (h.fr f1 fr_p) (hs.fr f1 (fun k _ _ => fr_s (by omega) k)) g2 g1 (fun t ht => by omega) (by omega) (by omega)
  exact ⟨M1, M2, e1, e2, f1.tr (f2.mo f87_r), g3, by rw [f2.2 _ _ _ (by simp [f87]), g1], by rw [f2.2 _ _ _ (by simp [f87]), g2]⟩
theorem r_homeNow (hv : VP P) (hz : VS c P S) (hN : 2000 ≤ N) (h : RP P M) (hs : R0 (qN P) S M) : ∃ M', Mo_homeNow N 0 M = some (mHome P S, M') ∧ zfr fr M M' ∧ (∀ t, t < qN P → mI M' 87 0 t = mPow P S (mFr P S) (mBl P S) t) ∧ (∀ t, t < qN P → qT P 4 t ≠ -1 → mI M' 88 0 t = mLd P (mPow P S (mFr P S) (mBl P S)) (-1) t) ∧ mI M' 11 0 50 = mBl P S ∧ mI M' 11 0 51 = mFr P S := by
  unfold Mo_homeNow
  obtain ⟨M1, M2, e1, e2, f2, g2, g3, g4⟩ := r_lp (N := N) hv hz hN h hs
  rw [e1, zBv_s, e2, zBv_s]
  obtain ⟨M3, e3, f3, g5⟩ := r_homeBy (N := N) (x := -1) hv hN (h.fr f2 fr_p) (fun t _ => mPow_b) g2
  rw [e3, zB_s]
  refine ⟨M3, rfl, f2.tr (f3.mo fc_r), fun t ht => ?_, g5, ?_, ?_⟩
  · rw [f3.2 _ _ _ (by simp [fc]), g2 t ht]
  · rw [f3.2 _ _ _ (by simp [fc]), g3]
  · rw [f3.2 _ _ _ (by simp [fc]), g4]
theorem r_pn12 (hv : VP P) {pw : Nat → Int} (hpw : ∀ t, t < qN P → 0 ≤ pw t ∧ pw t ≤ 99) (h : RP P M) (h87 : ∀ t, t < qN P → mI M 87 0 t = pw t) : ∀ (n k : Nat), k ≤ qN P → qN P - k < n → Mo_powersNow_12 N n 0 (zsum pw k) k M = some (zsum pw (qN P), M) := by
  intro n
  induction n with
  | zero => intros; omega
  | succ n ih =>
    intro k hk hn
    have h6 := hv.n
    unfold Mo_powersNow_12
    rw [h.n]
    by_cases b : k = qN P
    · subst b
      rw [if_neg (by omega)]
    · have b1 := zsum_ge (f := pw) (n := k) (a := 0) (fun t ht => (hpw t (by omega)).1)
      have b2 := zsum_le (f := pw) (n := k) (a := 99) (fun t ht => (hpw t (by omega)).2)
      have b3 := hpw k (by omega)
      rw [if_pos (by omega), zI_t (by omega)]
      simp only [zW_e, Int.toNat_natCast]
      rw [h87 k (by omega), zsucc (by omega), zs (by omega)]
      exact ih (k + 1) (by omega) (by omega)
theorem r_powersNow (hv : VP P) (hz : VS c P S) (hN : 2000 ≤ N) (h : RP P M) (hs : R0 (qN P) S M) : ∃ M', Mo_powersNow N 0 M = some (zsum (mPow P S (mFr P S) (mBl P S)) (qN P), M') ∧ zfr fr M M' ∧ (∀ t, t < qN P → mI M' 87 0 t = mPow P S (mFr P S) (mBl P S) t) := by
  have h6 := hv.n
  unfold Mo_powersNow
  obtain ⟨M1, M2, e1, e2, f2, g2, g3, g4⟩ := r_lp (N := N) hv hz hN h hs
  rw [e1, zBv_s, e2, zBv_s]
  have := r_pn12 (N := N) (M := M2) hv (pw := mPow P S (mFr P S) (mBl P S)) (fun t _ => mPow_b) (h.fr f2 fr_p) g2 N 0 (by omega) (by omega)
  exact ⟨M2, this, f2, g2⟩
theorem r_soldNow (hv : VP P) (hz : VS c P S) (hN : 2000 ≤ N) (h : RP P M) (hs : R0 (qN P) S M) : ∃ M', Mo_soldNow N 0 M = some (mSold P S, M') ∧ zfr fr M M' ∧ mI M' 11 0 51 = mFr P S := by
  unfold Mo_soldNow
  obtain ⟨M1, e1, f1, _, _, _, g⟩ := r_homeNow (N := N) hv hz hN h hs
  rw [e1, zB_s, r_priceNow hv (h.fr f1 fr_p) (hs.fr f1 (fun k _ _ => fr_s (by omega) k)) hz.t, zB_s]
  have hb := mSold_b hv hz
  unfold mSold at hb ⊢
  rw [zs (by omega)]
  exact ⟨M1, rfl, f1, g⟩
/-- the reference wears all first and breaks them then -/
def rPtl (P : PK) (S : SK) (k : Nat) : SK := (sA S, fun t => if t < k ∧ mRun S t = true then mWn P S t else sW S t, sO S, sB S, sT S, z32 (sS S + mSold P S))
def f81 (t _i _k : Nat) : Bool := t == 81
theorem f81_p : ∀ t k, t = 51 ∨ (53 ≤ t ∧ t ≤ 61) → f81 t 0 k = false := by
  intro t k h; simp [f81]; omega
theorem f81_fp : ∀ t i k, fp t i k = false → f81 t i k = false := by
  intro t i k h; simp [fp] at h; simp [f81, h]
theorem r_pass19 (hv : VP P) (hz : VS c P S) (hc : c < 100000) (hN : 2000 ≤ N) {x : Int} : ∀ (n k : Nat) (M : ZM), RP P M → R0 (qN P) (rPtl P S k) M → mI M 11 0 51 = mFr P S → k ≤ qN P → qN P - k < n → ∃ M', Mo_passes_19 N n 0 x (zbts (mBk P S) k : Nat) k M = some (x, M') ∧ zfr f81 M M' ∧ R0 (qN P) (mStep P S) M' := by
  intro n
  induction n with
  | zero => intros; omega
  | succ n ih =>
    intro k M h hs hfr hk hn
    have h6 := hv.n
    have hzt := hz.t
    have hzt2 := hz.t2
    have hb64 : zbts (mBk P S) k < 64 := pow64 (n := k) (by omega) zbts_lt
    unfold Mo_passes_19
    rw [h.n]
    by_cases b : k = qN P
    · subst b
      rw [if_neg (by omega)]
      simp only [zW_e]
      refine ⟨_, rfl, ((zfr.rf M).pI (by simp [f81])).pI (by simp [f81]), ?_⟩
      have hsb : mI M 81 0 3 = (sB S : Int) := hs.b
      have hst : mI M 81 0 0 = sT S := hs.t
      obtain ⟨h1, h2, h3, h4, h5⟩ := hs
      refine ⟨fun j hj => ?_, ?_, ?_, ?_, ?_⟩
      · rw [mI_pI_ne (by omega), mI_pI_ne (by omega), mI_pI_ne (by omega), mI_pI_ne (by omega)]
        exact ⟨(h1 j hj).1, (h1 j hj).2⟩
      · rw [mI_pI_eq, mI_pI_ne (by omega), hst, zs (by omega)]; rfl
      · rw [mI_pI_ne (by omega), mI_pI_ne (by omega)]; exact h3
      · rw [mI_pI_ne (by omega), mI_pI_ne (by omega)]; exact h4
      · rw [mI_pI_ne (by omega)]
        show mI (pI M 81 0 3 _) 81 0 3 = _
        rw [mI_pI_eq, hsb, zor_n _ (hz.b hv) _ hb64]; rfl
    · rw [if_pos (by omega)]
      have hkN : k < qN P := by omega
      have hrun : mRun (rPtl P S k) k = mRun S k := rfl
      have hz2 : VS c P (rPtl P S k) := ⟨hz.1, hz.2.1, hz.2.2.1, ⟨hz.t, fun j hj => by
        show zr32 (if j < k ∧ mRun S j = true then mWn P S j else sW S j)
        split
        · exact z32_r _
        · exact hz.w hj⟩, hz.2.2.2.2⟩
      rw [r_runs hv hs (hz2.b hv) hkN, zB_s, hrun]
      by_cases b3 : mRun S k = true
      · rw [if_pos b3, if_neg (by decide), r_turnedOf hs hz2 (by omega), zB_s, r_takenOf hv h hs hz2 hN hfr (hv.fr hzt) hkN, zB_s]
        have eT : mTkn P (sA (rPtl P S k)) (mRun (rPtl P S k)) (mFr P S) k = mTkn P (sA S) (mRun S) (mFr P S) k := rfl
        rw [eT, show sA (rPtl P S k) k = sA S k from rfl]
        have htb := mTb_c (hz.a (k := k) (by omega))
        have k58 : ∀ y : Int, y = (if 0 < mTkn P (sA S) (mRun S) (mFr P S) k then 1 else 0) → ∃ M', Mo_passes_58 N (Mo_passes_19 N n) 0 x (zbts (mBk P S) k : Nat) k (mTb (sA S k)) y M = some (x, M') ∧ zfr f81 M M' ∧ R0 (qN P) (mStep P S) M' := by
          intro y hy
          have hyb : 0 ≤ y ∧ y ≤ 1 := by subst hy; split <;> omega
          have k90 : ∀ z : Int, z = mInc P S k → ∃ M', Mo_passes_90 N (Mo_passes_19 N n) 0 x (zbts (mBk P S) k : Nat) k 0 ((10 + k : Nat) : Int) (sW S k) z M = some (x, M') ∧ zfr f81 M M' ∧ R0 (qN P) (mStep P S) M' := by
            intro z hze
            subst hze
            unfold Mo_passes_90
            have e10 : z32 (10 + (k : Int)) = ((10 + k : Nat) : Int) := by rw [zs (by omega)]; omega
            rw [e10]
            clear e10
            rw [zI_t (by omega)]
            simp only [zW_e, Int.toNat_natCast]
            rw [zI_t (by omega), show z32 (sW S k + mInc P S k) = mWn P S k from rfl]
            have f1 : zfr f81 M (pI M 81 0 (10 + k) (mWn P S k)) := (zfr.rf M).pI (by simp [f81])
            have h1 := h.fr f1 f81_p
            have hs1 : R0 (qN P) (rPtl P S (k + 1)) (pI M 81 0 (10 + k) (mWn P S k)) := by
              obtain ⟨q1, q2, q3, q4, q5⟩ := hs
              refine ⟨fun j hj => ⟨?_, ?_⟩, ?_, ?_, ?_, ?_⟩
              · rw [mI_pI_ne (by omega)]; exact (q1 j hj).1
              · rw [mI_pI]
                by_cases e : j = k
                · rw [if_pos (by omega), e]; simp [rPtl, sW, b3]
                · rw [if_neg (by omega), (q1 j hj).2]
                  simp only [rPtl, sW]
                  have e2 : (j < k + 1) = (j < k) := by simp; omega
                  simp only [e2]
              · rw [mI_pI_ne (by omega)]; exact q2
              · rw [mI_pI_ne (by omega)]; exact q3
              · rw [mI_pI_ne (by omega)]; exact q4
              · rw [mI_pI_ne (by omega)]; exact q5
            have hcd : mI (pI M 81 0 (10 + k) (mWn P S k)) 81 0 (10 + k) < mI (pI M 81 0 (10 + k) (mWn P S k)) 51 0 4 ↔ mWn P S k < qT P 11 0 := by
              rw [mI_pI_eq, h1.we]
            have fin : ∀ bb : Nat, bb = zbts (mBk P S) (k + 1) → ∃ M', Mo_passes_19 N n 0 x (bb : Int) (z32 ((k : Int) + 1)) (pI M 81 0 (10 + k) (mWn P S k)) = some (x, M') ∧ zfr f81 M M' ∧ R0 (qN P) (mStep P S) M' := by
              intro bb hbb
              subst hbb
              rw [zsucc (by omega)]
              obtain ⟨M', e2, f2, g2⟩ := ih (k + 1) _ h1 hs1 (by rw [mI_pI_ne (by omega), hfr]) (by omega) (by omega)
              exact ⟨M', e2, f1.tr f2, g2⟩
            by_cases b7 : mWn P S k < qT P 11 0
            · rw [if_pos (hcd.2 b7), show (0 : Int) = ((0 : Nat) : Int) from rfl, zor_n _ hb64 _ (by omega)]
              refine fin _ ?_
              have e : mBk P S k = false := by simp [mBk]; omega
              simp [zbts, e]
            · rw [if_neg (fun h => b7 (hcd.1 h)), zsh_n k (by omega), zor_n _ hb64 _ (p2_64 (by omega))]
              refine fin _ ?_
              have e : mBk P S k = true := by simp [mBk, b3]; omega
              simp [zbts, e]
          unfold Mo_passes_58
          have e10 : z32 (10 + (k : Int)) = ((10 + k : Nat) : Int) := by rw [zs (by omega)]; omega
          rw [e10]
          clear e10
          simp only [zW_e, Int.toNat_natCast]
          rw [zI_t (by omega), zI_t (by omega), h.k hkN, hs.w (by omega)]
          have hwk : sW (rPtl P S k) k = sW S k := by simp [rPtl, sW]
          rw [hwk, zs (x := mTb (sA S k) + y) (by omega), zs (x := 2 * (mTb (sA S k) + y)) (by omega)]
          by_cases bk : qT P 1 k = 2
          · rw [if_pos bk]
            exact k90 _ (by rw [mInc, if_pos bk, hy])
          · rw [if_neg bk]
            exact k90 _ (by rw [mInc, if_neg bk, hy])
        by_cases bt : 0 < mTkn P (sA S) (mRun S) (mFr P S) k
        · rw [if_pos bt]; exact k58 1 (by rw [if_pos bt])
        · rw [if_neg bt]; exact k58 0 (by rw [if_neg bt])
      · rw [if_neg b3, if_pos rfl]
        simp only [zW_e]
        rw [zsucc (by omega)]
        have e1 : mBk P S k = false := by simp [mBk, b3]
        have e2 : zbts (mBk P S) (k + 1) = zbts (mBk P S) k := by simp [zbts, e1]
        have e3 : rPtl P S (k + 1) = rPtl P S k := by
          unfold rPtl
          have e2 : (fun t => if t < k + 1 ∧ mRun S t = true then mWn P S t else sW S t) = (fun t => if t < k ∧ mRun S t = true then mWn P S t else sW S t) := by
            funext t
            by_cases e3 : t = k
            · subst e3; simp [b3]
            · have e4 : (t < k + 1) = (t < k) := by simp; omega
              simp only [e4]
          rw [e2]
        have := ih (k + 1) M h (by rw [e3]; exact hs) hfr (by omega) (by omega)
        rw [e2] at this
        exact this
theorem r_passes (hv : VP P) (hz : VS c P S) (hc : c < 100000) (hN : 2000 ≤ N) (h : RP P M) (hs : R0 (qN P) S M) : ∃ M', Mo_passes N 0 M = some (mSold P S, M') ∧ zfr fp M M' ∧ R0 (qN P) (mStep P S) M' := by
  have h6 := hv.n
  unfold Mo_passes
  obtain ⟨M1, e1, f1, g⟩ := r_soldNow (N := N) hv hz hN h hs
  rw [e1, zB_s]
  simp only [zW_e]
  have hs1 := hs.fr f1 (fun k _ _ => fr_s (by omega) k)
  rw [hs1.s]
  have f2 : zfr f81 M1 (pI M1 81 0 1 (z32 (sS S + mSold P S))) := (zfr.rf M1).pI (by simp [f81])
  have hs2 : R0 (qN P) (rPtl P S 0) (pI M1 81 0 1 (z32 (sS S + mSold P S))) := by
    obtain ⟨q1, q2, q3, q4, q5⟩ := hs1
    refine ⟨fun j hj => ⟨?_, ?_⟩, ?_, ?_, ?_, ?_⟩
    · rw [mI_pI_ne (by omega)]; exact (q1 j hj).1
    · rw [mI_pI_ne (by omega), (q1 j hj).2]; simp [rPtl, sW]
    · rw [mI_pI_ne (by omega)]; exact q2
    · exact mI_pI_eq
    · rw [mI_pI_ne (by omega)]; exact q4
    · rw [mI_pI_ne (by omega)]; exact q5
  obtain ⟨M', e2, f3, g2⟩ := r_pass19 (N := N) hv hz hc hN (x := mSold P S) N 0 _ ((h.fr f1 fr_p).fr f2 f81_p) hs2 (by rw [mI_pI_ne (by omega), g]) (by omega) (by omega)
  exact ⟨M', e2, (f1.mo fr_fp).tr ((f2.tr f3).mo f81_fp), g2⟩
end RSTEP
