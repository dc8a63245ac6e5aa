/-- state a alone -/
def fS (a t i _k : Nat) : Bool := (t == 7 || t == 40 || t == 41) && i == a
/-- state a and what is measured -/
def fG (a t i k : Nat) : Bool := fF t i k || fS a t i k
theorem fS_G {a : Nat} : ∀ t i k, fG a t i k = false → fS a t i k = false := by
  intro t i k h; simp [fG] at h; exact h.2
theorem fF_G {a : Nat} : ∀ t i k, fG a t i k = false → fF t i k = false := by
  intro t i k h; simp [fG] at h; exact h.1
theorem fG_p {a : Nat} : ∀ t i k, t = 3 ∨ t = 4 ∨ t = 26 ∨ (28 ≤ t ∧ t ≤ 32) → fG a t i k = false := by
  intro t i k h; simp [fG, fF, fS]; omega
theorem fG_s {a b : Nat} (hab : b ≠ a) : ∀ t k, t = 7 ∨ t = 40 ∨ t = 41 → fG a t b k = false := by
  intro t k h; simp [fG, fF, fS, hab]; omega
theorem fS_p {a : Nat} : ∀ t i k, t = 3 ∨ t = 4 ∨ t = 26 ∨ (28 ≤ t ∧ t ≤ 32) → fS a t i k = false := by
  intro t i k h; simp [fS]; omega
theorem fS_s {a b : Nat} (hab : b ≠ a) : ∀ t k, t = 7 ∨ t = 40 ∨ t = 41 → fS a t b k = false := by
  intro t k h; simp [fS, hab]
theorem fS_F {a : Nat} {t i k : Nat} (h : ¬ (t = 7 ∨ t = 40 ∨ t = 41)) : fS a t i k = false := by simp [fS]; omega
theorem mHm_b {P : PK} (hv : VP P) {pw : Nat → Int} {f : Int} (hp : ∀ t, t < qN P → 0 ≤ pw t) : 0 ≤ mHm P pw f ∧ mHm P pw f ≤ 1200 := by
  have hm : ∀ t, t ∈ qO P → t < qN P := fun t ht => by
    obtain ⟨j, hj, rfl⟩ := List.getElem_of_mem ht
    exact (hv.ord j hj).1
  have h6 := hv.n
  have hl := zlen6 hv.nd (fun t ht => by have := hm t ht; omega)
  have hb := (mBr_b (P := P) (pw := pw) (f := f) hp (fun t ht => hv.h ht) (r := qO P) (fun u hu => ⟨hm u hu, (hv.mem _ (hm u hu)).1 hu⟩)).2.2
  unfold mHm
  omega
theorem mHome_b {P : PK} (hv : VP P) {S : SK} : 0 ≤ mHome P S ∧ mHome P S ≤ 1200 := mHm_b hv (fun _ _ => mPow_b.1)
theorem mSold_b {P : PK} (hv : VP P) {c : Nat} {S : SK} (hs : VS c P S) : -12000 ≤ mSold P S ∧ mSold P S ≤ 12000 := by
  have h1 := mHome_b hv (S := S)
  have h2 := hv.pr hs.t
  unfold mSold mPr
  generalize mHome P S = x at *
  generalize mRow P 2 (sT S) = y at *
  have h3 : 0 ≤ x * (y - 10 + 10) := Int.mul_nonneg h1.1 (by omega)
  have h4 : 0 ≤ x * (10 - (y - 10)) := Int.mul_nonneg h1.1 (by omega)
  rw [Int.mul_add] at h3
  rw [Int.mul_sub] at h4
  omega
/-- by how much one is worn more -/
def mInc (P : PK) (S : SK) (t : Nat) : Int := if qT P 1 t = 2 then 2 * (mTb (sA S t) + (if 0 < mTkn P (sA S) (mRun S) (mFr P S) t then 1 else 0)) else mTb (sA S t) + (if 0 < mTkn P (sA S) (mRun S) (mFr P S) t then 1 else 0)
def mWn (P : PK) (S : SK) (t : Nat) : Int := z32 (sW S t + mInc P S t)
def mBk (P : PK) (S : SK) (t : Nat) : Bool := mRun S t && decide (qT P 11 0 ≤ mWn P S t)
/-- a step as far as turbine k -/
def mPt (P : PK) (S : SK) (k : Nat) : SK := (sA S, fun t => if t < k ∧ mRun S t = true then mWn P S t else sW S t, sO S, sB S ||| zbts (mBk P S) k, sT S, sS S)
def mStep (P : PK) (S : SK) : SK := (sA S, fun t => if t < qN P ∧ mRun S t = true then mWn P S t else sW S t, sO S, sB S ||| zbts (mBk P S) (qN P), sT S + 1, z32 (sS S + mSold P S))
theorem mPt_run {P : PK} {S : SK} {k t : Nat} (h : k ≤ t) : mRun (mPt P S k) t = mRun S t := by
  unfold mRun mPt sO sB
  simp only [zbt_or, zbts_t]
  rw [show decide (t < k) = false by simp; omega]
  simp
theorem VS.step {c : Nat} {P : PK} {S : SK} (h : VS c P S) : VS (c + 1) P (mStep P S) := by
  obtain ⟨h1, h2, h3, h4, h5⟩ := h
  refine ⟨h1, Nat.or_lt_two_pow h2 zbts_lt, h3, ⟨?_, fun k hk => ?_⟩, ?_⟩
  · show 0 ≤ sT S + 1
    omega
  · show zr32 (if k < qN P ∧ mRun S k = true then mWn P S k else sW S k)
    split
    · exact z32_r _
    · exact h4.2 k hk
  · show sT S + 1 ≤ ((c + 1 : Nat) : Int)
    omega
section STEP
variable {N p i : Nat} {P : PK} {S : SK} {M : ZM} {c : Nat}
theorem c_sold (hv : VP P) (hs : VS c P S) (hk : KM M) (hp : CP p P M) (hc : CS i S M) (hN : 2000 ≤ N) : ∃ M', Fl_sold N 0 p i M = some (mSold P S, M') ∧ zfr fF M M' := by
  unfold Fl_sold
  obtain ⟨M1, e1, f1, _, _, _, g⟩ := c_measure (N := N) (a := 0) hv hs hk hp hc hN
  rw [e1, zBv_s, (hc.fr f1 (fun t k h => fF_s t i k h)).t, c_price hv (hp.fr f1 fF_p) hs.t, zB_s, g]
  have hb := mSold_b hv hs
  unfold mSold mPr at hb ⊢
  rw [zs (by omega)]
  exact ⟨M1, rfl, f1⟩
theorem c_copy {a b : Nat} (hab : a ≠ b) (hc : CS b S M) : ∃ M', St_copy N a b M = some M' ∧ zfr (fS a) M M' ∧ CS a S M' := by
  unfold St_copy
  simp only [zW]
  refine ⟨_, rfl, ?_, ?_⟩
  · refine zfr.pI (zfr.pI (zfr.pI (zfr.pI (zfr.pC (zfr.pC (zfr.rf M) ?_) ?_) ?_) ?_) ?_) ?_ <;> simp [fS]
  · obtain ⟨h1, h2, h3, h4, h5⟩ := hc
    refine ⟨fun k hk => ?_, ?_, ?_, ?_, ?_⟩
    · simp only [mI_pI, mI_pCp]
      simp [hk, (h1 k hk).1, (h1 k hk).2]
    all_goals
      simp only [mI_pI, mI_pCp]
      simp [h2, h3, h4, h5, Ne.symm hab]
theorem c_run23 (hv : VP P) (hs : VS c P S) {x : Int} (hx : x = mSold P S) (hc1 : c < 100000) : ∀ (n k : Nat) (M : ZM), CP p P M → CS i (mPt P S k) M → (∀ o, o < qN P → mI M 20 0 o = mTkn P (sA S) (mRun S) (mFr P S) o) → k ≤ qN P → qN P - k < n → ∃ M', Fl_runStep_23 N n 0 p i x k M = some (x, M') ∧ zfr (fS i) M M' ∧ CS i (mStep P S) M' := by
  intro n
  induction n with
  | zero => intros; omega
  | succ n ih =>
    intro k M hp hc h20 hk hn
    have h6 := hv.n
    have hs5 := hs.t
    have hs6 := hs.t2
    unfold Fl_runStep_23
    rw [hp.n]
    by_cases b : k = qN P
    · subst b
      rw [if_neg (by omega)]
      simp only [zW]
      refine ⟨_, rfl, ((zfr.rf M).pI (by simp [fS])).pI (by simp [fS]), ?_⟩
      obtain ⟨h1, h2, h3, h4, h5⟩ := hc
      have h4' : mI M 7 i 4 = sT S := h4
      have h5' : mI M 7 i 5 = sS S := h5
      refine ⟨fun j hj => ?_, ?_, ?_, ?_, ?_⟩
      · rw [mI_pI_ne (by omega), mI_pI_ne (by omega), mI_pI_ne (by omega), mI_pI_ne (by omega)]
        exact ⟨(h1 j hj).1, (h1 j hj).2⟩
      · rw [mI_pI_ne (by omega), mI_pI_ne (by omega)]; exact h2
      · rw [mI_pI_ne (by omega), mI_pI_ne (by omega)]; exact h3
      · simp only [mI_pI]
        simp only [h4', h5']
        simp
        rw [zs (by omega)]
        rfl
      · simp only [mI_pI]
        simp only [h5']
        simp [hx]
        rfl
    · rw [if_pos (by omega)]
      have hb64 : sB (mPt P S k) < 64 := by
        have h1 := hs.b hv
        have h2 : zbts (mBk P S) k < 2 ^ 6 := Nat.lt_of_lt_of_le zbts_lt (Nat.pow_le_pow_right (by decide) (by omega))
        exact Nat.or_lt_two_pow (n := 6) h1 h2
      have ho64 : sO S < 64 := hs.o hv
      rw [c_runs hc (show sO (mPt P S k) < 64 from ho64) hb64 (by omega), zB_s, mPt_run (Nat.le_refl k)]
      by_cases b3 : mRun S k = true
      · simp only [b3, if_true, zW]
        rw [if_neg (by decide), zI_t (by omega), Int.toNat_natCast, h20 k (by omega)]
        have ha := hs.a (k := k) (by omega)
        have htb := mTb_c ha
        have hw : ∃ M1, St_wear N i p k (mTkn P (sA S) (mRun S) (mFr P S) k) M = some M1 ∧ zfr (fS i) M M1 ∧ CS i (mPt P S (k + 1)) M1 := by
          unfold St_wear
          rw [zI_t (by omega), Int.toNat_natCast, hc.a (by omega), show sA (mPt P S k) k = sA S k from rfl, c_turnedBy ha, zB_s]
          have fin : ∀ y : Int, y = (if 0 < mTkn P (sA S) (mRun S) (mFr P S) k then 1 else 0) → ∃ M1, St_wear_18 N i p k (mTb (sA S k)) y M = some M1 ∧ zfr (fS i) M M1 ∧ CS i (mPt P S (k + 1)) M1 := by
            intro y hy
            have hyb : 0 ≤ y ∧ y ≤ 1 := by subst hy; split <;> omega
            have hm : 0 ≤ mTb (sA S k) ∧ mTb (sA S k) ≤ 2 := by omega
            unfold St_wear_18
            simp only [zW]
            rw [zI_t (by omega), zI_t (by omega), Int.toNat_natCast, hp.k (by omega), hc.w (by omega)]
            have hwk : sW (mPt P S k) k = sW S k := by simp [mPt, sW]
            rw [hwk, zs (x := mTb (sA S k) + y) (by omega), zs (x := 2 * (mTb (sA S k) + y)) (by omega)]
            have fin2 : ∀ z : Int, z = mInc P S k → ∃ M1, St_wear_47 N i p k i k (sW S k) z M = some M1 ∧ zfr (fS i) M M1 ∧ CS i (mPt P S (k + 1)) M1 := by
              intro z hz
              subst hz
              unfold St_wear_47
              rw [zI_t (by omega)]
              dsimp only [zW, Int.toNat_natCast]
              rw [zI_t (by omega)]
              have hwn : z32 (sW S k + mInc P S k) = mWn P S k := rfl
              rw [hwn]
              have hcd : mI (pI M 41 i k (mWn P S k)) 41 i k < mI (pI M 41 i k (mWn P S k)) 4 p 13 ↔ mWn P S k < qT P 11 0 := by
                rw [mI_pI_eq, mI_pI_ne (by omega), hp.we]
              have hf1 : zfr (fS i) M (pI M 41 i k (mWn P S k)) := (zfr.rf M).pI (by simp [fS])
              obtain ⟨h1, h2, h3, h4, h5⟩ := hc
              have hW : ∀ j, j < 6 → mI (pI M 41 i k (mWn P S k)) 41 i j = sW (mPt P S (k + 1)) j := by
                intro j hj
                rw [mI_pI]
                by_cases e : j = k
                · subst e; simp [mPt, sW, b3]
                · rw [if_neg (by omega), (h1 j hj).2]
                  simp only [mPt, sW]
                  have e2 : (j < k + 1) = (j < k) := by simp; omega
                  simp only [e2]
              by_cases b7 : mWn P S k < qT P 11 0
              · rw [if_pos (hcd.2 b7)]
                refine ⟨_, rfl, hf1, fun j hj => ⟨?_, hW j hj⟩, ?_, ?_, ?_, ?_⟩
                · rw [mI_pI_ne (by omega)]; exact (h1 j hj).1
                · rw [mI_pI_ne (by omega)]; exact h2
                · rw [mI_pI_ne (by omega), h3]
                  have e : mBk P S k = false := by simp [mBk]; omega
                  simp [mPt, sB, zbts, e]
                · rw [mI_pI_ne (by omega)]; exact h4
                · rw [mI_pI_ne (by omega)]; exact h5
              · rw [if_neg (fun h => b7 (hcd.1 h))]
                refine ⟨_, rfl, hf1.pI (by simp [fS]), fun j hj => ⟨?_, ?_⟩, ?_, ?_, ?_, ?_⟩
                · rw [mI_pI_ne (by omega), mI_pI_ne (by omega)]; exact (h1 j hj).1
                · rw [mI_pI_ne (by omega), hW j hj]
                · rw [mI_pI_ne (by omega), mI_pI_ne (by omega)]; exact h2
                · rw [mI_pI_eq, mI_pI_ne (by omega), h3, zsh_n k (by omega), zor_n _ hb64 _ (p2_64 (by omega))]
                  have e : mBk P S k = true := by simp [mBk, b3]; omega
                  simp [mPt, sB, zbts, e, Nat.or_assoc]
                · rw [mI_pI_ne (by omega), mI_pI_ne (by omega)]; exact h4
                · rw [mI_pI_ne (by omega), mI_pI_ne (by omega)]; exact h5
            by_cases bk : qT P 1 k = 2
            · rw [if_pos bk]
              exact fin2 _ (by rw [mInc, if_pos bk, hy])
            · rw [if_neg bk]
              exact fin2 _ (by rw [mInc, if_neg bk, hy])
          by_cases bt : 0 < mTkn P (sA S) (mRun S) (mFr P S) k
          · rw [if_pos bt]; exact fin 1 (by rw [if_pos bt])
          · rw [if_neg bt]; exact fin 0 (by rw [if_neg bt])
        obtain ⟨M1, e1, f1, c1⟩ := hw
        rw [e1, zBv_s, zsucc (by omega)]
        obtain ⟨M', e, f2, c2⟩ := ih (k + 1) M1 (hp.fr f1 fS_p) c1 (fun o ho => by rw [f1.2 _ _ _ (by simp [fS]), h20 o ho]) (by omega) (by omega)
        exact ⟨M', e, f1.tr f2, c2⟩
      · simp only [b3, if_false, zW, Bool.false_eq_true, if_true]
        rw [zsucc (by omega)]
        refine ih (k + 1) M hp ?_ h20 (by omega) (by omega)
        have e : mPt P S (k + 1) = mPt P S k := by
          unfold mPt
          have e1 : mBk P S k = false := by simp [mBk, b3]
          have e2 : (fun t => if t < k + 1 ∧ mRun S t = true then mWn P S t else sW S t) = (fun t => if t < k ∧ mRun S t = true then mWn P S t else sW S t) := by
            funext t
            by_cases e3 : t = k
            · subst e3; simp [b3]
            · have e4 : (t < k + 1) = (t < k) := by simp; omega
              simp only [e4]
          rw [e2]
          simp [zbts, e1]
        rw [e]; exact hc
theorem mPt_0 {P : PK} {S : SK} : CS i S M → CS i (mPt P S 0) M := by
  intro h
  obtain ⟨h1, h2, h3, h4, h5⟩ := h
  refine ⟨fun k hk => ⟨(h1 k hk).1, ?_⟩, h2, ?_, h4, h5⟩
  · rw [(h1 k hk).2]; simp [mPt, sW]
  · rw [h3]; simp [mPt, sB, zbts]
theorem c_runStep (hv : VP P) (hs : VS c P S) (hc1 : c < 100000) (hk : KM M) (hp : CP p P M) (hc : CS i S M) (hN : 2000 ≤ N) : ∃ M', Fl_runStep N 0 p i M = some (mSold P S, M') ∧ zfr (fG i) M M' ∧ CS i (mStep P S) M' := by
  unfold Fl_runStep
  obtain ⟨M1, e1, f1, g1, _, _, g⟩ := c_measure (N := N) (a := 0) hv hs hk hp hc hN
  have hc' := hc.fr f1 (fun t k h => fF_s t i k h)
  have hp' := hp.fr f1 fF_p
  rw [e1, zBv_s, hc'.t, c_price hv hp' hs.t, zB_s, g]
  have hb := mSold_b hv hs
  have h6 := hv.n
  simp only [zW]
  have e2 : z32 (mHome P S * (mRow P 2 (sT S) - 10)) = mSold P S := by
    unfold mSold mPr at hb ⊢
    rw [zs (by omega)]
  rw [e2]
  obtain ⟨M', e, f2, c2⟩ := c_run23 (N := N) (p := p) (i := i) hv hs (x := mSold P S) rfl hc1 N 0 M1 hp' (mPt_0 hc') (fun o ho => (g1 o ho).1) (by omega) (by omega)
  exact ⟨M', e, (f1.mo fF_G).tr (f2.mo fS_G), c2⟩
end STEP
