section WORK
variable {N : Nat} {P : PK} {S : SK} {M : ZM} {c : Nat}
theorem zmax_c {x : Int} : zmax 0 x = zmax x 0 := by unfold zmax; split <;> split <;> omega
theorem r_takes17 (hv : VP P) (h : RP P M) (hs : R0 (qN P) S M) (hz : VS c P S) {f : Int} (hfr : mI M 11 0 51 = f) (hf : 0 ≤ f ∧ f ≤ 3) {t o : Nat} (ht : t < qN P) (ho : o < qN P) : ∀ (n j : Nat), 1 ≤ j → j ≤ 4 → 4 - j < n → (∀ i : Nat, 1 ≤ i → i < j → ¬ (mOff P t o f = i ∧ mAsd P t o f = mDr (sA S t) i)) → Mo_takesOf_17 N n 0 t o j M = some (mTen P t (sA S t) o f, M) := by
  intro n
  induction n with
  | zero => intros; omega
  | succ n ih =>
    intro j h1 h2 h3 hno
    have h6 := hv.n
    unfold Mo_takesOf_17
    by_cases b : j = 4
    · rw [if_neg (by omega)]
      have e : mTen P t (sA S t) o f = 0 := by
        unfold mTen
        rw [if_pos]
        by_cases b1 : mOff P t o f < 1
        · exact .inl b1
        · by_cases b2 : 3 < mOff P t o f
          · exact .inr (.inl b2)
          · refine .inr (.inr fun e => hno (mOff P t o f).toNat (by omega) (by omega) ?_)
            have e3 : (((mOff P t o f).toNat : Nat) : Int) = mOff P t o f := by omega
            rw [e3]
            exact ⟨rfl, e⟩
      rw [e]
    · rw [if_pos (by omega)]
      have e1 : z32 (6 + (j : Int)) = 6 + (j : Int) := zs (by omega)
      have e2 : z32 (6 + (j : Int) - 1) = ((6 + (j - 1) : Nat) : Int) := by rw [zs (by omega)]; omega
      have e3 : ((j : Int) - 1).toNat = j - 1 := by omega
      have hw := hv.w (k := j - 1) (by omega)
      have j3 : j - 1 < 3 := by omega
      have i1 : (0 : Int) ≤ ((6 + (j - 1) : Nat) : Int) ∧ ((6 + (j - 1) : Nat) : Int) < 18 := by omega
      have i2 : (0 : Int) ≤ (t : Int) ∧ (t : Int) < 12 := by omega
      have i3 : ¬ ((j : Int) < 1 ∨ 3 < (j : Int)) := by omega
      obtain ⟨v, e, hq⟩ := r_behind (N := N) (c := c) hv h hs hz hfr hf ht ho (far := (j : Int)) (by omega)
      rw [e, zB_s, zI_t (by omega), Int.toNat_natCast, h.c ho]
      by_cases b2 : v = qT P 3 o
      · rw [if_pos b2]
        obtain ⟨q1, q2⟩ := hq.1 b2
        simp only [e1, e2]
        rw [zI_t i1, zI_t i2, Int.toNat_natCast, Int.toNat_natCast, h.w j3, h.k ht]
        have em : mTen P t (sA S t) o f = zmax (qT P 6 (j - 1) - (if qT P 1 t = 3 then 1 else 0)) 0 := by
          unfold mTen
          rw [q1, q2, if_neg (by simp only [ne_eq, not_true, or_false]; exact i3), e3]
        clear q1 q2 hq
        rw [em]
        split
        · rw [zs (by omega), zmax_c]
        · rw [zs (by omega), zmax_c]
      · rw [if_neg b2]
        simp only [zW]
        rw [zsucc (by omega)]
        refine ih (j + 1) (by omega) (by omega) (by omega) fun i h4 h5 h7 => ?_
        by_cases b3 : i = j
        · subst b3; exact b2 (hq.2 h7)
        · exact hno i h4 (by omega) h7
theorem r_takesOf (hv : VP P) (h : RP P M) (hs : R0 (qN P) S M) (hz : VS c P S) (hN : 2000 ≤ N) {f : Int} (hfr : mI M 11 0 51 = f) (hf : 0 ≤ f ∧ f ≤ 3) {t o : Nat} (ht : t < qN P) (ho : o < qN P) : Mo_takesOf N 0 t o M = some (mTs P (sA S) (mRun S) f o t, M) := by
  unfold Mo_takesOf mTs
  by_cases b : t = o
  · rw [if_pos (by omega), if_pos b]
  · rw [if_neg (by omega), if_neg b, r_runs hv hs (hz.b hv) ht, zB_s]
    by_cases b2 : mRun S t = true
    · simp only [b2, if_true]
      rw [if_neg (by decide)]
      exact r_takes17 hv h hs hz hfr hf ht ho N 1 (by omega) (by omega) (by omega) (fun i h1 h2 => by omega)
    · simp [b2]
theorem r_taken4 (hv : VP P) (h : RP P M) (hs : R0 (qN P) S M) (hz : VS c P S) (hN : 2000 ≤ N) {f : Int} (hfr : mI M 11 0 51 = f) (hf : 0 ≤ f ∧ f ≤ 3) {o : Nat} (ho : o < qN P) : ∀ (n k : Nat), k ≤ qN P → qN P - k < n → Mo_takenOf_4 N n 0 o (zsum (mTs P (sA S) (mRun S) f o) k) k M = some (mTkn P (sA S) (mRun S) f o, M) := by
  intro n
  induction n with
  | zero => intros; omega
  | succ n ih =>
    intro k hk hn
    have h6 := hv.n
    unfold Mo_takenOf_4
    rw [h.n]
    have b4 := mSm_b hv (A := sA S) (R := mRun S) (fr := f) (o := o) (n := k)
    by_cases b : k = qN P
    · subst b
      rw [if_neg (by omega)]
      simp only [zW]
      rw [zI_t (by omega), Int.toNat_natCast, h.k ho]
      unfold mTkn mCut
      have e : zmin 9 (zsum (mTs P (sA S) (mRun S) f o) (qN P)) = zmin (zsum (mTs P (sA S) (mRun S) f o) (qN P)) 9 := by
        unfold zmin; split <;> split <;> omega
      rw [e]
      have := zmin_le (x := zsum (mTs P (sA S) (mRun S) f o) (qN P)) (y := 9)
      have h0 : 0 ≤ zmin (zsum (mTs P (sA S) (mRun S) f o) (qN P)) 9 := by unfold zmin; split <;> omega
      split
      · rw [zs (by omega), zmax_c]
      · rfl
    · rw [if_pos (by omega), r_takesOf hv h hs hz hN hfr hf (by omega) ho, zB_s]
      simp only [zW]
      have b5 := mTs_b hv (A := sA S) (R := mRun S) (fr := f) (o := o) (t := k)
      rw [zs (x := _ + _) (by omega), zsucc (by omega)]
      exact ih (k + 1) (by omega) (by omega)
theorem r_takenOf (hv : VP P) (h : RP P M) (hs : R0 (qN P) S M) (hz : VS c P S) (hN : 2000 ≤ N) {f : Int} (hfr : mI M 11 0 51 = f) (hf : 0 ≤ f ∧ f ≤ 3) {o : Nat} (ho : o < qN P) : Mo_takenOf N 0 o M = some (mTkn P (sA S) (mRun S) f o, M) := by
  have h6 := hv.n
  exact r_taken4 hv h hs hz hN hfr hf ho N 0 (by omega) (by omega)
theorem r_windOf (hv : VP P) (h : RP P M) (hs : R0 (qN P) S M) (hz : VS c P S) (hN : 2000 ≤ N) {f bl : Int} (hfr : mI M 11 0 51 = f) (hf : 0 ≤ f ∧ f ≤ 3) (hbl : mI M 11 0 50 = bl) (hb : 0 ≤ bl ∧ bl ≤ 30) {o : Nat} (ho : o < qN P) : Mo_windOf N 0 o M = some (mWnd bl (mTkn P (sA S) (mRun S) f o), M) := by
  unfold Mo_windOf
  rw [r_takenOf hv h hs hz hN hfr hf ho, zB_s, hbl]
  have ht := mTkn_b hv (A := sA S) (R := mRun S) (fr := f) (o := o)
  generalize mTkn P (sA S) (mRun S) f o = tk at *
  have hw := mWnd_b hb ht
  unfold mWnd at *
  have h1 : 0 ≤ bl * (10 - tk) := Int.mul_nonneg hb.1 (by omega)
  have h2 : bl * (10 - tk) ≤ 30 * 10 := Int.mul_le_mul hb.2 (by omega) (by omega) (by omega)
  rw [zs (x := 10 - tk) (by omega), zs (x := bl * (10 - tk)) (by omega), zs (by omega)]
def rM (M : ZM) : RT := fun t d => mI M t 0 d
theorem rM_pI {t d : Nat} {x : Int} : rM (pI M t 0 d x) = rU (rM M) t d x := by
  funext t' d'
  simp only [rM, rU, mI_pI, true_and]
theorem r_opens {d : Nat} (hd : d < 7) : ∃ M', Mo_opens N 0 d M = some M' ∧ rM M' = rOp (rM M) d ∧ zfr fw M M' := by
  unfold Mo_opens
  simp only [zW, Int.toNat_natCast]
  rw [zI_t (by omega), zI_t (by omega), zI_t (by omega), zI_t (by omega), zI_t (by omega)]
  refine ⟨_, rfl, ?_, ?_⟩
  · simp only [rM_pI]; rfl
  · refine zfr.pI (zfr.pI (zfr.pI (zfr.pI (zfr.pI (zfr.rf M) ?_) ?_) ?_) ?_) ?_ <;> simp [fw]
theorem r_sums {d : Nat} (hd : d < 7) : ∃ M', Mo_sums N 0 d M = some M' ∧ rM M' = rSm (rM M) d ∧ zfr fw M M' := by
  unfold Mo_sums
  simp only [zW, Int.toNat_natCast]
  rw [zI_t (by omega)]
  by_cases b : mI M 69 0 d = 21
  · rw [if_pos b, zI_t (by omega), zI_t (by omega), zI_t (by omega), zI_t (by omega)]
    refine ⟨_, rfl, ?_, ?_⟩
    · simp only [rM_pI]; unfold rSm; rw [if_pos (show rM M 69 d = 21 from b)]; rfl
    · refine zfr.pI (zfr.pI (zfr.rf M) ?_) ?_ <;> simp [fw]
  · rw [if_neg b, zI_t (by omega), zI_t (by omega), zI_t (by omega), zI_t (by omega)]
    refine ⟨_, rfl, ?_, ?_⟩
    · simp only [rM_pI]; unfold rSm; rw [if_neg (show ¬ rM M 69 d = 21 from b)]; rfl
    · refine zfr.pI (zfr.pI (zfr.rf M) ?_) ?_ <;> simp [fw]
theorem r_tests {d : Nat} (hd : d < 7) : ∃ M', Mo_tests N 0 d M = some M' ∧ rM M' = rTs (rM M) d ∧ zfr fw M M' := by
  unfold Mo_tests
  obtain ⟨M1, e1, h1, f1⟩ := r_sums (N := N) (M := M) hd
  rw [e1, zBv_s]
  simp only [zW, Int.toNat_natCast]
  rw [zI_t (by omega)]
  have k136 : ∀ v, v = rV2 (rM M1) d (rV1 (rM M1) d) → ∃ M', Mo_tests_136 N 0 d v M1 = some M' ∧ rM M' = rTs (rM M) d ∧ zfr fw M M' := by
    intro v hv
    unfold Mo_tests_136
    simp only [zW, Int.toNat_natCast]
    rw [zI_t (by omega), zI_t (by omega), zI_t (by omega), zI_t (by omega)]
    refine ⟨_, rfl, ?_, f1.tr ?_⟩
    · simp only [rM_pI]; rw [hv, h1]; rfl
    · refine zfr.pI (zfr.pI (zfr.pI (zfr.pI (zfr.rf M1) ?_) ?_) ?_) ?_ <;> simp [fw]
  have k76 : ∀ v, v = rV1 (rM M1) d → ∃ M', Mo_tests_76 N 0 d v M1 = some M' ∧ rM M' = rTs (rM M) d ∧ zfr fw M M' := by
    intro v hv
    unfold Mo_tests_76 Mo_tests_106
    simp only [Int.toNat_natCast]
    rw [zI_t (by omega)]
    have i0 : ∀ {α : Type} {a : Option α}, zI ((0 : Int) ≤ (d : Int) ∧ (d : Int) < 7) a = a := fun {α} {a} => zI_t (by omega)
    simp only [i0]
    have r65 : rM M1 65 d = mI M1 65 0 d := rfl
    have r64 : rM M1 64 d = mI M1 64 0 d := rfl
    by_cases b1 : mI M1 65 0 d = 26
    · have b2 : ¬ mI M1 65 0 d = 27 := by omega
      rw [if_pos b1]
      simp only [if_neg b2]
      by_cases b3 : mI M1 64 0 d = 0
      · rw [if_pos b3]; exact k136 0 (by simp [rV2, r65, r64, b1, b3])
      · rw [if_neg b3]
        by_cases b4 : v = 0
        · rw [if_pos b4]; exact k136 0 (by rw [← hv]; simp [rV2, r65, r64, b1, b4])
        · rw [if_neg b4]; exact k136 1 (by rw [← hv]; simp [rV2, r65, r64, b1, b3, b4])
    · rw [if_neg b1]
      by_cases b2 : mI M1 65 0 d = 27
      · rw [if_pos b2]
        by_cases b3 : mI M1 64 0 d = 0
        · rw [if_pos b3]
          by_cases b4 : v = 0
          · rw [if_pos b4]; exact k136 0 (by rw [← hv]; simp [rV2, r65, r64, b2, b3, b4])
          · rw [if_neg b4]; exact k136 1 (by rw [← hv]; simp [rV2, r65, r64, b2, b3, b4])
        · rw [if_neg b3]; exact k136 1 (by simp [rV2, r65, r64, b2, b3])
      · rw [if_neg b2]; exact k136 v (by rw [← hv]; simp [rV2, r65, r64, b1, b2])
  have i0 : ∀ {α : Type} {a : Option α}, zI ((0 : Int) ≤ (d : Int) ∧ (d : Int) < 7) a = a := fun {α} {a} => zI_t (by omega)
  unfold Mo_tests_44
  simp only [i0, Int.toNat_natCast]
  have r67 : rM M1 67 d = mI M1 67 0 d := rfl
  have r66 : rM M1 66 d = mI M1 66 0 d := rfl
  have r68 : rM M1 68 d = mI M1 68 0 d := rfl
  by_cases b1 : mI M1 67 0 d = 24
  · have b2 : ¬ mI M1 67 0 d = 25 := by omega
    rw [if_pos b1]
    simp only [if_neg b2]
    by_cases b3 : mI M1 66 0 d < mI M1 68 0 d
    · rw [if_pos b3]; exact k76 1 (by simp [rV1, r67, r66, r68, b1, b3])
    · rw [if_neg b3]; exact k76 0 (by simp [rV1, r67, r66, r68, b1, b3])
  · rw [if_neg b1]
    by_cases b2 : mI M1 67 0 d = 25
    · rw [if_pos b2]
      by_cases b3 : mI M1 66 0 d = mI M1 68 0 d
      · rw [if_pos b3]; exact k76 1 (by simp [rV1, r67, r66, r68, b2, b3])
      · rw [if_neg b3]; exact k76 0 (by simp [rV1, r67, r66, r68, b2, b3])
    · rw [if_neg b2]; exact k76 _ (by simp [rV1, r67, r66, r68, b1, b2])
/-- these touch the nine rows alone -/
theorem r_opens_q {d : Nat} {M M' : ZM} (h : Mo_opens N 0 d M = some M') : ∀ t i k, ¬ (64 ≤ t ∧ t ≤ 72) → mI M' t i k = mI M t i k := by
  intro t i k ht
  unfold Mo_opens at h
  dsimp only [zW] at h
  obtain ⟨_, h⟩ := zIx h
  obtain ⟨_, h⟩ := zIx h
  obtain ⟨_, h⟩ := zIx h
  obtain ⟨_, h⟩ := zIx h
  obtain ⟨_, h⟩ := zIx h
  cases h
  rw [mI_pI_ne (by omega), mI_pI_ne (by omega), mI_pI_ne (by omega), mI_pI_ne (by omega), mI_pI_ne (by omega)]
theorem r_sums_q {d : Nat} {M M' : ZM} (h : Mo_sums N 0 d M = some M') : ∀ t i k, ¬ (64 ≤ t ∧ t ≤ 72) → mI M' t i k = mI M t i k := by
  intro t i k ht
  unfold Mo_sums at h
  dsimp only [zW] at h
  obtain ⟨_, h⟩ := zIx h
  rcases zit h with ⟨_, h⟩ | ⟨_, h⟩
  all_goals
    obtain ⟨_, h⟩ := zIx h
    obtain ⟨_, h⟩ := zIx h
    obtain ⟨_, h⟩ := zIx h
    obtain ⟨_, h⟩ := zIx h
    cases h
    rw [mI_pI_ne (by omega), mI_pI_ne (by omega)]
theorem r_t136_q {d : Nat} {v : Int} {M M' : ZM} (h : Mo_tests_136 N 0 d v M = some M') : ∀ t i k, ¬ (64 ≤ t ∧ t ≤ 72) → mI M' t i k = mI M t i k := by
  intro t i k ht
  unfold Mo_tests_136 at h
  dsimp only [zW] at h
  obtain ⟨_, h⟩ := zIx h
  obtain ⟨_, h⟩ := zIx h
  obtain ⟨_, h⟩ := zIx h
  obtain ⟨_, h⟩ := zIx h
  cases h
  rw [mI_pI_ne (by omega), mI_pI_ne (by omega), mI_pI_ne (by omega), mI_pI_ne (by omega)]
theorem r_t106_q {d : Nat} {v : Int} {M M' : ZM} (h : Mo_tests_106 N 0 d v M = some M') : ∀ t i k, ¬ (64 ≤ t ∧ t ≤ 72) → mI M' t i k = mI M t i k := by
  unfold Mo_tests_106 at h
  obtain ⟨_, h⟩ := zIx h
  rcases zit h with ⟨_, h⟩ | ⟨_, h⟩
  · obtain ⟨_, h⟩ := zIx h
    rcases zit h with ⟨_, h⟩ | ⟨_, h⟩
    · rcases zit h with ⟨_, h⟩ | ⟨_, h⟩ <;> exact r_t136_q h
    · exact r_t136_q h
  · exact r_t136_q h
theorem r_t76_q {d : Nat} {v : Int} {M M' : ZM} (h : Mo_tests_76 N 0 d v M = some M') : ∀ t i k, ¬ (64 ≤ t ∧ t ≤ 72) → mI M' t i k = mI M t i k := by
  unfold Mo_tests_76 at h
  obtain ⟨_, h⟩ := zIx h
  rcases zit h with ⟨_, h⟩ | ⟨_, h⟩
  · obtain ⟨_, h⟩ := zIx h
    rcases zit h with ⟨_, h⟩ | ⟨_, h⟩
    · exact r_t106_q h
    · rcases zit h with ⟨_, h⟩ | ⟨_, h⟩ <;> exact r_t106_q h
  · exact r_t106_q h
theorem r_t44_q {d : Nat} {v : Int} {M M' : ZM} (h : Mo_tests_44 N 0 d v M = some M') : ∀ t i k, ¬ (64 ≤ t ∧ t ≤ 72) → mI M' t i k = mI M t i k := by
  unfold Mo_tests_44 at h
  obtain ⟨_, h⟩ := zIx h
  rcases zit h with ⟨_, h⟩ | ⟨_, h⟩
  · obtain ⟨_, h⟩ := zIx h
    obtain ⟨_, h⟩ := zIx h
    rcases zit h with ⟨_, h⟩ | ⟨_, h⟩ <;> exact r_t76_q h
  · exact r_t76_q h
theorem r_tests_q {d : Nat} {M M' : ZM} (h : Mo_tests N 0 d M = some M') : ∀ t i k, ¬ (64 ≤ t ∧ t ≤ 72) → mI M' t i k = mI M t i k := by
  unfold Mo_tests at h
  obtain ⟨M1, h1, h⟩ := zBvx h
  dsimp only [zW] at h
  obtain ⟨_, h⟩ := zIx h
  obtain ⟨_, h⟩ := zIx h
  have key : ∀ {v : Int}, Mo_tests_44 N 0 d v M1 = some M' → ∀ t i k, ¬ (64 ≤ t ∧ t ≤ 72) → mI M' t i k = mI M t i k := fun h t i k ht => (r_t44_q h t i k ht).trans (r_sums_q h1 t i k ht)
  rcases zit h with ⟨_, h⟩ | ⟨_, h⟩
  · obtain ⟨_, h⟩ := zIx h
    obtain ⟨_, h⟩ := zIx h
    rcases zit h with ⟨_, h⟩ | ⟨_, h⟩ <;> exact key h
  · exact key h
theorem rPp_le {ρ : RT} : ∀ {d : Nat} {v : Int}, (rPp ρ d v).1 ≤ d
  | 0, v => by simp [rPp]
  | d + 1, v => by
    unfold rPp
    split
    · have := rPp_le (ρ := ρ) (d := d) (v := rNt v); omega
    · simp
theorem r_pop {rec14 : Nat → Int → Int → Int → ZM → Option (Int × ZM)} {x1 x3 : Int} : ∀ (n d : Nat) (v : Int), d < 7 → d < n → Mo_worked_268 N rec14 n 0 x1 d x3 v M = Mo_worked_300 N rec14 0 x1 (rPp (rM M) d v).1 x3 (rPp (rM M) d v).2 M := by
  intro n
  induction n with
  | zero => intros; omega
  | succ n ih =>
    intro d v hd hn
    unfold Mo_worked_268
    cases d with
    | zero => rw [if_neg (by omega)]; rfl
    | succ d =>
      rw [if_pos (by omega), zI_t (by omega), Int.toNat_natCast]
      unfold rPp
      have e : z32 (((d + 1 : Nat) : Int) + -1) = (d : Int) := by rw [zs (by omega)]; omega
      by_cases b : mI M 72 0 (d + 1) = 1
      · rw [if_pos b, if_pos (show rM M 72 (d + 1) = 1 from b)]
        simp only [zW, e]
        by_cases b2 : v = 0
        · rw [if_pos b2, ih d 1 (by omega) (by omega), show rNt v = 1 by simp [rNt, b2]]
        · rw [if_neg b2, ih d 0 (by omega) (by omega), show rNt v = 0 by simp [rNt, b2]]
      · rw [if_neg b, if_neg (show ¬ rM M 72 (d + 1) = 1 from b)]
theorem r_work {a b c e : Int} : ∀ (v : List Int) (k n d : Nat) (M : ZM) (ρ' : RT), (∀ i, (h : i < v.length) → mI M 61 0 (k + i) = v[i]) → mI M 60 0 0 = ((k + v.length : Nat) : Int) → k + v.length ≤ 1000 → d < 7 → v.length < n → 2000 ≤ N → mI M 73 0 1 = a → mI M 73 0 2 = b → mI M 73 0 3 = c → mI M 73 0 4 = e → rRn a b c e v (d, rM M) = some (0, ρ') → ∃ M', Mo_worked_14 N n 0 0 d k M = some (rTs ρ' 0 64 0, M') ∧ zfr fw M M' := by
  intro v
  induction v with
  | nil =>
    intro k n d M ρ' hc hl h1 hd hn hN ha hb hcc he hr
    cases n with
    | zero => omega
    | succ n =>
      simp only [rRn, Option.some.injEq, Prod.mk.injEq] at hr
      obtain ⟨rfl, rfl⟩ := hr
      unfold Mo_worked_14
      rw [zI_t (by decide), show Int.toNat 0 = 0 from rfl, hl, if_neg (by simp)]
      obtain ⟨M', e1, h2, h3⟩ := r_tests (N := N) (M := M) (d := 0) (by omega)
      rw [show ((0 : Nat) : Int) = 0 from rfl] at e1
      rw [e1, zBv_s]
      exact ⟨M', by rw [← h2]; rfl, h3⟩
  | cons x v ih =>
    intro k n d M ρ' hc hl h1 hd hn hN ha hb hcc he hr
    cases n with
    | zero => omega
    | succ n =>
      simp only [List.length_cons] at hl h1 hn
      have hx := hc 0 (by simp)
      simp only [Nat.add_zero, List.getElem_cons_zero] at hx
      unfold Mo_worked_14
      rw [zI_t (by decide), show Int.toNat 0 = 0 from rfl, hl, if_pos (by omega), zI_t (by omega)]
      simp only [zW, Int.toNat_natCast, hx]
      -- what every code ends with
      have hgo : ∀ (M1 : ZM) (d1 : Nat), (∀ t i k, ¬ (64 ≤ t ∧ t ≤ 72) → mI M1 t i k = mI M t i k) → M1.2 = M.2 → d1 < 7 → rRn a b c e v (d1, rM M1) = some (0, ρ') → ∃ M', Mo_worked_14 N n 0 0 d1 (z32 ((k : Int) + 1)) M1 = some (rTs ρ' 0 64 0, M') ∧ zfr fw M M' := by
        intro M1 d1 hq hq2 hd1 hr1
        rw [zsucc (by omega)]
        obtain ⟨M', e1, f1⟩ := ih (k + 1) n d1 M1 ρ' (fun i hi => by
          rw [hq _ _ _ (by omega)]
          have := hc (i + 1) (by simp; omega)
          rw [show k + 1 + i = k + (i + 1) by omega, this, List.getElem_cons_succ]) (by rw [hq _ _ _ (by omega), hl]; congr 1; omega) (by omega) hd1 (by omega) hN (by rw [hq _ _ _ (by omega), ha]) (by rw [hq _ _ _ (by omega), hb]) (by rw [hq _ _ _ (by omega), hcc]) (by rw [hq _ _ _ (by omega), he]) hr1
        refine ⟨M', e1, zfr.tr ⟨hq2, fun t i k h => hq t i k ?_⟩ f1⟩
        simp [fw] at h; omega
      simp only [rRn] at hr
      cases hS : rS1 a b c e x (d, rM M) with
      | none => rw [hS] at hr; cases hr
      | some q =>
        rw [hS] at hr
        replace hr : rRn a b c e v q = some (0, ρ') := hr
        obtain ⟨d1, ρ1⟩ := q
        unfold rS1 at hS
        dsimp only at hS
        -- a value comes
        have hval : ∀ (M1 : ZM) (d0 : Nat) (w : Int), (∀ t i k, ¬ (64 ≤ t ∧ t ≤ 72) → mI M1 t i k = mI M t i k) → M1.2 = M.2 → d0 < 7 → rRn a b c e v (rVl (rM M1) d0 w) = some (0, ρ') → ∃ M', Mo_worked_268 N (Mo_worked_14 N n) N 0 0 d0 k w M1 = some (rTs ρ' 0 64 0, M') ∧ zfr fw M M' := by
          intro M1 d0 w hq hq2 hd0 hr0
          rw [r_pop N d0 w hd0 (by omega)]
          have hle := rPp_le (ρ := rM M1) (d := d0) (v := w)
          unfold rVl rPt at hr0
          unfold Mo_worked_300
          generalize (rPp (rM M1) d0 w).1 = d2 at *
          generalize (rPp (rM M1) d0 w).2 = w2 at *
          rw [zI_t (by omega), Int.toNat_natCast]
          by_cases b1 : mI M1 71 0 d2 = 0
          · rw [if_pos b1, zI_t (by omega)]
            dsimp only [zW]
            refine hgo _ d2 (fun t i k h => by rw [mI_pI_ne (by omega), hq t i k h]) hq2 (by omega) ?_
            rw [rM_pI, ← hr0, if_pos (show rM M1 71 d2 = 0 from b1)]
          · rw [if_neg b1, zI_t (by omega), zI_t (by omega)]
            dsimp only [zW]
            refine hgo _ d2 (fun t i k h => by rw [mI_pI_ne (by omega), hq t i k h]) hq2 (by omega) ?_
            rw [rM_pI, ← hr0, if_neg (show ¬ rM M1 71 d2 = 0 from b1)]
            rfl
        by_cases b1 : x = 28 ∨ x = 30
        · rw [if_pos b1] at hS
          by_cases b2 : d < 6
          · rw [if_pos b2, Option.some.injEq, Prod.mk.injEq] at hS
            obtain ⟨rfl, rfl⟩ := hS
            have k66 : ∀ y : Int, y = (if x = 30 then 1 else 0) → ∃ M', Mo_worked_66 N (Mo_worked_14 N n) 0 0 ((d + 1 : Nat) : Int) k 0 ((d + 1 : Nat) : Int) y M = some (rTs ρ' 0 64 0, M') ∧ zfr fw M M' := by
              intro y hy
              unfold Mo_worked_66
              rw [zI_t (by omega)]
              dsimp only [zW]
              rw [Int.toNat_natCast]
              obtain ⟨M1, e1, h2, f1⟩ := r_opens (N := N) (M := pI M 72 0 (d + 1) y) (d := d + 1) (by omega)
              rw [e1, zBv_s]
              have hq : ∀ t i k, ¬ (64 ≤ t ∧ t ≤ 72) → mI M1 t i k = mI M t i k := fun t i k h => by
                have := r_opens_q e1 t i k h
                rw [this, mI_pI_ne (by omega)]
              refine hgo M1 (d + 1) hq f1.1 (by omega) ?_
              rw [h2, rM_pI, hy]; exact hr
            have k46 : ∃ M', Mo_worked_46 N (Mo_worked_14 N n) 0 0 d k x M = some (rTs ρ' 0 64 0, M') ∧ zfr fw M M' := by
              unfold Mo_worked_46
              dsimp only [zW]
              rw [zsucc (by omega)]
              by_cases b3 : x = 30
              · rw [if_pos b3]; exact k66 1 (by rw [if_pos b3])
              · rw [if_neg b3]; exact k66 0 (by rw [if_neg b3])
            rcases b1 with b1 | b1
            · rw [if_pos b1]; exact k46
            · rw [if_neg (by omega), if_pos b1]; exact k46
          · rw [if_neg b2] at hS; cases hS
        · rw [if_neg b1] at hS
          rw [if_neg (fun h => b1 (.inl h)), if_neg (fun h => b1 (.inr h))]
          by_cases b2 : x = 20 ∨ x = 21
          · rw [if_pos b2, Option.some.injEq, Prod.mk.injEq] at hS
            obtain ⟨rfl, rfl⟩ := hS
            have k89 : ∃ M', Mo_worked_89 N (Mo_worked_14 N n) 0 0 d k x M = some (rTs ρ' 0 64 0, M') ∧ zfr fw M M' := by
              unfold Mo_worked_89
              obtain ⟨M1, e1, h2, f1⟩ := r_sums (N := N) (M := M) (d := d) hd
              rw [e1, zBv_s, zI_t (by omega)]
              dsimp only [zW]
              refine hgo _ d (fun t i k h => by rw [mI_pI_ne (by omega), r_sums_q e1 t i k h]) f1.1 hd ?_
              rw [Int.toNat_natCast, rM_pI, h2]; exact hr
            rcases b2 with b2 | b2
            · rw [if_pos b2]; exact k89
            · rw [if_neg (by omega), if_pos b2]; exact k89
          · rw [if_neg b2] at hS
            rw [if_neg (fun h => b2 (.inl h)), if_neg (fun h => b2 (.inr h))]
            by_cases b3 : x = 22
            · rw [if_pos b3, Option.some.injEq, Prod.mk.injEq] at hS
              obtain ⟨rfl, rfl⟩ := hS
              rw [if_pos b3, zI_t (by omega)]
              refine hgo _ d (fun t i k h => by rw [mI_pI_ne (by omega)]) rfl hd ?_
              rw [rM_pI, b3]; exact hr
            · rw [if_neg b3] at hS
              rw [if_neg b3]
              by_cases b4 : x = 24 ∨ x = 25
              · rw [if_pos b4, Option.some.injEq, Prod.mk.injEq] at hS
                obtain ⟨rfl, rfl⟩ := hS
                have k137 : ∃ M', Mo_worked_137 N (Mo_worked_14 N n) 0 0 d k x M = some (rTs ρ' 0 64 0, M') ∧ zfr fw M M' := by
                  unfold Mo_worked_137
                  obtain ⟨M1, e1, h2, f1⟩ := r_sums (N := N) (M := M) (d := d) hd
                  rw [e1, zBv_s, zI_t (by omega), zI_t (by omega)]
                  dsimp only [zW]
                  rw [zI_t (by omega), zI_t (by omega), zI_t (by omega)]
                  refine hgo _ d (fun t i k h => by rw [mI_pI_ne (by omega), mI_pI_ne (by omega), mI_pI_ne (by omega), mI_pI_ne (by omega), r_sums_q e1 t i k h]) f1.1 hd ?_
                  rw [Int.toNat_natCast, rM_pI, rM_pI, rM_pI, rM_pI, h2, show mI M1 68 0 d = rSm (rM M) d 68 d by rw [← h2]; rfl]; exact hr
                rcases b4 with b4 | b4
                · rw [if_pos b4]; exact k137
                · rw [if_neg (by omega), if_pos b4]; exact k137
              · rw [if_neg b4] at hS
                rw [if_neg (fun h => b4 (.inl h)), if_neg (fun h => b4 (.inr h))]
                by_cases b5 : x = 26 ∨ x = 27
                · rw [if_pos b5, Option.some.injEq, Prod.mk.injEq] at hS
                  obtain ⟨rfl, rfl⟩ := hS
                  have k194 : ∃ M', Mo_worked_194 N (Mo_worked_14 N n) 0 0 d k x M = some (rTs ρ' 0 64 0, M') ∧ zfr fw M M' := by
                    unfold Mo_worked_194
                    obtain ⟨M1, e1, h2, f1⟩ := r_tests (N := N) (M := M) (d := d) hd
                    rw [e1, zBv_s, zI_t (by omega)]
                    dsimp only [zW]
                    refine hgo _ d (fun t i k h => by rw [mI_pI_ne (by omega), r_tests_q e1 t i k h]) f1.1 hd ?_
                    rw [Int.toNat_natCast, rM_pI, h2]; exact hr
                  rcases b5 with b5 | b5
                  · rw [if_pos b5]; exact k194
                  · rw [if_neg (by omega), if_pos b5]; exact k194
                · rw [if_neg b5] at hS
                  rw [if_neg (fun h => b5 (.inl h)), if_neg (fun h => b5 (.inr h))]
                  by_cases b6 : x = 29
                  · rw [if_pos b6] at hS
                    rw [if_pos (by omega), if_neg (by omega)]
                    unfold Mo_worked_243
                    rw [if_pos b6]
                    cases d with
                    | zero => cases hS
                    | succ d =>
                      simp only [Option.some.injEq] at hS
                      obtain ⟨M1, e1, h2, f1⟩ := r_tests (N := N) (M := M) (d := d + 1) hd
                      rw [e1, zBv_s, zI_t (by omega)]
                      dsimp only [zW]
                      have e5 : z32 (((d + 1 : Nat) : Int) + -1) = (d : Int) := by rw [zs (by omega)]; omega
                      rw [e5, Int.toNat_natCast, show mI M1 64 0 (d + 1) = rTs (rM M) (d + 1) 64 (d + 1) by rw [← h2]; rfl]
                      refine hval M1 d _ (fun t i k h => r_tests_q e1 t i k h) f1.1 (by omega) ?_
                      rw [h2, hS]; exact hr
                  · rw [if_neg b6] at hS
                    unfold Mo_worked_243
                    simp only [if_neg b6]
                    by_cases b7 : 100 ≤ x
                    · rw [if_pos b7, Option.some.injEq] at hS
                      rw [if_neg (by omega)]
                      exact hval M d _ (fun _ _ _ _ => rfl) rfl hd (by rw [hS]; exact hr)
                    · rw [if_neg b7] at hS
                      rw [if_pos (by omega)]
                      by_cases b8 : 1 ≤ x ∧ x ≤ 4
                      · rw [if_pos b8, Option.some.injEq] at hS
                        rw [if_pos (by omega), zI_t (by omega)]
                        have ev : mI M 73 0 x.toNat = rFc x a b c e := by
                          have : x = 1 ∨ x = 2 ∨ x = 3 ∨ x = 4 := by omega
                          rcases this with rfl | rfl | rfl | rfl
                          · exact ha
                          · exact hb
                          · exact hcc
                          · exact he
                        rw [ev]
                        exact hval M d _ (fun _ _ _ _ => rfl) rfl hd (by rw [hS]; exact hr)
                      · rw [if_neg b8] at hS; cases hS
theorem r_worked {a b c e : Int} {L : Int → Int → Int → Int → Int} {u : List Int} (h1 : mI M 59 0 0 = 0) (h2 : mI M 60 0 0 = (u.length : Int)) (h3 : u.length ≤ 1000) (h4 : ∀ i, (h : i < u.length) → mI M 61 0 i = u[i]) (h5 : rLw u L) (ra : zr32 a) (rb : zr32 b) (rc : zr32 c) (re : zr32 e) (hN : 2000 ≤ N) (ha : mI M 73 0 1 = a) (hb : mI M 73 0 2 = b) (hc : mI M 73 0 3 = c) (he : mI M 73 0 4 = e) : ∃ M', Mo_worked N 0 0 M = some (L a b c e, M') ∧ zfr fw M M' := by
  unfold Mo_worked
  obtain ⟨M1, e1, g1, f1⟩ := r_opens (N := N) (M := M) (d := 0) (by omega)
  rw [show ((0 : Nat) : Int) = 0 from rfl] at e1
  rw [e1, zBv_s, zI_t (by decide)]
  dsimp only [zW]
  have hq := r_opens_q e1
  obtain ⟨ρ', r1, r2⟩ := h5 a b c e ra rb rc re (rM M)
  rw [show Int.toNat 0 = 0 from rfl, hq _ _ _ (by omega), h1, ← r2]
  rw [← g1] at r1
  obtain ⟨M', e2, f2⟩ := r_work u 0 N 0 M1 ρ' (fun i hi => by rw [hq _ _ _ (by omega), Nat.zero_add, h4 i hi]) (by rw [hq _ _ _ (by omega), h2, Nat.zero_add]) (by omega) (by omega) (by omega) hN (by rw [hq _ _ _ (by omega), ha]) (by rw [hq _ _ _ (by omega), hb]) (by rw [hq _ _ _ (by omega), hc]) (by rw [hq _ _ _ (by omega), he]) r1
  exact ⟨M', e2, f1.tr f2⟩
end WORK
