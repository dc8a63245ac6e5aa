section RCP
variable {N : Nat} {M : ZM}
theorem r_copies3 {t t2 a b : Nat} (hne : t ≠ t2) (ha : a + 16 ≤ 300) (hb : b + 16 ≤ 300) : ∀ (n k : Nat) (M : ZM), a + 16 ≤ mN M t 0 → b + 16 ≤ mN M t2 0 → k ≤ 16 → 16 - k < n → ∃ M', Mo_copies_3 N n t 0 a t2 0 b k M = some M' ∧ M'.2 = M.2 ∧ (∀ j, k ≤ j → j < 16 → mI M' t2 0 (b + j) = mI M t 0 (a + j)) ∧ (∀ t' i' j, ¬ (t' = t2 ∧ i' = 0 ∧ b + k ≤ j ∧ j < b + 16) → mI M' t' i' j = mI M t' i' j) := by
  intro n
  induction n with
  | zero => intros; omega
  | succ n ih =>
    intro k M h1 h2 hk hn
    unfold Mo_copies_3
    by_cases e : k = 16
    · subst e
      rw [if_neg (by omega)]
      exact ⟨M, rfl, rfl, fun j _ _ => by omega, fun _ _ _ _ => rfl⟩
    · have e1 : z32 ((a : Int) + (k : Int)) = ((a + k : Nat) : Int) := by rw [zs (by omega)]; omega
      have e2 : z32 ((b : Int) + (k : Int)) = ((b + k : Nat) : Int) := by rw [zs (by omega)]; omega
      rw [if_pos (by omega), e1, e2]
      clear e1 e2
      simp only [zW_e, Int.toNat_natCast]
      rw [zI_t (by omega), zI_t (by omega), zsucc (by omega)]
      obtain ⟨M', e3, k3, g3, r3⟩ := ih (k + 1) (pI M t2 0 (b + k) (mI M t 0 (a + k))) h1 h2 (by omega) (by omega)
      refine ⟨M', e3, k3, fun j h4 h5 => ?_, fun t' i' j h4 => ?_⟩
      · by_cases e : j = k
        · subst e; rw [r3 _ _ _ (by omega), mI_pI_eq]
        · rw [g3 j (by omega) h5, mI_pI_ne (by omega)]
      · rw [r3 _ _ _ (by omega), mI_pI_ne (by omega)]
/-- a state is copied -/
theorem r_copies {t t2 a b n : Nat} {x y : Int} {S : SK} (hne : t ≠ t2) (hx : x = a) (hy : y = b) (ha : a + 16 ≤ 300) (hb : b + 16 ≤ 300) (h1 : a + 16 ≤ mN M t 0) (h2 : b + 16 ≤ mN M t2 0) (hN : 2000 ≤ N) (hs : RS t a n S M) : ∃ M', Mo_copies N t 0 x t2 0 y M = some M' ∧ M'.2 = M.2 ∧ RS t2 b n S M' ∧ (∀ t' i' j, ¬ (t' = t2 ∧ i' = 0 ∧ b ≤ j ∧ j < b + 16) → mI M' t' i' j = mI M t' i' j) := by
  subst hx; subst hy
  obtain ⟨M', e3, k3, g3, r3⟩ := r_copies3 (N := N) hne ha hb N 0 M h1 h2 (by omega) (by omega)
  have g : ∀ j, j < 16 → mI M' t2 0 (b + j) = mI M t 0 (a + j) := fun j hj => g3 j (by omega) hj
  refine ⟨M', e3, k3, ?_, fun t' i' j h => r3 t' i' j (by omega)⟩
  obtain ⟨q1, q2, q3, q4, q5⟩ := hs
  refine ⟨fun k hk => ⟨?_, ?_⟩, ?_, ?_, ?_, ?_⟩
  · rw [Nat.add_assoc, g _ (by omega), ← Nat.add_assoc]; exact (q1 k hk).1
  · rw [Nat.add_assoc, g _ (by omega), ← Nat.add_assoc]; exact (q1 k hk).2
  · have := g 0 (by omega); rw [Nat.add_zero, Nat.add_zero] at this; rw [this]; exact q2
  · rw [g _ (by omega)]; exact q3
  · rw [g _ (by omega)]; exact q4
  · rw [g _ (by omega)]; exact q5
end RCP
section RQ2
variable {N c : Nat} {A : AK} {M : ZM}
/-- s is put aside in row t (82 or 83) -/
theorem r_aside (h : RA A M) {t : Nat} (ht : t = 82 ∨ t = 83) (hN : 2000 ≤ N) : ∃ M', Mo_copies N 81 0 0 t 0 0 M = some M' ∧ zfr fQ M M' ∧ RS t 0 (qN (aP A)) (aS A) M' ∧ R0 (qN (aP A)) (aS A) M' := by
  obtain ⟨M1, e1, k1, s1, r1⟩ := r_copies (N := N) (t := 81) (t2 := t) (a := 0) (b := 0) (x := 0) (y := 0) (by omega) rfl rfl (by omega) (by omega) (by rw [h.k.n 16 (fun _ => rfl)]; omega) (by rcases ht with rfl | rfl <;> rw [h.k.n 16 (fun _ => rfl)] <;> omega) hN h.s
  exact ⟨M1, e1, ⟨k1, fun t' i k h => r1 t' i k (by simp [fQ] at h; omega)⟩, s1, h.s.g (fun k _ _ => r1 _ _ _ (by omega))⟩
/-- and comes back -/
theorem r_back {t : Nat} (ht : t = 82 ∨ t = 83) (hN : 2000 ≤ N) (hk : KM M) (hs : RS t 0 (qN (aP A)) (aS A) M) : ∃ M', Mo_copies N t 0 0 81 0 0 M = some M' ∧ zfr fQ M M' ∧ R0 (qN (aP A)) (aS A) M' := by
  obtain ⟨M1, e1, k1, s1, r1⟩ := r_copies (N := N) (t := t) (t2 := 81) (a := 0) (b := 0) (x := 0) (y := 0) (by omega) rfl rfl (by omega) (by omega) (by rcases ht with rfl | rfl <;> rw [hk.n 16 (fun _ => rfl)] <;> omega) (by rw [hk.n 16 (fun _ => rfl)]; omega) hN hs
  exact ⟨M1, e1, ⟨k1, fun t' i k h => r1 t' i k (by simp [fQ] at h; omega)⟩, s1⟩
/-- while a trial runs: what it stands on -/
def rE (t : Nat) (A : AK) (S : SK) (M : ZM) : Prop := KM M ∧ RP (aP A) M ∧ R0 (qN (aP A)) S M ∧ RS t 0 (qN (aP A)) (aS A) M
theorem rE_r {t : Nat} (ht : t = 82 ∨ t = 83) {S : SK} {M M' : ZM} (h : rE t A S M) (f : zfr fr M M') : rE t A S M' := ⟨h.1.e f.1, h.2.1.fr f fr_p, h.2.2.1.fr f (fun k _ _ => fr_s (by omega) k), h.2.2.2.fr f (fun k _ _ => fr_s (by omega) k)⟩
theorem rE_p {t : Nat} (ht : t = 82 ∨ t = 83) {S S' : SK} {M M' : ZM} (h : rE t A S M) (f : zfr fp M M') (s : R0 (qN (aP A)) S' M') : rE t A S' M' := ⟨h.1.e f.1, h.2.1.fr f fp_p, s, h.2.2.2.fr f (fun k _ _ => by simp [fp, fr]; omega)⟩
theorem r_tstep {t : Nat} (ht : t = 82 ∨ t = 83) (hv : VA c A) (hc : c < 1000) (hN : 2000 ≤ N) {j : Nat} (hj : j < 1000) (h : rE t A (mSt (aP A) (aS A) j) M) : ∃ M', Mo_passes N 0 M = some (mSold (aP A) (mSt (aP A) (aS A) j), M') ∧ zfr fQ M M' ∧ rE t A (mSt (aP A) (aS A) (j + 1)) M' := by
  obtain ⟨M1, e1, f1, s1⟩ := r_passes (N := N) hv.p (mSt_v hv.s j) (by omega) hN h.2.1 h.2.2.1
  exact ⟨M1, e1, f1.mo fp_Q, rE_p ht h f1 s1⟩
theorem m_later32 (hv : VA c A) (hc : c < 1000) (hN : 2000 ≤ N) {m : Nat} (hm : m ≤ 60) : ∀ (n j : Nat) (M : ZM), rE 83 A (mSt (aP A) (aS A) j) M → j ≤ m → m - j < n → ∃ M', Mo_later_32 N n 0 m j M = some (mHome (aP A) (mSt (aP A) (aS A) m), M') ∧ zfr fQ M M' ∧ R0 (qN (aP A)) (aS A) M' := by
  intro n
  induction n with
  | zero => intros; omega
  | succ n ih =>
    intro j M h hj hn
    unfold Mo_later_32
    by_cases b : j = m
    · subst b
      rw [if_neg (by omega)]
      obtain ⟨M1, e1, f1, _⟩ := r_homeNow (N := N) hv.p (mSt_v hv.s j) hN h.2.1 h.2.2.1
      have h1 := rE_r (.inr rfl) h f1
      obtain ⟨M2, e2, f2, s2⟩ := r_back (N := N) (.inr rfl) hN h1.1 h1.2.2.2
      rw [e1, zB_s, e2, zBv_s]
      exact ⟨M2, rfl, (f1.mo fr_Q).tr f2, s2⟩
    · rw [if_pos (by omega)]
      obtain ⟨M1, e1, f1, h1⟩ := r_tstep (N := N) (.inr rfl) hv hc hN (j := j) (by omega) h
      rw [e1, zB_s]
      simp only [zW_e]
      rw [zsucc (by omega)]
      obtain ⟨M', e2, f2, s2⟩ := ih (j + 1) M1 h1 (by omega) (by omega)
      exact ⟨M', e2, f1.tr f2, s2⟩
/-- all that a question leaves -/
theorem RA.e2 (h : RA A M) {M1 : ZM} (f : zfr fQ (pI M 11 0 0 0) M1) (s : R0 (qN (aP A)) (aS A) M1) {v w : Int} (hw : v = w) : ∃ M', some (v, M1) = some (w, M') ∧ RA A M' ∧ zRl M M' := by
  obtain ⟨a, b⟩ := (h.z 0).q f s
  exact ⟨_, by rw [hw], a, (zRl.z 0).tr b⟩
theorem m_later (h : RA A M) (hv : VA c A) (hc : c < 1000) (hN : 2000 ≤ N) (x : Int) : ∃ M', Mo_later N 0 x M = some (qLater A x, M') ∧ RA A M' ∧ zRl M M' := by
  have h0 := h.z 0
  unfold Mo_later qLater
  simp only [zW_e]
  rw [r_within, zB_s]
  by_cases b : 0 ≤ x ∧ x ≤ 60
  · obtain ⟨k, rfl⟩ : ∃ k : Nat, x = k := ⟨x.toNat, by omega⟩
    obtain ⟨M1, e1, f1, s1, s2⟩ := r_aside (N := N) h0 (.inr rfl) hN
    rw [if_pos b, if_neg (by decide), if_pos b, e1, zBv_s, Int.toNat_natCast]
    obtain ⟨M2, e2, f2, s3⟩ := m_later32 (N := N) hv hc hN (m := k) (by omega) N 0 M1 ⟨h0.k.e f1.1, h0.p.fr f1 fQ_p, s2, s1⟩ (by omega) (by omega)
    rw [show ((0 : Nat) : Int) = 0 from rfl] at e2
    rw [e2]
    exact h.e2 (f1.tr f2) s3 rfl
  · rw [if_neg b, if_pos rfl, if_neg b]
    exact h.e0 rfl
theorem m_total36 (hv : VA c A) (hc : c < 1000) (hN : 2000 ≤ N) {m : Nat} (hm : m ≤ 60) : ∀ (n j : Nat) (M : ZM), rE 83 A (mSt (aP A) (aS A) j) M → j ≤ m → m - j < n → ∃ M', Mo_total_36 N n 0 m (zsum (fun j => mSold (aP A) (mSt (aP A) (aS A) j)) j) j M = some (zsum (fun j => mSold (aP A) (mSt (aP A) (aS A) j)) m, M') ∧ zfr fQ M M' ∧ R0 (qN (aP A)) (aS A) M' := by
  intro n
  induction n with
  | zero => intros; omega
  | succ n ih =>
    intro j M h hj hn
    unfold Mo_total_36
    by_cases b : j = m
    · subst b
      rw [if_neg (by omega)]
      obtain ⟨M2, e2, f2, s2⟩ := r_back (N := N) (.inr rfl) hN h.1 h.2.2.2
      rw [e2, zBv_s]
      exact ⟨M2, rfl, f2, s2⟩
    · rw [if_pos (by omega)]
      obtain ⟨M1, e1, f1, h1⟩ := r_tstep (N := N) (.inr rfl) hv hc hN (j := j) (by omega) h
      rw [e1, zB_s]
      simp only [zW_e]
      have a1 := zsum_ge (f := fun j => mSold (aP A) (mSt (aP A) (aS A) j)) (n := j) (a := -12000) (fun k _ => (mSold_b hv.p (mSt_v hv.s k)).1)
      have a2 := zsum_le (f := fun j => mSold (aP A) (mSt (aP A) (aS A) j)) (n := j) (a := 12000) (fun k _ => (mSold_b hv.p (mSt_v hv.s k)).2)
      have a3 := mSold_b hv.p (mSt_v hv.s j)
      rw [zsucc (by omega), zs (by omega)]
      obtain ⟨M', e2, f2, s2⟩ := ih (j + 1) M1 h1 (by omega) (by omega)
      exact ⟨M', e2, f1.tr f2, s2⟩
theorem m_total (h : RA A M) (hv : VA c A) (hc : c < 1000) (hN : 2000 ≤ N) (x : Int) : ∃ M', Mo_total N 0 x M = some (qTotal A x, M') ∧ RA A M' ∧ zRl M M' := by
  have h0 := h.z 0
  unfold Mo_total qTotal
  simp only [zW_e]
  rw [r_within, zB_s]
  by_cases b : 1 ≤ x ∧ x ≤ 60
  · obtain ⟨k, rfl⟩ : ∃ k : Nat, x = k := ⟨x.toNat, by omega⟩
    obtain ⟨M1, e1, f1, s1, s2⟩ := r_aside (N := N) h0 (.inr rfl) hN
    rw [if_pos b, if_neg (by decide), if_pos b, e1, zBv_s, Int.toNat_natCast]
    obtain ⟨M2, e2, f2, s3⟩ := m_total36 (N := N) hv hc hN (m := k) (by omega) N 0 M1 ⟨h0.k.e f1.1, h0.p.fr f1 fQ_p, s2, s1⟩ (by omega) (by omega)
    rw [show zsum (fun j => mSold (aP A) (mSt (aP A) (aS A) j)) 0 = 0 from rfl, show ((0 : Nat) : Int) = 0 from rfl] at e2
    rw [e2]
    exact h.e2 (f1.tr f2) s3 rfl
  · rw [if_neg b, if_pos rfl, if_neg b]
    exact h.e0 rfl
theorem m_br63 (hN : 2000 ≤ N) {S : SK} {x v : Int} (h : rE 83 A S M) (hx : v = if 100 < x then -1 else x) : ∃ M', Mo_breaks_63 N 0 x M = some (v, M') ∧ zfr fQ M M' ∧ R0 (qN (aP A)) (aS A) M' := by
  unfold Mo_breaks_63
  obtain ⟨M2, e2, f2, s2⟩ := r_back (N := N) (.inr rfl) hN h.1 h.2.2.2
  rw [e2, zBv_s, hx]
  by_cases b : 100 < x
  · rw [if_pos b, if_pos b]; exact ⟨M2, rfl, f2, s2⟩
  · rw [if_neg b, if_neg b]; exact ⟨M2, rfl, f2, s2⟩
theorem m_br38 (hv : VA c A) (hc : c < 1000) (hN : 2000 ≤ N) {t : Nat} (ht : t < 6) : ∀ (m n j : Nat) (M : ZM), rE 83 A (mSt (aP A) (aS A) j) M → m + j = 101 → m < n → ∃ M', Mo_breaks_38 N n 0 t j M = some (mBf (aP A) (aS A) t m j, M') ∧ zfr fQ M M' ∧ R0 (qN (aP A)) (aS A) M' := by
  intro m
  induction m with
  | zero =>
    intro n j M h hj hn
    cases n with
    | zero => omega
    | succ n =>
      unfold Mo_breaks_38
      rw [if_pos (by omega)]
      exact m_br63 hN h (by rw [if_pos (by omega)]; rfl)
  | succ m ih =>
    intro n j M h hj hn
    cases n with
    | zero => omega
    | succ n =>
      unfold Mo_breaks_38
      rw [if_neg (by omega), r_isBroken h.2.2.1 ((mSt_v hv.s j).b hv.p) ht, zB_s, mBf]
      by_cases b : zbt (sB (mSt (aP A) (aS A) j)) t = true
      · rw [if_pos b, if_neg (by decide), if_pos b]
        exact m_br63 hN h (by rw [if_neg (by omega)])
      · rw [if_neg b, if_pos rfl, if_neg b]
        obtain ⟨M1, e1, f1, h1⟩ := r_tstep (N := N) (.inr rfl) hv hc hN (j := j) (by omega) h
        rw [e1, zB_s]
        simp only [zW_e]
        rw [zsucc (by omega)]
        obtain ⟨M', e2, f2, s2⟩ := ih n (j + 1) M1 h1 (by omega) (by omega)
        exact ⟨M', e2, f1.tr f2, s2⟩
theorem m_breaks (h : RA A M) (hv : VA c A) (hc : c < 1000) (hN : 2000 ≤ N) (x : Int) : ∃ M', Mo_breaks N 0 x M = some (qBreaks A x, M') ∧ RA A M' ∧ zRl M M' := by
  have h0 := h.z 0
  have h6 := hv.p.n
  unfold Mo_breaks qBreaks
  simp only [zW_e]
  rw [r_isTurbine h0.p, zB_s]
  by_cases b : 0 ≤ x ∧ x < qN (aP A)
  · obtain ⟨k, rfl⟩ : ∃ k : Nat, x = k := ⟨x.toNat, by omega⟩
    rw [if_pos b, if_neg (by decide), if_pos b, r_isBroken h0.s (hv.s.b hv.p) (by omega), zB_s, Int.toNat_natCast]
    by_cases b2 : zbt (sB (aS A)) k = true
    · rw [if_pos b2, if_neg (by decide), if_pos b2]
      exact h.e0 rfl
    · rw [if_neg b2, if_pos rfl, if_neg b2]
      obtain ⟨M1, e1, f1, s1, s2⟩ := r_aside (N := N) h0 (.inr rfl) hN
      rw [e1, zBv_s]
      obtain ⟨M2, e2, f2, s3⟩ := m_br38 (N := N) hv hc hN (t := k) (by omega) 101 N 0 M1 ⟨h0.k.e f1.1, h0.p.fr f1 fQ_p, s2, s1⟩ (by omega) (by omega)
      rw [show ((0 : Nat) : Int) = 0 from rfl] at e2
      rw [e2]
      refine h.e2 (f1.tr f2) s3 ?_
      rw [mBf, show mSt (aP A) (aS A) 0 = aS A from rfl, if_neg b2]
  · rw [if_neg b, if_pos rfl, if_neg b]
    exact h.e0 rfl
theorem m_str25 (hv : VA c A) (hN : 2000 ≤ N) {x : Int} (hx : x = mSold (aP A) (aS A)) : ∀ (n k : Nat) (M : ZM), rE 83 A (sWA (aS A) (fun t => if t < k then 2 else sA (aS A) t)) M → k ≤ 6 → 6 - k < n → ∃ M', Mo_straight_25 N n 0 x k M = some (qStraight A, M') ∧ zfr fQ M M' ∧ R0 (qN (aP A)) (aS A) M' := by
  intro n
  induction n with
  | zero => intros; omega
  | succ n ih =>
    intro k M h hk hn
    unfold Mo_straight_25
    by_cases b : k = 6
    · subst b
      rw [if_neg (by omega)]
      have hS : R0 (qN (aP A)) (sWA (aS A) (fun _ => 2)) M := by
        obtain ⟨q1, q2, q3, q4, q5⟩ := h.2.2.1
        refine ⟨fun k hk => ⟨?_, (q1 k hk).2⟩, q2, q3, q4, q5⟩
        rw [(q1 k hk).1]
        show (if k < 6 then (2 : Int) else _) = 2
        rw [if_pos hk]
      have v2 : VS c (aP A) (sWA (aS A) (fun _ => 2)) := ⟨hv.s.1, hv.s.2.1, fun k _ => by show (0 : Int) ≤ 2 ∧ (2 : Int) ≤ 4; omega, hv.s.2.2.2.1, hv.s.2.2.2.2⟩
      obtain ⟨M1, e1, f1, _⟩ := r_soldNow (N := N) hv.p v2 hN h.2.1 hS
      have h1 := rE_r (.inr rfl) h f1
      obtain ⟨M2, e2, f2, s2⟩ := r_back (N := N) (.inr rfl) hN h1.1 h1.2.2.2
      have b1 := mSold_b hv.p v2
      have b2 := mSold_b hv.p hv.s
      rw [e1, zB_s, e2, zBv_s, hx, zs (by omega)]
      exact ⟨M2, rfl, (f1.mo fr_Q).tr f2, s2⟩
    · have e4 : z32 (4 + (k : Int)) = ((4 + k : Nat) : Int) := by rw [zs (by omega)]; omega
      rw [if_pos (by omega), e4]
      clear e4
      simp only [zW_e, Int.toNat_natCast]
      rw [zI_t (by omega), zsucc (by omega)]
      have f1 : zfr fQ M (pI M 81 0 (4 + k) 2) := (zfr.rf M).pI (by simp [fQ])
      have h1 : rE 83 A (sWA (aS A) (fun t => if t < k + 1 then 2 else sA (aS A) t)) (pI M 81 0 (4 + k) 2) := by
        refine ⟨h.1.e rfl, h.2.1.fr f1 fQ_p, ?_, h.2.2.2.g (fun k _ _ => mI_pI_ne (by omega))⟩
        obtain ⟨q1, q2, q3, q4, q5⟩ := h.2.2.1
        refine ⟨fun j hj => ⟨?_, ?_⟩, ?_, ?_, ?_, ?_⟩
        · rw [mI_pI]
          show _ = if j < k + 1 then (2 : Int) else sA (aS A) j
          by_cases e : j = k
          · rw [if_pos (by omega), if_pos (by omega)]
          · rw [if_neg (by omega), (q1 j hj).1]
            show (if j < k then (2 : Int) else sA (aS A) j) = _
            by_cases e2 : j < k
            · rw [if_pos e2, if_pos (by omega)]
            · rw [if_neg e2, if_neg (by omega)]
        · rw [mI_pI_ne (by omega)]; exact (q1 j hj).2
        · rw [mI_pI_ne (by omega)]; exact q2
        · rw [mI_pI_ne (by omega)]; exact q3
        · rw [mI_pI_ne (by omega)]; exact q4
        · rw [mI_pI_ne (by omega)]; exact q5
      obtain ⟨M', e2, f2, s2⟩ := ih (k + 1) _ h1 (by omega) (by omega)
      exact ⟨M', e2, f1.tr f2, s2⟩
theorem m_straight (h : RA A M) (hv : VA c A) (hN : 2000 ≤ N) : ∃ M', Mo_straight N 0 M = some (qStraight A, M') ∧ RA A M' ∧ zRl M M' := by
  have h0 := h.z 0
  unfold Mo_straight
  simp only [zW_e]
  obtain ⟨M1, e1, f1, _⟩ := r_soldNow (N := N) hv.p hv.s hN h0.p h0.s
  have h1 := (h0.qr f1).1
  obtain ⟨M2, e2, f2, s1, s2⟩ := r_aside (N := N) h1 (.inr rfl) hN
  rw [e1, zB_s, e2, zBv_s]
  obtain ⟨M3, e3, f3, s3⟩ := m_str25 (N := N) hv hN (x := mSold (aP A) (aS A)) rfl N 0 M2 ⟨h1.k.e f2.1, h1.p.fr f2 fQ_p, s2, s1⟩ (by omega) (by omega)
  rw [show ((0 : Nat) : Int) = 0 from rfl] at e3
  rw [e3]
  exact h.e2 (((f1.mo fr_Q).tr f2).tr f3) s3 rfl
theorem r_wins4 {S : SK} (hv : VP (aP A)) (hz : VS c (aP A) S) (hp : RP (aP A) M) (hs : R0 (qN (aP A)) S M) (hN : 2000 ≤ N) {o f bl : Int} (hfr : mI M 11 0 51 = f) (hf : 0 ≤ f ∧ f ≤ 3) (hbl : mI M 11 0 50 = bl) (hb : 0 ≤ bl ∧ bl ≤ 30) : ∀ (n k : Nat), k ≤ qN (aP A) → qN (aP A) - k < n → Mo_windsOf_4 N n 0 o (zsum (fun t => if qT (aP A) 2 t = o ∧ mRun S t = true then mWnd bl (mTkn (aP A) (sA S) (mRun S) f t) else 0) k) k M = some (zsum (fun t => if qT (aP A) 2 t = o ∧ mRun S t = true then mWnd bl (mTkn (aP A) (sA S) (mRun S) f t) else 0) (qN (aP A)), M) := by
  intro n
  induction n with
  | zero => intros; omega
  | succ n ih =>
    intro k hk hn
    have h6 := hv.n
    have hi := ih (k + 1)
    unfold Mo_windsOf_4
    rw [hp.n]
    by_cases b : k = qN (aP A)
    · subst b
      rw [if_neg (by omega)]
    · have hkN : k < qN (aP A) := by omega
      have hw : ∀ t, 0 ≤ mWnd bl (mTkn (aP A) (sA S) (mRun S) f t) ∧ mWnd bl (mTkn (aP A) (sA S) (mRun S) f t) ≤ 30 := fun t => mWnd_b hb (mTkn_b hv)
      have a1 := zsum_ge (f := fun t => if qT (aP A) 2 t = o ∧ mRun S t = true then mWnd bl (mTkn (aP A) (sA S) (mRun S) f t) else 0) (n := k) (a := 0) (fun t ht => by
        have := hw t
        split <;> omega)
      have a2 := zsum_le (f := fun t => if qT (aP A) 2 t = o ∧ mRun S t = true then mWnd bl (mTkn (aP A) (sA S) (mRun S) f t) else 0) (n := k) (a := 30) (fun t ht => by
        have := hw t
        split <;> omega)
      have a3 := hw k
      rw [if_pos (by omega), zI_t (by omega), Int.toNat_natCast, hp.o hkN]
      simp only [zW_e, Int.add_zero]
      rw [zsucc (by omega)]
      rw [zsum] at hi
      by_cases b2 : qT (aP A) 2 k = o
      · rw [if_pos b2, r_runs hv hs (hz.b hv) hkN, zB_s]
        by_cases b3 : mRun S k = true
        · rw [if_pos b3, if_neg (by decide), r_windOf hv hp hs hz hN hfr hf hbl hb hkN, zB_s, zs (by omega)]
          rw [if_pos ⟨b2, b3⟩] at hi
          exact hi (by omega) (by omega)
        · rw [if_neg b3, if_pos rfl, zs (by omega)]
          rw [if_neg (fun h => b3 h.2), Int.add_zero] at hi
          exact hi (by omega) (by omega)
      · rw [if_neg b2, zs (by omega)]
        rw [if_neg (fun h => b2 h.1), Int.add_zero] at hi
        exact hi (by omega) (by omega)
theorem r_owned4 (hv : VP (aP A)) (hp : RP (aP A) M) {o : Int} : ∀ (n k : Nat), k ≤ qN (aP A) → qN (aP A) - k < n → Mo_ownedBy_4 N n 0 o (zbts (mOwn (aP A) o) k : Nat) k M = some (((zbts (mOwn (aP A) o) (qN (aP A)) : Nat) : Int), M) := by
  intro n
  induction n with
  | zero => intros; omega
  | succ n ih =>
    intro k hk hn
    have h6 := hv.n
    have hb64 : zbts (mOwn (aP A) o) k < 64 := pow64 (n := k) (by omega) zbts_lt
    have hi := ih (k + 1)
    unfold Mo_ownedBy_4
    rw [hp.n]
    by_cases b : k = qN (aP A)
    · subst b
      rw [if_neg (by omega)]
    · have hkN : k < qN (aP A) := by omega
      rw [if_pos (by omega)]
      simp only [zW_e]
      rw [zsucc (by omega), zor_0n hb64, zsh_n k (by omega), zor_n _ hb64 _ (p2_64 (by omega))]
      rw [zbts] at hi
      by_cases b0 : o = 0
      · rw [if_pos b0]
        rw [if_pos (by simp [mOwn, b0])] at hi
        exact hi (by omega) (by omega)
      · rw [if_neg b0, zI_t (by omega), Int.toNat_natCast, hp.o hkN]
        by_cases b2 : qT (aP A) 2 k = o
        · rw [if_pos b2]
          rw [if_pos (by simp [mOwn, b2])] at hi
          exact hi (by omega) (by omega)
        · rw [if_neg b2]
          rw [if_neg (by simp [mOwn, b0, b2]), Nat.or_zero] at hi
          exact hi (by omega) (by omega)
theorem r_ownedBy (hv : VP (aP A)) (hp : RP (aP A) M) (hN : 2000 ≤ N) (o : Int) : Mo_ownedBy N 0 o M = some (((zbts (mOwn (aP A) o) (qN (aP A)) : Nat) : Int), M) := by
  have h6 := hv.n
  have := r_owned4 (N := N) hv hp (o := o) N 0 (by omega) (by omega)
  exact this
theorem m_robbed (h : RA A M) (hv : VA c A) (hN : 2000 ≤ N) (x : Int) : ∃ M', Mo_robbed N 0 x M = some (qRobbed A x, M') ∧ RA A M' ∧ zRl M M' := by
  have h0 := h.z 0
  have h6 := hv.p.n
  unfold Mo_robbed qRobbed
  simp only [zW_e]
  rw [r_within, zB_s]
  by_cases b : 1 ≤ x ∧ x ≤ 2
  · rw [if_pos b, if_neg (by decide), if_pos b]
    obtain ⟨M1, e1, f1, g1, g2⟩ := r_looks (N := N) hv.p h0.p h0.s hv.s.t
    have h1 := (h0.qr f1).1
    rw [e1, zBv_s]
    have w1 := r_wins4 (N := N) hv.p hv.s h1.p h1.s hN (o := x) g2 (hv.p.fr hv.s.t) g1 (hv.p.bl hv.s.t) N 0 (by omega) (by omega)
    unfold Mo_windsOf
    rw [show ((0 : Nat) : Int) = 0 from rfl] at w1
    rw [show zsum _ 0 = 0 from rfl] at w1
    rw [w1, zB_s, r_ownedBy hv.p h1.p hN, zB_s, h1.s.o, zs (x := 3 - x) (by omega)]
    have hb1 : zshu (qN (aP A)) (sO (aS A)) < 64 := zshu_lt h6
    have hb2 : zbts (mOwn (aP A) (3 - x)) (qN (aP A)) < 64 := pow64 h6 zbts_lt
    rw [zor_n _ hb1 _ hb2]
    -- the others are shut
    have eS : zshu (qN (aP A)) (sO (aS A)) ||| zbts (mOwn (aP A) (3 - x)) (qN (aP A)) = zshu (qN (aP A)) (sO (mRb (aP A) (aS A) x (qN (aP A)))) := by
      refine ext64 (Nat.or_lt_two_pow (n := 6) hb1 hb2) (zshu_lt h6) fun t ht => ?_
      rw [zbt_or]
      unfold zshu
      rw [zbts_t, zbts_t, zbts_t]
      show _ = (decide (t < qN (aP A)) && !zbt (zbts _ _) t)
      rw [zbts_t]
      by_cases e : t < qN (aP A)
      · have ho := hv.p.o e
        have e1 : mOwn (aP A) (3 - x) t = !decide (qT (aP A) 2 t = x) := by
          unfold mOwn
          rw [show decide (3 - x = 0) = false by simp; omega, Bool.false_or, ← decide_not]
          apply decide_eq_decide.2
          omega
        rw [e1]
        have e2 : decide (qN (aP A) ≤ t) = false := by simp; omega
        rw [e2]
        cases zbt (sO (aS A)) t <;> simp [e]
      · simp [e]
    rw [eS]
    have f2 : zfr f81 M1 (pI M1 81 0 2 (zshu (qN (aP A)) (sO (mRb (aP A) (aS A) x (qN (aP A)))) : Int)) := (zfr.rf M1).pI (by simp [f81])
    have s2 : R0 (qN (aP A)) (mRb (aP A) (aS A) x (qN (aP A))) (pI M1 81 0 2 (zshu (qN (aP A)) (sO (mRb (aP A) (aS A) x (qN (aP A)))) : Int)) := by
      obtain ⟨q1, q2, q3, q4, q5⟩ := h1.s
      refine ⟨fun j hj => ⟨?_, ?_⟩, ?_, ?_, mI_pI_eq, ?_⟩
      · rw [mI_pI_ne (by omega)]; exact (q1 j hj).1
      · rw [mI_pI_ne (by omega)]; exact (q1 j hj).2
      · rw [mI_pI_ne (by omega)]; exact q2
      · rw [mI_pI_ne (by omega)]; exact q3
      · rw [mI_pI_ne (by omega)]; exact q5
    have w2 := r_wins4 (N := N) hv.p (mRb_v (o := x) (k := qN (aP A)) hv.s) (h1.p.fr f2 f81_p) s2 hN (o := x) (f := mFr (aP A) (aS A)) (bl := mBl (aP A) (aS A)) (by rw [mI_pI_ne (by omega), g2]) (hv.p.fr hv.s.t) (by rw [mI_pI_ne (by omega), g1]) (hv.p.bl hv.s.t) N 0 (by omega) (by omega)
    rw [show ((0 : Nat) : Int) = 0 from rfl] at w2
    rw [show zsum _ 0 = 0 from rfl] at w2
    rw [w2, zB_s]
    have b1 := mOw_b (o := x) hv.p (mRb_v (o := x) (k := qN (aP A)) hv.s)
    have b2 := mOw_b (o := x) hv.p hv.s
    have f3 : zfr fQ M1 (pI (pI M1 81 0 2 (zshu (qN (aP A)) (sO (mRb (aP A) (aS A) x (qN (aP A)))) : Int)) 81 0 2 (zshu (qN (aP A)) (sO (aS A)) : Int)) := ((zfr.rf M1).pI (by simp [fQ])).pI (by simp [fQ])
    refine h.e2 ((f1.mo fr_Q).tr f3) ?_ ?_
    · obtain ⟨q1, q2, q3, q4, q5⟩ := h1.s
      refine ⟨fun j hj => ⟨?_, ?_⟩, ?_, ?_, mI_pI_eq, ?_⟩
      · rw [mI_pI_ne (by omega), mI_pI_ne (by omega)]; exact (q1 j hj).1
      · rw [mI_pI_ne (by omega), mI_pI_ne (by omega)]; exact (q1 j hj).2
      · rw [mI_pI_ne (by omega), mI_pI_ne (by omega)]; exact q2
      · rw [mI_pI_ne (by omega), mI_pI_ne (by omega)]; exact q3
      · rw [mI_pI_ne (by omega), mI_pI_ne (by omega)]; exact q5
    · exact zs (x := mOw (aP A) (mRb (aP A) (aS A) x (qN (aP A))) x - mOw (aP A) (aS A) x) (by omega)
  · rw [if_neg b, if_pos rfl, if_neg b]
    exact h.e0 rfl
end RQ2
