theorem ixm {k j m : Nat} (h : k < 1000) (hj : j < 1000) (hm : m ≤ 10) : z32 (z32 ((k : Int) * (m : Int)) + (j : Int)) = ((k * m + j : Nat) : Int) := by
  have h1 : k * m ≤ 1000 * 10 := Nat.mul_le_mul (by omega) hm
  have e : (k : Int) * (m : Int) = ((k * m : Nat) : Int) := by rw [Int.natCast_mul]
  rw [e]
  generalize k * m = q at *
  rw [zs (x := (q : Int)) (by omega), zs (by omega)]; omega
theorem ix6 {k j : Nat} (h : k < 1000) (hj : j < 1000) : z32 (z32 ((k : Int) * 6) + (j : Int)) = ((k * 6 + j : Nat) : Int) := ixm (m := 6) h hj (by omega)
theorem ix5 {k j : Nat} (h : k < 1000) (hj : j < 1000) : z32 (z32 ((k : Int) * 5) + (j : Int)) = ((k * 5 + j : Nat) : Int) := ixm (m := 5) h hj (by omega)
theorem ix5' {k j : Nat} (h : k < 1000) (hj : j < 1000) : z32 (z32 ((k : Int) * 5) + (j : Int)) = ((5 * k + j : Nat) : Int) := by rw [ix5 h hj, Nat.mul_comm]
theorem ix10 {k j : Nat} (h : k < 1000) (hj : j < 1000) : z32 (z32 ((k : Int) * 10) + (j : Int)) = ((k * 10 + j : Nat) : Int) := ixm (m := 10) h hj (by omega)
/-- tables of turbine t -/
def fFo (a t : Nat) (t' i k : Nat) : Bool := (t' == 34 && i == a && decide (30 * t ≤ k) && decide (k < 30 * t + 30)) || (t' == 35 && i == a && decide (50 * t ≤ k) && decide (k < 50 * t + 50)) || t' == 25
theorem fFo_p {a t : Nat} : ∀ t' i k, t' = 3 ∨ t' = 4 ∨ t' = 26 ∨ (28 ≤ t' ∧ t' ≤ 32) → fFo a t t' i k = false := by
  intro t' i k h; simp [fFo]; omega
theorem fFo_s {a t b : Nat} : ∀ t' k, t' = 7 ∨ t' = 40 ∨ t' = 41 → fFo a t t' b k = false := by
  intro t' k h; simp [fFo]; omega
theorem fL_Fo {a t : Nat} : ∀ t' i k, fFo a t t' i k = false → fL t' i k = false := by
  intro t' i k h; simp [fFo] at h; simp [fL]; omega
section SCLS
variable {N c p a : Nat} {P : PK} {S : SK} {M : ZM}
theorem s_for122 (hv : VP P) (hz : VS c P S) (hN : 2000 ≤ N) {t x : Nat} (ht : t < qN P) (hx : x < 5) {rec36 : Nat → Nat → Nat → Int → Int → Int → Int → Int → ZM → Option ZM} {fr : Int} : ∀ (n d : Nat) (M : ZM), CP p P M → CS 0 S M → (∀ e : Nat, e < d → mI M 35 a ((5 * t + x) * 10 + e) = gfT P S t x e) → d ≤ 10 → 10 - d < n → ∃ M', Se_foresee_122 N rec36 n a p 0 t (mBl P S) fr (if mRun S t then 1 else 0) x ((5 * t + x : Nat) : Int) d M = rec36 a p 0 t (mBl P S) fr (if mRun S t then 1 else 0) ((x + 1 : Nat) : Int) M' ∧ zfr (fFo a t) M M' ∧ (∀ e : Nat, e < 10 → mI M' 35 a ((5 * t + x) * 10 + e) = gfT P S t x e) ∧ (∀ t' i k, ¬ (t' = 25 ∨ (t' = 35 ∧ i = a ∧ (5 * t + x) * 10 ≤ k ∧ k < (5 * t + x) * 10 + 10)) → mI M' t' i k = mI M t' i k) := by
  intro n
  induction n with
  | zero => intros; omega
  | succ n ih =>
    intro d M hp hs h35 hd hn
    have h6 := hv.n
    unfold Se_foresee_122
    by_cases e : d = 10
    · subst e
      rw [if_neg (by omega)]
      simp only [zW_e]
      rw [zsucc (by omega)]
      exact ⟨M, rfl, zfr.rf M, h35, fun _ _ _ _ => rfl⟩
    · have hbl : 0 ≤ mBl P S ∧ mBl P S ≤ 30 := hv.bl hz.t
      rw [if_pos (by omega), c_left hbl (by omega), zB_s, ix10 (by omega) (by omega)]
      simp only [zW_e, Int.toNat_natCast]
      have i300 : (0 : Int) ≤ (((5 * t + x) * 10 + d : Nat) : Int) ∧ (((5 * t + x) * 10 + d : Nat) : Int) < 300 := by omega
      rw [zI_t i300, zsucc (by omega)]
      have fin : ∀ (M1 : ZM) (y : Int), zfr fL M M1 → y = gfT P S t x d → ∃ M', Se_foresee_122 N rec36 n a p 0 t (mBl P S) fr (if mRun S t then 1 else 0) x ((5 * t + x : Nat) : Int) ((d + 1 : Nat) : Int) (pI M1 35 a ((5 * t + x) * 10 + d) y) = rec36 a p 0 t (mBl P S) fr (if mRun S t then 1 else 0) ((x + 1 : Nat) : Int) M' ∧ zfr (fFo a t) M M' ∧ (∀ e : Nat, e < 10 → mI M' 35 a ((5 * t + x) * 10 + e) = gfT P S t x e) ∧ (∀ t' i k, ¬ (t' = 25 ∨ (t' = 35 ∧ i = a ∧ (5 * t + x) * 10 ≤ k ∧ k < (5 * t + x) * 10 + 10)) → mI M' t' i k = mI M t' i k) := by
        intro M1 y f1 hy
        have f2 : zfr (fFo a t) M (pI M1 35 a ((5 * t + x) * 10 + d) y) := (f1.mo fL_Fo).pI (by simp [fFo]; omega)
        obtain ⟨M', e2, f3, g3, r3⟩ := ih (d + 1) _ (hp.fr f2 fFo_p) (hs.fr f2 fFo_s) (fun e he => by
          rw [mI_pI]
          by_cases e4 : e = d
          · rw [if_pos (by omega), e4, hy]
          · rw [if_neg (by omega), f1.2 _ _ _ (fL_n (by omega)), h35 e (by omega)]) (by omega) (by omega)
        refine ⟨M', e2, f2.tr f3, g3, fun t' i k h => ?_⟩
        rw [r3 t' i k (by omega), mI_pI_ne (by omega), f1.2 _ _ _ (fL_n (by omega))]
      by_cases br : mRun S t = true
      · have e1 : (if mRun S t = true then (1 : Int) else 0) = 1 := if_pos br
        have ha : (0 : Int) ≤ (x : Int) ∧ (x : Int) ≤ 4 := by omega
        obtain ⟨M1, e2, f1⟩ := c_gives hp hN (w := mWnd (mBl P S) d) (wo := sW S t) (a := (x : Int)) (st := sT S) (mWnd_r hbl (by omega)) (hz.w (by omega)) ha
        have fin' := fin M1 _ f1 (show mGiv P (mWnd (mBl P S) d) (sW S t) x (sT S) = gfT P S t x d by unfold gfT; rw [if_pos br])
        rw [e1] at fin' ⊢
        rw [if_neg (by decide), zI_t (by omega), hs.w (by omega), hs.t]
        rw [e2, zB_s, zI_t i300]
        exact fin'
      · have e1 : (if mRun S t = true then (1 : Int) else 0) = 0 := if_neg br
        have fin' := fin M 0 (zfr.rf M) (by unfold gfT; rw [if_neg br])
        rw [e1] at fin' ⊢
        rw [if_pos rfl]
        exact fin'
theorem s_for53 (hv : VP P) (hz : VS c P S) (hN : 2000 ≤ N) {t x : Nat} (ht : t < qN P) (hx : x < 5) {rec36 : Nat → Nat → Nat → Int → Int → Int → Int → Int → ZM → Option ZM} : ∀ (n d : Nat) (M : ZM), CP p P M → CS 0 S M → (∀ e : Nat, e < d → mI M 34 a ((5 * t + x) * 6 + e) = tkT P S t x e) → d ≤ qN P → qN P - d < n → ∃ M', Se_foresee_53 N rec36 n a p 0 t (mBl P S) (mFr P S) (if mRun S t then 1 else 0) x ((5 * t + x : Nat) : Int) d M = rec36 a p 0 t (mBl P S) (mFr P S) (if mRun S t then 1 else 0) ((x + 1 : Nat) : Int) M' ∧ zfr (fFo a t) M M' ∧ (∀ e : Nat, e < qN P → mI M' 34 a ((5 * t + x) * 6 + e) = tkT P S t x e) ∧ (∀ e : Nat, e < 10 → mI M' 35 a ((5 * t + x) * 10 + e) = gfT P S t x e) ∧ (∀ t' i k, ¬ (t' = 25 ∨ (t' = 35 ∧ i = a ∧ (5 * t + x) * 10 ≤ k ∧ k < (5 * t + x) * 10 + 10) ∨ (t' = 34 ∧ i = a ∧ (5 * t + x) * 6 ≤ k ∧ k < (5 * t + x) * 6 + 6)) → mI M' t' i k = mI M t' i k) := by
  intro n
  induction n with
  | zero => intros; omega
  | succ n ih =>
    intro d M hp hs h34 hd hn
    have h6 := hv.n
    unfold Se_foresee_53
    rw [hp.n]
    by_cases e : d = qN P
    · rw [if_neg (by omega)]
      obtain ⟨M1, e1, f1, g1, r1⟩ := s_for122 (N := N) (a := a) (rec36 := rec36) (fr := mFr P S) hv hz hN ht hx N 0 M hp hs (fun e he => by omega) (by omega) (by omega)
      rw [show ((0 : Nat) : Int) = 0 from rfl] at e1
      refine ⟨M1, e1, f1, fun e' he' => ?_, g1, fun t' i k h => r1 t' i k (by omega)⟩
      rw [r1 _ _ _ (by omega), h34 e' (by omega)]
    · rw [if_pos (by omega)]
      have i180 : (0 : Int) ≤ (((5 * t + x) * 6 + d : Nat) : Int) ∧ (((5 * t + x) * 6 + d : Nat) : Int) < 180 := by omega
      have fin : ∀ y : Int, y = tkT P S t x d → ∃ M', Se_foresee_53 N rec36 n a p 0 t (mBl P S) (mFr P S) (if mRun S t then 1 else 0) x ((5 * t + x : Nat) : Int) ((d + 1 : Nat) : Int) (pI M 34 a ((5 * t + x) * 6 + d) y) = rec36 a p 0 t (mBl P S) (mFr P S) (if mRun S t then 1 else 0) ((x + 1 : Nat) : Int) M' ∧ zfr (fFo a t) M M' ∧ (∀ e : Nat, e < qN P → mI M' 34 a ((5 * t + x) * 6 + e) = tkT P S t x e) ∧ (∀ e : Nat, e < 10 → mI M' 35 a ((5 * t + x) * 10 + e) = gfT P S t x e) ∧ (∀ t' i k, ¬ (t' = 25 ∨ (t' = 35 ∧ i = a ∧ (5 * t + x) * 10 ≤ k ∧ k < (5 * t + x) * 10 + 10) ∨ (t' = 34 ∧ i = a ∧ (5 * t + x) * 6 ≤ k ∧ k < (5 * t + x) * 6 + 6)) → mI M' t' i k = mI M t' i k) := by
        intro y hy
        have f2 : zfr (fFo a t) M (pI M 34 a ((5 * t + x) * 6 + d) y) := (zfr.rf M).pI (by simp [fFo]; omega)
        obtain ⟨M', e2, f3, g3, g4, r3⟩ := ih (d + 1) _ (hp.fr f2 fFo_p) (hs.fr f2 fFo_s) (fun e he => by
          rw [mI_pI]
          by_cases e4 : e = d
          · rw [if_pos (by omega), e4, hy]
          · rw [if_neg (by omega), h34 e (by omega)]) (by omega) (by omega)
        exact ⟨M', e2, f2.tr f3, g3, g4, fun t' i k h => by rw [r3 t' i k (by omega), mI_pI_ne (by omega)]⟩
      unfold Se_foresee_78
      rw [ix6 (by omega) (by omega)]
      simp only [zW_e, Int.toNat_natCast]
      rw [zI_t i180, zsucc (by omega), if_pos trivial, if_neg (show ¬ (1 : Int) = 0 by decide)]
      by_cases br : mRun S t = true
      · have e1 : (if mRun S t = true then (1 : Int) else 0) = 1 := if_pos br
        rw [e1] at fin ⊢
        rw [if_neg (show ¬ (1 : Int) = 0 by decide)]
        by_cases e3 : d = t
        · rw [if_pos (by omega)]
          exact fin 0 (by unfold tkT; rw [if_neg (fun h => h.2 e3)])
        · have ha : (0 : Int) ≤ (x : Int) ∧ (x : Int) ≤ 4 := by omega
          have hfr : 0 ≤ mFr P S ∧ mFr P S ≤ 3 := hv.fr hz.t
          rw [if_neg (by omega), c_tenths hv hp ht (by omega) ha hfr, zB_s, zI_t i180]
          exact fin _ (by unfold tkT; rw [if_pos ⟨br, e3⟩])
      · have e1 : (if mRun S t = true then (1 : Int) else 0) = 0 := if_neg br
        rw [e1] at fin ⊢
        rw [if_pos (show (0 : Int) = 0 from rfl)]
        exact fin 0 (by unfold tkT; rw [if_neg (fun h => br h.1)])
/-- tables of t lie there -/
def sTb (P : PK) (S : SK) (a t : Nat) (M : ZM) : Prop := ∀ x : Nat, x < 5 → (∀ e : Nat, e < qN P → mI M 34 a ((5 * t + x) * 6 + e) = tkT P S t x e) ∧ (∀ e : Nat, e < 10 → mI M 35 a ((5 * t + x) * 10 + e) = gfT P S t x e)
theorem s_for36 (hv : VP P) (hz : VS c P S) (hN : 2000 ≤ N) {t : Nat} (ht : t < qN P) : ∀ (n x : Nat) (M : ZM), CP p P M → CS 0 S M → (∀ y : Nat, y < x → (∀ e : Nat, e < qN P → mI M 34 a ((5 * t + y) * 6 + e) = tkT P S t y e) ∧ (∀ e : Nat, e < 10 → mI M 35 a ((5 * t + y) * 10 + e) = gfT P S t y e)) → x ≤ 5 → 5 - x < n → ∃ M', Se_foresee_36 N n a p 0 t (mBl P S) (mFr P S) (if mRun S t then 1 else 0) x M = some M' ∧ zfr (fFo a t) M M' ∧ sTb P S a t M' := by
  intro n
  induction n with
  | zero => intros; omega
  | succ n ih =>
    intro x M hp hs hT hx hn
    have h6 := hv.n
    unfold Se_foresee_36
    by_cases e : x = 5
    · subst e
      rw [if_neg (by omega)]
      exact ⟨M, rfl, zfr.rf M, hT⟩
    · have e5 : z32 (z32 ((t : Int) * 5) + (x : Int)) = ((5 * t + x : Nat) : Int) := ix5' (by omega) (by omega)
      rw [if_pos (by omega), e5]
      clear e5
      simp only [zW_e]
      obtain ⟨M1, e1, f1, g1, g2, r1⟩ := s_for53 (N := N) (a := a) (rec36 := Se_foresee_36 N n) hv hz hN ht (x := x) (by omega) N 0 M hp hs (fun e he => by omega) (by omega) (by omega)
      rw [show ((0 : Nat) : Int) = 0 from rfl] at e1
      rw [e1]
      obtain ⟨M', e2, f2, g3⟩ := ih (x + 1) M1 (hp.fr f1 fFo_p) (hs.fr f1 fFo_s) (fun y hy => by
        by_cases e3 : y = x
        · subst e3; exact ⟨g1, g2⟩
        · obtain ⟨q1, q2⟩ := hT y (by omega)
          exact ⟨fun e he => by rw [r1 _ _ _ (by omega), q1 e he], fun e he => by rw [r1 _ _ _ (by omega), q2 e he]⟩) (by omega) (by omega)
      exact ⟨M', e2, f1.tr f2, g3⟩
theorem s_foresee (hv : VP P) (hz : VS c P S) (hN : 2000 ≤ N) {t : Nat} (ht : t < qN P) (hp : CP p P M) (hs : CS 0 S M) : ∃ M', Se_foresee N a p 0 t M = some M' ∧ zfr (fFo a t) M M' ∧ sTb P S a t M' := by
  have h6 := hv.n
  unfold Se_foresee
  rw [hs.t, c_round (j := 0) hv hp (by omega) (by omega) hz.t, zB_s, hs.t, c_round (j := 1) hv hp (by omega) (by omega) hz.t, zB_s, c_runs hs (hz.o hv) (hz.b hv) (by omega), zB_s]
  exact s_for36 (N := N) hv hz hN ht N 0 M hp hs (fun y hy => by omega) (by omega) (by omega)
/-- alike, as the class finds it -/
theorem s_al47 (hv : VP P) {t x y : Nat} (ht : t < qN P) (hx : x < 5) (hy : y < 5) (hT : sTb P S a t M) (h1 : ∀ j, j < qN P → tkT P S t x j = tkT P S t y j) : ∀ (n d : Nat), d ≤ 10 → 10 - d < n → (∀ e : Nat, e < d → gfT P S t x e = gfT P S t y e) → ∃ v : Int, Se_isAlike_47 N n a ((5 * t + x : Nat) : Int) ((5 * t + y : Nat) : Int) d M = some (v, M) ∧ ((v = 1 ∧ aAl P S t x y) ∨ (v = 0 ∧ ¬ aAl P S t x y)) := by
  intro n
  induction n with
  | zero => intros; omega
  | succ n ih =>
    intro d hd hn h2
    have h6 := hv.n
    unfold Se_isAlike_47
    by_cases e : d = 10
    · subst e
      rw [if_neg (by omega)]
      exact ⟨1, rfl, .inl ⟨rfl, h1, h2⟩⟩
    · rw [if_pos (by omega), ix10 (by omega) (by omega), ix10 (by omega) (by omega), zI_t (by omega), zI_t (by omega), Int.toNat_natCast, Int.toNat_natCast, (hT x hx).2 d (by omega), (hT y hy).2 d (by omega)]
      simp only [zW_e]
      rw [zsucc (by omega)]
      by_cases b : gfT P S t x d = gfT P S t y d
      · rw [if_pos b]
        exact ih (d + 1) (by omega) (by omega) (fun e' he' => by
          by_cases e4 : e' = d
          · rw [e4]; exact b
          · exact h2 e' (by omega))
      · rw [if_neg b]
        exact ⟨0, rfl, .inr ⟨rfl, fun h => b (h.2 d (by omega))⟩⟩
theorem s_al3 (hv : VP P) (hN : 2000 ≤ N) {t x y : Nat} (ht : t < qN P) (hx : x < 5) (hy : y < 5) (hT : sTb P S a t M) : ∀ (n d : Nat), d ≤ qN P → qN P - d < n → (∀ j, j < d → tkT P S t x j = tkT P S t y j) → ∃ v : Int, Se_isAlike_3 N n a ((5 * t + x : Nat) : Int) ((5 * t + y : Nat) : Int) (qN P : Nat) d M = some (v, M) ∧ ((v = 1 ∧ aAl P S t x y) ∨ (v = 0 ∧ ¬ aAl P S t x y)) := by
  intro n
  induction n with
  | zero => intros; omega
  | succ n ih =>
    intro d hd hn h1
    have h6 := hv.n
    unfold Se_isAlike_3
    by_cases e : d = qN P
    · subst e
      rw [if_neg (by omega)]
      exact s_al47 (N := N) hv ht hx hy hT h1 N 0 (by omega) (by omega) (fun e he => by omega)
    · rw [if_pos (by omega), ix6 (by omega) (by omega), ix6 (by omega) (by omega), zI_t (by omega), zI_t (by omega), Int.toNat_natCast, Int.toNat_natCast, (hT x hx).1 d (by omega), (hT y hy).1 d (by omega)]
      simp only [zW_e]
      rw [zsucc (by omega)]
      by_cases b : tkT P S t x d = tkT P S t y d
      · rw [if_pos b]
        exact ih (d + 1) (by omega) (by omega) (fun e' he' => by
          by_cases e4 : e' = d
          · rw [e4]; exact b
          · exact h1 e' (by omega))
      · rw [if_neg b]
        exact ⟨0, rfl, .inr ⟨rfl, fun h => b (h.1 d (by omega))⟩⟩
theorem s_new3 (hv : VP P) (hN : 2000 ≤ N) {t x : Nat} (ht : t < qN P) (hx : x < 5) (hT : sTb P S a t M) : ∀ (n e : Nat), e ≤ x → x - e < n → (∀ y : Nat, y < e → ¬ aAl P S t y x) → ∃ v : Int, Se_isNew_3 N n a t x (qN P : Nat) e M = some (v, M) ∧ ((v = 1 ∧ ∀ y : Nat, y < x → ¬ aAl P S t y x) ∨ (v = 0 ∧ ∃ y : Nat, y < x ∧ aAl P S t y x)) := by
  intro n
  induction n with
  | zero => intros; omega
  | succ n ih =>
    intro e he hn h1
    have h6 := hv.n
    unfold Se_isNew_3
    by_cases e1 : e = x
    · subst e1
      rw [if_neg (by omega)]
      exact ⟨1, rfl, .inl ⟨rfl, h1⟩⟩
    · have q1 : z32 (z32 ((t : Int) * 5) + (e : Int)) = ((5 * t + e : Nat) : Int) := ix5' (by omega) (by omega)
      have q2 : z32 (z32 ((t : Int) * 5) + (x : Int)) = ((5 * t + x : Nat) : Int) := ix5' (by omega) (by omega)
      rw [if_pos (by omega), q1, q2]
      clear q1 q2
      unfold Se_isAlike
      obtain ⟨v, e2, hvv⟩ := s_al3 (N := N) hv hN ht (x := e) (y := x) (by omega) hx hT N 0 (by omega) (by omega) (fun j hj => by omega)
      rw [show ((0 : Nat) : Int) = 0 from rfl] at e2
      rw [e2, zB_s]
      simp only [zW_e]
      rw [zsucc (by omega)]
      rcases hvv with ⟨rfl, ha⟩ | ⟨rfl, ha⟩
      · rw [if_neg (by decide)]
        exact ⟨0, rfl, .inr ⟨rfl, e, by omega, ha⟩⟩
      · rw [if_pos rfl]
        exact ih (e + 1) (by omega) (by omega) (fun y hy => by
          by_cases e4 : y = e
          · rw [e4]; exact ha
          · exact h1 y (by omega))
end SCLS
