section FEED
variable {N c : Nat} {A : AK} {M M' : ZM}
theorem z32_i (u : Int) : z32 u = (Int32.ofInt u).toInt := by
  rw [Int32.toInt_ofInt]; rfl
theorem zby (u : Int) : z32 (z_land u 255) = z_and (z32 u) 255 := by
  unfold z_land z_and
  rw [z32_i, z32_i, Int32.ofInt_toInt, ← Int64.toInt32_ofInt, Int64.ofInt_toInt, Int64.toInt32_and, Int64.toInt32_ofInt, Int64.toInt32_ofInt]
theorem zby_b (u : Int) : 0 ≤ z_and u 255 ∧ z_and u 255 ≤ 255 := by
  unfold z_and
  have h : (Int32.ofInt u &&& Int32.ofInt 255).toBitVec = (Int32.ofInt u).toBitVec &&& 255#32 := rfl
  have h2 : (Int32.ofInt u &&& Int32.ofInt 255).toInt = ((Int32.ofInt u).toBitVec &&& 255#32).toInt := rfl
  rw [h2]
  generalize (Int32.ofInt u).toBitVec = b
  have h3 : (b &&& 255#32).toNat ≤ 255 := by rw [BitVec.toNat_and]; exact Nat.and_le_right
  rw [BitVec.toInt_eq_toNat_of_lt (by omega)]
  omega
/-- the byte of a word that stands above s bits -/
def yB (y : Int) (r : Nat) : Int := z_and (z32 (z_lushr y ((8 * r : Nat) : Int))) 255
abbrev yOk (b : Int) : Prop := b = 10 ∨ (32 ≤ b ∧ b ≤ 126)
def fP (A : AK) (b : Int) : AK := if yOk b ∧ aT A < 1000 then (aP A, aS A, aL A, aV A, aM A, aH A, aT A + 1, fun k => if k = aT A then b else aX A k) else A
def dFd (y : Int) : Nat → AK → AK
  | 0, A => A
  | r + 1, A => dFd y r (fP A (yB y r))
def dFeed (A : AK) (x y z : Int) : AK := dFd z 8 (dFd y 8 (dFd x 8 A))
theorem fP_v (hv : VA c A) {b : Int} : VA c (fP A b) := by
  unfold fP
  split
  · next hb =>
    obtain ⟨h1, h2, h3, h4, h5, h6, h7, h8⟩ := hv
    refine ⟨h1, h2, h3, h4, h5, h6, ?_, fun k hk => ?_⟩
    · show aT A + 1 ≤ 1000; omega
    · show (if k = aT A then b else aX A k) = 10 ∨ _
      by_cases e : k = aT A
      · have := hb.1
        rw [show aX (aP A, aS A, aL A, aV A, aM A, aH A, aT A + 1, fun k => if k = aT A then b else aX A k) k = b from if_pos e, if_pos e]
        exact this
      · have hk' : k < aT A + 1 := hk
        rw [show aX (aP A, aS A, aL A, aV A, aM A, aH A, aT A + 1, fun k => if k = aT A then b else aX A k) k = aX A k from if_neg e, if_neg e]
        exact h8 k (by omega)
  · exact hv
theorem dFd_v {y : Int} : ∀ {r : Nat} {A : AK}, VA c A → VA c (dFd y r A)
  | 0, _, h => h
  | r + 1, _, h => dFd_v (r := r) (fP_v h)
theorem dFeed_v (hv : VA c A) {x y z : Int} : VA (c + 1) (dFeed A x y z) := (dFd_v (dFd_v (dFd_v hv))).up (Nat.le_succ c)
theorem CA.fp (h : CA A M) {b : Int} (hb : yOk b) (hl : aT A < 1000) : CA (fP A b) (pI (pI M 42 0 (aT A) b) 8 0 1 ((aT A + 1 : Nat) : Int)) := by
  unfold fP
  rw [if_pos ⟨hb, hl⟩]
  obtain ⟨h1, ⟨p, h2, h3⟩, h4, h5, h6, h7, h8, h9, h10⟩ := h
  generalize hM1 : pI (pI M 42 0 (aT A) b) 8 0 1 ((aT A + 1 : Nat) : Int) = M1
  have q : ∀ t i k, ¬ (t = 42 ∧ i = 0 ∧ k = aT A) → ¬ (t = 8 ∧ i = 0 ∧ k = 1) → mI M1 t i k = mI M t i k := fun t i k a1 a2 => by rw [← hM1, mI_pI_ne a2, mI_pI_ne a1]
  have k1 : M1.2 = M.2 := by rw [← hM1]; rfl
  have er := mR_2 k1
  refine ⟨h1.e k1, ⟨p, ⟨by rw [er]; exact h2.1, by rw [er]; exact h2.2⟩, h3.gg (fun t i k ht => q t i k (by omega) (by omega)) (fun i k => mL_2 k1 _ _ _)⟩, h4.g (fun t k ht => q _ _ _ (by omega) (by omega)), h5.g (fun t k ht => q _ _ _ (by omega) (by omega)), h6.g (fun t k ht => q _ _ _ (by omega) (by omega)), fun m hm => (h7 m hm).g (q _ _ _ (by omega) (by omega)) (fun t k ht => q _ _ _ (by omega) (by omega)) (fun t i k ht hi => q _ _ _ (by omega) (by omega)), h8.g (fun k _ => q _ _ _ (by omega) (by omega)) (fun t i k ht _ _ => q _ _ _ (by omega) (by omega)), h9.g (fun t i k ht => q _ _ _ (by omega) (by omega)), ?_, fun k hk => ?_⟩
  · rw [← hM1, mI_pI_eq]; rfl
  · have hk' : k < aT A + 1 := hk
    show _ = if k = aT A then b else aX A k
    by_cases e : k = aT A
    · rw [if_pos e, e, ← hM1, mI_pI_ne (by omega), mI_pI_eq]
    · rw [if_neg e, q _ _ _ (by omega) (by omega)]; exact h10.2 k (by omega)
theorem RA.fp (h : RA A M) {b : Int} (hb : yOk b) (hl : aT A < 1000) : RA (fP A b) (pI (pI M 50 0 (aT A) b) 11 0 1 ((aT A + 1 : Nat) : Int)) := by
  unfold fP
  rw [if_pos ⟨hb, hl⟩]
  obtain ⟨h1, h2, h3, h4, h5, h6, h7, h8⟩ := h
  generalize hM1 : pI (pI M 50 0 (aT A) b) 11 0 1 ((aT A + 1 : Nat) : Int) = M1
  have q : ∀ t i k, ¬ (t = 50 ∧ i = 0 ∧ k = aT A) → ¬ (t = 11 ∧ i = 0 ∧ k = 1) → mI M1 t i k = mI M t i k := fun t i k a1 a2 => by rw [← hM1, mI_pI_ne a2, mI_pI_ne a1]
  have k1 : M1.2 = M.2 := by rw [← hM1]; rfl
  refine ⟨h1.e k1, h2.gg (fun t k ht => q _ _ _ (by omega) (by omega)) (fun k => mL_2 k1 _ _ _), h3.g (fun k _ _ => q _ _ _ (by omega) (by omega)), ⟨(q _ _ _ (by omega) (by omega)).trans h4.1, h4.2.g (fun t k ht hk hk' => q _ _ _ (by omega) (by omega))⟩, ⟨(q _ _ _ (by omega) (by omega)).trans h5.1, h5.2.g (fun t k ht hk hk' => q _ _ _ (by omega) (by omega))⟩, fun m' hm' => (h6 m' hm').g (fun t k ht a1 a2 a3 a4 a5 => q _ _ _ (by omega) (by omega)), h7.g (q _ _ _ (by omega) (by omega)) (fun k => q _ _ _ (by omega) (by omega)), ?_, fun k hk => ?_⟩
  · rw [← hM1, mI_pI_eq]; rfl
  · have hk' : k < aT A + 1 := hk
    show _ = if k = aT A then b else aX A k
    by_cases e : k = aT A
    · rw [if_pos e, e, ← hM1, mI_pI_ne (by omega), mI_pI_eq]
    · rw [if_neg e, q _ _ _ (by omega) (by omega)]; exact h8.2 k (by omega)
theorem zRl.rf (M : ZM) : zRl M M := ⟨rfl, rfl, fun _ _ _ _ => rfl, fun _ _ _ _ => rfl⟩
theorem zRl_p {t i k : Nat} {x : Int} (h : rk t = true) : zRl M (pI M t i k x) := ⟨rfl, rfl, fun t' i' k' e => mI_pI_ne (by rintro ⟨rfl, _⟩; rw [h] at e; cases e), fun _ _ _ _ => rfl⟩
theorem zCl_p {t i k : Nat} {x : Int} (h : rk t = false) : zCl M (pI M t i k x) := ⟨rfl, fun t' i' k' e => mI_pI_ne (by rintro ⟨rfl, _⟩; rw [h] at e; cases e), fun _ _ _ _ => rfl⟩
theorem zRl_pp {t i k t2 i2 k2 : Nat} {x x2 : Int} (h : rk t = true) (h2 : rk t2 = true) : zRl M (pI (pI M t i k x) t2 i2 k2 x2) := (zRl_p h).tr (zRl_p h2)
theorem zCl_pp {t i k t2 i2 k2 : Nat} {x x2 : Int} (h : rk t = false) (h2 : rk t2 = false) : zCl M (pI (pI M t i k x) t2 i2 k2 x2) := (zCl_p h).tr (zCl_p h2)
theorem zi2b {b : Int} (hb : yOk b) : z_i2b (z_i2b b) = b := by
  have h : ∀ n : Nat, n < 127 → z_i2b (z_i2b (n : Int)) = (n : Int) := by decide +kernel
  rcases hb with rfl | hb
  · decide
  · have := h b.toNat (by omega)
    rwa [show ((b.toNat : Nat) : Int) = b by omega] at this
theorem fP_no {b : Int} (hb : ¬ yOk b) : fP A b = A := by
  unfold fP
  rw [if_neg (fun h => hb h.1)]
theorem w_put3 {y : Int} : ∀ (r n : Nat) (A : AK) (M : ZM), r ≤ 8 → r < n → CA A M → VA c A → ∃ M', Ta_put_3 N n 0 y (((8 * r : Nat) : Int) - 8) M = some M' ∧ CA (dFd y r A) M' ∧ zCl M M' := by
  intro r
  induction r with
  | zero =>
    intro n A M _ hn h hv
    obtain ⟨n, rfl⟩ : ∃ k, n = k + 1 := ⟨n - 1, by omega⟩
    rw [Ta_put_3, if_pos (by omega)]
    exact ⟨M, rfl, h, zCl.rf M⟩
  | succ r ih =>
    intro n A M hr hn h hv
    obtain ⟨n, rfl⟩ : ∃ k, n = k + 1 := ⟨n - 1, by omega⟩
    rw [Ta_put_3, if_neg (by omega), show (((8 * (r + 1) : Nat) : Int) - 8) = ((8 * r : Nat) : Int) by omega, zW_e]
    have hT := hv.2.2.2.2.2.2.1
    have h8 : mI M 8 0 1 = (aT A : Int) := h.2.2.2.2.2.2.2.2.1
    have hx : z32 (((8 * r : Nat) : Int) + (-8)) = ((8 * r : Nat) : Int) - 8 := by rw [zs (by omega)]; omega
    have ho : ∀ M', Ta_put_43 N (Ta_put_3 N n) 0 y ((8 * r : Nat) : Int) (yB y r) 0 M' = Ta_put_3 N n 0 y (((8 * r : Nat) : Int) - 8) M' := fun M' => by
      unfold Ta_put_43
      rw [if_pos rfl, zW_e, hx]
    have no : ¬ yOk (yB y r) → ∃ M', Ta_put_43 N (Ta_put_3 N n) 0 y ((8 * r : Nat) : Int) (yB y r) 0 M = some M' ∧ CA (dFd y (r + 1) A) M' ∧ zCl M M' := fun hb => by
      rw [ho]
      obtain ⟨M', e, a, f⟩ := ih n A M (by omega) (by omega) h hv
      exact ⟨M', e, by rw [dFd, fP_no hb]; exact a, f⟩
    have ye : yOk (yB y r) → ∃ M', Ta_put_43 N (Ta_put_3 N n) 0 y ((8 * r : Nat) : Int) (yB y r) 1 M = some M' ∧ CA (dFd y (r + 1) A) M' ∧ zCl M M' := fun hb => by
      unfold Ta_put_43
      rw [if_neg (by decide), h8]
      by_cases b : aT A < 1000
      · rw [if_pos (by omega), zI_t (by omega), Int.toNat_natCast, zi2b hb, zW_e, mI_pI_ne (by omega), h8, zsucc (by omega), zW_e, hx, zW_e]
        obtain ⟨M', e, a, f⟩ := ih n (fP A (yB y r)) _ (by omega) (by omega) (h.fp hb b) (fP_v hv)
        refine ⟨M', e, a, zCl.tr (zCl_pp (by rfl) (by rfl)) f⟩
      · rw [if_neg (by omega), hx, zW_e]
        obtain ⟨M', e, a, f⟩ := ih n A M (by omega) (by omega) h hv
        have : fP A (yB y r) = A := by unfold fP; rw [if_neg (fun h => b h.2)]
        exact ⟨M', e, by rw [dFd, this]; exact a, f⟩
    clear hx ho
    show ∃ M', (if yB y r = 10 then Ta_put_43 N (Ta_put_3 N n) 0 y ((8 * r : Nat) : Int) (yB y r) 1 M else if yB y r < 32 then Ta_put_43 N (Ta_put_3 N n) 0 y ((8 * r : Nat) : Int) (yB y r) 0 M else if 126 < yB y r then Ta_put_43 N (Ta_put_3 N n) 0 y ((8 * r : Nat) : Int) (yB y r) 0 M else Ta_put_43 N (Ta_put_3 N n) 0 y ((8 * r : Nat) : Int) (yB y r) 1 M) = some M' ∧ CA (dFd y (r + 1) A) M' ∧ zCl M M'
    generalize yB y r = b at *
    by_cases b1 : b = 10
    · rw [if_pos b1]; exact ye (.inl b1)
    · rw [if_neg b1]
      by_cases b2 : b < 32
      · rw [if_pos b2]; exact no (by rintro (h | h) <;> omega)
      · rw [if_neg b2]
        by_cases b3 : 126 < b
        · rw [if_pos b3]; exact no (by rintro (h | h) <;> omega)
        · rw [if_neg b3]; exact ye (.inr (by omega))
theorem w_put (h : CA A M) (hv : VA c A) (hN : 2000 ≤ N) (y : Int) : ∃ M', Ta_put N 0 y M = some M' ∧ CA (dFd y 8 A) M' ∧ zCl M M' := w_put3 8 N A M (by omega) (by omega) h hv
theorem w_feed (h : CA A M) (hv : VA c A) (hN : 2000 ≤ N) (x y z : Int) : ∃ M', Wp_feed N 0 x y z M = some ((aT (dFeed A x y z) : Int), M') ∧ CA (dFeed A x y z) M' ∧ zCl M M' := by
  unfold Wp_feed
  obtain ⟨M1, e1, a1, f1⟩ := w_put h hv hN x
  obtain ⟨M2, e2, a2, f2⟩ := w_put a1 (dFd_v hv) hN y
  obtain ⟨M3, e3, a3, f3⟩ := w_put a2 (dFd_v (dFd_v hv)) hN z
  rw [e1, zBv_s, e2, zBv_s, e3, zBv_s]
  refine ⟨M3, ?_, a3, (f1.tr f2).tr f3⟩
  rw [a3.2.2.2.2.2.2.2.2.1]
  rfl
theorem za7 : ∀ w : Nat, w < 3 → ∀ r : Nat, r < 8 → z_and ((8 * w + (7 - r) : Nat) : Int) 7 = ((7 - r : Nat) : Int) := by decide +kernel
/-- the word that stands w-th -/
def yW (x y z : Int) (w : Nat) : Int := if w = 0 then x else if w = 1 then y else z
theorem m_fd {x y z : Int} {w : Nat} (hw : w < 3) : ∀ (r n : Nat) (A : AK) (M : ZM), r ≤ 8 → RA A M → VA c A → ∃ M', Mo_feed_8 N (n + r) 0 x y z ((8 * w + (8 - r) : Nat) : Int) M = Mo_feed_8 N n 0 x y z ((8 * (w + 1) : Nat) : Int) M' ∧ RA (dFd (yW x y z w) r A) M' ∧ zRl M M' := by
  intro r
  induction r with
  | zero =>
    intro n A M _ h hv
    exact ⟨M, rfl, h, zRl.rf M⟩
  | succ r ih =>
    intro n A M hr h hv
    rw [show n + (r + 1) = (n + r) + 1 by omega, show 8 - (r + 1) = 7 - r by omega, Mo_feed_8, if_pos (by omega)]
    have hT := hv.2.2.2.2.2.2.1
    have h8 : mI M 11 0 1 = (aT A : Int) := h.2.2.2.2.2.2.2.1
    have key : ∃ M', Mo_feed_39 N (Mo_feed_8 N (n + r)) 0 x y z ((8 * w + (7 - r) : Nat) : Int) (yW x y z w) M = Mo_feed_8 N n 0 x y z ((8 * (w + 1) : Nat) : Int) M' ∧ RA (dFd (yW x y z w) (r + 1) A) M' ∧ zRl M M' := by
      unfold Mo_feed_39
      have e8 : z32 (56 - z32 (8 * z_and ((8 * w + (7 - r) : Nat) : Int) 7)) = ((8 * r : Nat) : Int) := by rw [za7 w hw r (by omega), zs (x := 8 * _) (by omega), zs (by omega)]; omega
      rw [e8, zby, h8, zsucc (by omega), show 8 * w + (7 - r) + 1 = 8 * w + (8 - r) by omega]
      clear e8
      rw [zW_e]
      show ∃ M', (if (aT A : Int) < 1000 then if yB (yW x y z w) r = 10 then Mo_feed_93 N (Mo_feed_8 N (n + r)) 0 x y z ((8 * w + (7 - r) : Nat) : Int) (yB (yW x y z w) r) M else if yB (yW x y z w) r < 32 then zW ((8 * w + (8 - r) : Nat) : Int) fun x102 => Mo_feed_8 N (n + r) 0 x y z x102 M else if 126 < yB (yW x y z w) r then zW ((8 * w + (8 - r) : Nat) : Int) fun x103 => Mo_feed_8 N (n + r) 0 x y z x103 M else Mo_feed_93 N (Mo_feed_8 N (n + r)) 0 x y z ((8 * w + (7 - r) : Nat) : Int) (yB (yW x y z w) r) M else zW ((8 * w + (8 - r) : Nat) : Int) fun x104 => Mo_feed_8 N (n + r) 0 x y z x104 M) = _ ∧ RA (dFd (yW x y z w) r (fP A (yB (yW x y z w) r))) M' ∧ _
      generalize yB (yW x y z w) r = b
      have no : fP A b = A → ∃ M', Mo_feed_8 N (n + r) 0 x y z ((8 * w + (8 - r) : Nat) : Int) M = Mo_feed_8 N n 0 x y z ((8 * (w + 1) : Nat) : Int) M' ∧ RA (dFd (yW x y z w) r (fP A b)) M' ∧ zRl M M' := fun hb => by
        rw [hb]
        exact ih n A M (by omega) h hv
      have ye : yOk b → aT A < 1000 → ∃ M', Mo_feed_93 N (Mo_feed_8 N (n + r)) 0 x y z ((8 * w + (7 - r) : Nat) : Int) b M = Mo_feed_8 N n 0 x y z ((8 * (w + 1) : Nat) : Int) M' ∧ RA (dFd (yW x y z w) r (fP A b)) M' ∧ zRl M M' := fun hb hl => by
        unfold Mo_feed_93
        rw [h8, zI_t (by omega), Int.toNat_natCast, zW_e, mI_pI_ne (by omega), h8, zsucc (by omega), zW_e, zsucc (by omega), zW_e, show 8 * w + (7 - r) + 1 = 8 * w + (8 - r) by omega]
        obtain ⟨M', e, a, f⟩ := ih n (fP A b) _ (by omega) (h.fp hb hl) (fP_v hv)
        refine ⟨M', e, a, zRl.tr (zRl_pp (by rfl) (by rfl)) f⟩
      by_cases b0 : aT A < 1000
      · rw [if_pos (by omega)]
        by_cases b1 : b = 10
        · rw [if_pos b1]; exact ye (.inl b1) b0
        · rw [if_neg b1]
          by_cases b2 : b < 32
          · rw [if_pos b2, zW_e]; exact no (fP_no (by rintro (h | h) <;> omega))
          · rw [if_neg b2]
            by_cases b3 : 126 < b
            · rw [if_pos b3, zW_e]; exact no (fP_no (by rintro (h | h) <;> omega))
            · rw [if_neg b3]; exact ye (.inr (by omega)) b0
      · rw [if_neg (by omega), zW_e]
        exact no (by unfold fP; rw [if_neg (fun h => b0 h.2)])
    have : w = 0 ∨ w = 1 ∨ w = 2 := by omega
    rcases this with rfl | rfl | rfl
    · rw [if_pos (by omega)]; exact key
    · rw [if_neg (by omega), if_pos (by omega)]; exact key
    · rw [if_neg (by omega), if_neg (by omega)]; exact key
theorem m_feed (h : RA A M) (hv : VA c A) (hN : 2000 ≤ N) (x y z : Int) : ∃ M', Mo_feed N 0 x y z M = some ((aT (dFeed A x y z) : Int), M') ∧ RA (dFeed A x y z) M' ∧ zRl M M' := by
  unfold Mo_feed
  rw [zW_e]
  obtain ⟨n, hn⟩ : ∃ n, N = n + 1 + 8 + 8 + 8 := ⟨N - 25, by omega⟩
  obtain ⟨M1, e1, a1, f1⟩ := m_fd (N := N) (x := x) (y := y) (z := z) (w := 0) (by omega) 8 (n + 1 + 8 + 8) A _ (by omega) (h.z 0) hv
  obtain ⟨M2, e2, a2, f2⟩ := m_fd (N := N) (x := x) (y := y) (z := z) (w := 1) (by omega) 8 (n + 1 + 8) _ M1 (by omega) a1 (dFd_v hv)
  obtain ⟨M3, e3, a3, f3⟩ := m_fd (N := N) (x := x) (y := y) (z := z) (w := 2) (by omega) 8 (n + 1) _ M2 (by omega) a2 (dFd_v (dFd_v hv))
  have e : Mo_feed_8 N N 0 x y z 0 (pI M 11 0 0 0) = Mo_feed_8 N (n + 1) 0 x y z ((8 * (2 + 1) : Nat) : Int) M3 := by
    have : Mo_feed_8 N N 0 x y z 0 (pI M 11 0 0 0) = Mo_feed_8 N (n + 1 + 8 + 8 + 8) 0 x y z ((8 * 0 + (8 - 8) : Nat) : Int) (pI M 11 0 0 0) := by rw [← hn]; rfl
    rw [this, e1]
    exact e2.trans e3
  rw [e, Mo_feed_8, if_neg (by omega)]
  refine ⟨M3, ?_, a3, (((zRl.z 0).tr f1).tr f2).tr f3⟩
  rw [a3.2.2.2.2.2.2.2.1]
  rfl
end FEED
