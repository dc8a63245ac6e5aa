section CTOK
variable {N n p : Nat} {x : Nat → Int} {M M' : ZM}
theorem pLe_t {c : Int} : pLe c = true ↔ 97 ≤ c ∧ c ≤ 122 := by simp [pLe]
theorem pDi_t {c : Int} : pDi c = true ↔ 48 ≤ c ∧ c ≤ 57 := by simp [pDi]
theorem pBl_t {c : Int} : pBl c = true ↔ c = 10 ∨ c = 32 := by simp [pBl]
theorem pSi_t {c : Int} : pSi c = true ↔ (40 ≤ c ∧ c ≤ 43) ∨ c = 45 ∨ (59 ≤ c ∧ c ≤ 61) := by simp [pSi, or_assoc]
/-- what the tape shows while tokens are read -/
def cTp (n : Nat) (x : Nat → Int) (M : ZM) : Prop := CTp n x M ∧ KM M ∧ n ≤ 1000
theorem cTp.g (h : cTp n x M) (f : zcT M M') : cTp n x M' := by
  obtain ⟨h1, ⟨sl, sx, h2⟩, h3⟩ := h
  exact ⟨⟨(f.2.2.1 _ _ _ (by omega)).trans h1.1, fun k hk => (f.2.2.1 _ _ _ (by omega)).trans (h1.2 k hk)⟩, ⟨sl, sx, f.1.trans h2⟩, h3⟩
/-- which word it is -/
theorem c_wd92 (k : Int) (hN : 100 ≤ N) : ∀ (f i m : Nat) (M : ZM), i + f = 30 → f < m → KM M → mI M 8 0 2 = 1 → mL M 8 0 5 = k → zrg (mR M) 3 = none → ∃ M', Ta_takeWord_92 N m 0 i M = some M' ∧ zcT M M' ∧ M'.1 = M.1 ∧ mL M' 8 0 5 = k ∧ zrg (mR M') 3 = tFd k f i := by
  intro f
  induction f with
  | zero =>
    intro i m M hi hm hk h2 h5 hr
    obtain ⟨m, rfl⟩ : ∃ m', m = m' + 1 := ⟨m - 1, by omega⟩
    rw [Ta_takeWord_92, if_pos h2, hr, zN_n, if_neg (by omega)]
    exact ⟨M, rfl, zcT.rf M, rfl, h5, hr⟩
  | succ f ih =>
    intro i m M hi hm hk h2 h5 hr
    obtain ⟨m, rfl⟩ : ∃ m', m = m' + 1 := ⟨m - 1, by omega⟩
    rw [Ta_takeWord_92, if_pos h2, hr, zN_n, if_pos (by omega), zI_t (by omega), Int.toNat_natCast, hk.key, h5, tFd]
    by_cases e : zkey i = k
    · have hz : z_lcmp (zkey i) k = 0 := by unfold z_lcmp; rw [if_neg (by omega), if_pos e]
      rw [if_pos hz, if_pos e, zI_t (by omega), zW_e, zsucc (by omega), zW_e]
      obtain ⟨m, rfl⟩ : ∃ m', m = m' + 1 := ⟨m - 1, by omega⟩
      rw [Ta_takeWord_92, mI_pR, if_pos h2, mR_pR, show zrg (zsr (mR M) 3 (some i)) 3 = some i from rfl, zN_s]
      exact ⟨_, rfl, zcT.r, rfl, h5, rfl⟩
    · have hz : ¬ z_lcmp (zkey i) k = 0 := by unfold z_lcmp; split <;> simp [e]
      rw [if_neg hz, if_neg e, zW_e, zsucc (by omega), zW_e]
      obtain ⟨M', e1, f1, g1, g2, g3⟩ := ih (i + 1) m (pR M (zsr (mR M) 3 none)) (by omega) (by omega) hk h2 h5 rfl
      exact ⟨M', e1, zcT.r.tr f1, g1, g2, g3⟩
theorem c_wd68 {b e : Nat} (hN : 100 ≤ N) (hb : b ≤ e) (he : e ≤ 1000) (h : KM M) (hr : zrg (mR M) 3 = none) : ∃ M', Ta_takeWord_68 N 0 b e M = some M' ∧ zcT M M' ∧ mI M' 8 0 3 = mI M 8 0 3 ∧ mI M' 8 0 7 = (e : Int) ∧ mI M' 8 0 2 = (if 8 < e - b then 3 else 1) ∧ mL M' 8 0 5 = mL M 8 0 5 ∧ zrg (mR M') 3 = if 8 < e - b then none else tFd (mL M 8 0 5) 30 0 := by
  unfold Ta_takeWord_68
  have ee : z32 ((e : Int) - (b : Int)) = ((e - b : Nat) : Int) := by rw [zs (by omega)]; omega
  rw [ee]
  clear ee
  by_cases c8 : 8 < e - b
  · rw [if_pos (by omega), if_pos c8, if_pos c8, zW_e, zW_e]
    obtain ⟨N', hN'⟩ : ∃ N', N = N' + 1 := ⟨N - 1, by omega⟩
    have : Ta_takeWord_92 N N 0 0 (pI (pI M 8 0 2 3) 8 0 7 (e : Int)) = some (pI (pI M 8 0 2 3) 8 0 7 (e : Int)) := by
      conv => lhs; rw [hN', Ta_takeWord_92]
      rw [mI_pI_ne (by omega), mI_pI_eq, if_neg (by decide)]
    refine ⟨_, this, (zcT.i (by omega)).tr (zcT.i (by omega)), ?_, mI_pI_eq, ?_, rfl, hr⟩
    · rw [mI_pI_ne (by omega), mI_pI_ne (by omega)]
    · rw [mI_pI_ne (by omega), mI_pI_eq]
  · rw [if_neg (by omega), if_neg c8, if_neg c8, zW_e, zW_e]
    obtain ⟨M', e1, f1, g1, g2, g3⟩ := c_wd92 (mL M 8 0 5) hN 30 0 N (pI (pI M 8 0 2 1) 8 0 7 (e : Int)) rfl (by omega) h (by rw [mI_pI_ne (by omega), mI_pI_eq]) rfl hr
    have g : ∀ t i k, mI M' t i k = mI (pI (pI M 8 0 2 1) 8 0 7 (e : Int)) t i k := fun t i k => by unfold mI; rw [g1]
    refine ⟨M', e1, ((zcT.i (by omega)).tr (zcT.i (by omega))).tr f1, ?_, ?_, ?_, g2, g3⟩
    · rw [g, mI_pI_ne (by omega), mI_pI_ne (by omega)]
    · rw [g, mI_pI_eq]
    · rw [g, mI_pI_ne (by omega), mI_pI_eq]
theorem c_wd7 {b : Nat} (hN : 2000 ≤ N) : ∀ (f j m : Nat) (M : ZM), n - (b + j) = f → f < m → b + j ≤ n → cTp n x M → (∀ i, i < j → 97 ≤ x (b + i) ∧ x (b + i) ≤ 122) → (j ≤ 8 → mL M 8 0 5 = tK 32 x b j) → zrg (mR M) 3 = none → ∃ M', Ta_takeWord_7 N m 0 b ((b + j : Nat) : Int) M = some M' ∧ zcT M M' ∧ mI M' 8 0 3 = mI M 8 0 3 ∧ mI M' 8 0 7 = (tE pLe x n (b + j) : Int) ∧ mI M' 8 0 2 = (if 8 < tE pLe x n (b + j) - b then 3 else 1) ∧ (¬ 8 < tE pLe x n (b + j) - b → mL M' 8 0 5 = tK 32 x b (tE pLe x n (b + j) - b)) ∧ zrg (mR M') 3 = if 8 < tE pLe x n (b + j) - b then none else tFd (tK 32 x b (tE pLe x n (b + j) - b)) 30 0 := by
  intro f
  induction f with
  | zero =>
    intro j m M hf hm hj h hx hL hr
    obtain ⟨m, rfl⟩ : ∃ m', m = m' + 1 := ⟨m - 1, by omega⟩
    have h3 := h.2.2
    rw [Ta_takeWord_7, h.1.1, if_neg (by omega), tE_n (by omega)]
    obtain ⟨M', e1, f1, g1, g2, g3, g4, g5⟩ := c_wd68 (N := N) (b := b) (e := b + j) (by omega) (by omega) (by omega) h.2.1 hr
    rw [show b + j - b = j by omega] at g3 g5 ⊢
    refine ⟨M', e1, f1, g1, g2, g3, fun c8 => g4.trans (hL (by omega)), g5.trans ?_⟩
    by_cases c8 : 8 < j
    · rw [if_pos c8, if_pos c8]
    · rw [if_neg c8, if_neg c8, hL (by omega)]
  | succ f ih =>
    intro j m M hf hm hj h hx hL hr
    obtain ⟨m, rfl⟩ : ∃ m', m = m' + 1 := ⟨m - 1, by omega⟩
    have h3 := h.2.2
    have stop : pLe (x (b + j)) ≠ true → ∃ M', Ta_takeWord_68 N 0 b ((b + j : Nat) : Int) M = some M' ∧ zcT M M' ∧ mI M' 8 0 3 = mI M 8 0 3 ∧ mI M' 8 0 7 = (tE pLe x n (b + j) : Int) ∧ mI M' 8 0 2 = (if 8 < tE pLe x n (b + j) - b then 3 else 1) ∧ (¬ 8 < tE pLe x n (b + j) - b → mL M' 8 0 5 = tK 32 x b (tE pLe x n (b + j) - b)) ∧ zrg (mR M') 3 = if 8 < tE pLe x n (b + j) - b then none else tFd (tK 32 x b (tE pLe x n (b + j) - b)) 30 0 := fun hne => by
      rw [tE_n (fun q => hne q.2)]
      obtain ⟨M', e1, f1, g1, g2, g3, g4, g5⟩ := c_wd68 (N := N) (b := b) (e := b + j) (by omega) (by omega) (by omega) h.2.1 hr
      rw [show b + j - b = j by omega] at g3 g5 ⊢
      refine ⟨M', e1, f1, g1, g2, g3, fun c8 => g4.trans (hL (by omega)), g5.trans ?_⟩
      by_cases c8 : 8 < j
      · rw [if_pos c8, if_pos c8]
      · rw [if_neg c8, if_neg c8, hL (by omega)]
    rw [Ta_takeWord_7, h.1.1, if_pos (by omega), zI_t (by omega), Int.toNat_natCast, h.1.2 _ (by omega)]
    by_cases c1 : x (b + j) < 97
    · rw [if_pos c1]; exact stop (by rw [Ne, pLe_t]; omega)
    · rw [if_neg c1, zI_t (by omega)]
      by_cases c2 : 122 < x (b + j)
      · rw [if_pos c2]; exact stop (by rw [Ne, pLe_t]; omega)
      · rw [if_neg c2, zI_t (by omega), zW_e, zsucc (by omega), zW_e, tE_y (by omega) (by rw [pLe_t]; omega)]
        obtain ⟨M', e1, f1, g1, g2, g3, g4, g5⟩ := ih (j + 1) m (pL M 8 0 5 (z64 (z64 (mL M 8 0 5 * 32) + z32 (z32 (x (b + j) - 97) + 1)))) (by omega) (by omega) (by omega) (h.g zcT.l) (fun i hi => by
          by_cases e : i = j
          · rw [e]; omega
          · exact hx i (by omega)) (fun h8 => by
          have hk := tK_le (x := x) (B := 32) (.inr rfl) (b := b) j (by omega) hx
          have hp : (32 : Int) ^ j ≤ 34359738368 := by
            have : j = 0 ∨ j = 1 ∨ j = 2 ∨ j = 3 ∨ j = 4 ∨ j = 5 ∨ j = 6 ∨ j = 7 := by omega
            rcases this with rfl | rfl | rfl | rfl | rfl | rfl | rfl | rfl <;> decide
          rw [mL_pL_eq, hL (by omega), tK]
          generalize tK 32 x b j = u at *
          generalize (32 : Int) ^ j = w at *
          generalize x (b + j) = y at *
          rw [zs (x := y - 97) (by omega), zs (by omega), z64_id (x := u * 32) ⟨by omega, by omega⟩, z64_id ⟨by omega, by omega⟩]
          omega) hr
        exact ⟨M', e1, zcT.l.tr f1, g1, g2, g3, g4, g5⟩
end CTOK
