section RPASS
variable {N n p : Nat} {x : Nat → Int} {M M' : ZM}
/-- the reference's tape while tokens are read -/
def rTp (n : Nat) (x : Nat → Int) (M : ZM) : Prop := mI M 11 0 3 = (n : Int) ∧ (∀ k, k < n → mI M 50 0 k = x k) ∧ n ≤ 1000
theorem rTp.g (h : rTp n x M) (f : zrT M M') : rTp n x M' := ⟨(f.2.2.1 _ _ _ (by omega)).trans h.1, fun k hk => (f.2.2.1 _ _ _ (by omega)).trans (h.2.1 k hk), h.2.2⟩
theorem r_signAt {q : Nat} (h : rTp n x M) : Mo_signAt N 0 (q : Int) M = some (if q < n then x q else 0, M) := by
  have h3 := h.2.2
  unfold Mo_signAt
  rw [h.1]
  by_cases c : q < n
  · rw [if_pos (by omega), if_pos c, zI_t (by omega), Int.toNat_natCast, h.2.1 q c]
  · rw [if_neg (by omega), if_neg c]
theorem r_wd188 {b e : Nat} (hb : b ≤ e) (he : e ≤ 1000) (h4 : mI M 11 0 4 = (e : Int)) (h5 : mI M 11 0 5 = (b : Int)) : Mo_nextToken_188 N 0 M = some (pI M 11 0 6 (if 8 < e - b then 4 else 1)) := by
  unfold Mo_nextToken_188
  have ee : z32 ((e : Int) - (b : Int)) = ((e - b : Nat) : Int) := by rw [zs (by omega)]; omega
  rw [h4, h5, ee]
  clear ee
  by_cases c8 : 8 < e - b
  · rw [if_pos (by omega), if_pos c8, zW_e]
  · rw [if_neg (by omega), if_neg c8, zW_e]
theorem r_nu299 {b e : Nat} (hb : b ≤ e) (he : e ≤ 1000) (h4 : mI M 11 0 4 = (e : Int)) (h5 : mI M 11 0 5 = (b : Int)) : Mo_nextToken_299 N 0 M = some (pI M 11 0 6 (if 4 < e - b then 4 else 2)) := by
  unfold Mo_nextToken_299
  have ee : z32 ((e : Int) - (b : Int)) = ((e - b : Nat) : Int) := by rw [zs (by omega)]; omega
  rw [h4, h5, ee]
  clear ee
  by_cases c8 : 4 < e - b
  · rw [if_pos (by omega), if_pos c8, zW_e]
  · rw [if_neg (by omega), if_neg c8, zW_e]
theorem r_wd109 {b : Nat} (hN : 2000 ≤ N) : ∀ (f j m : Nat) (M : ZM), n - (b + j) = f → f < m → b + j ≤ n → rTp n x M → (∀ i, i < j → 97 ≤ x (b + i) ∧ x (b + i) ≤ 122) → (j ≤ 8 → mL M 11 0 7 = tK 27 x b j) → mI M 11 0 4 = ((b + j : Nat) : Int) → mI M 11 0 5 = (b : Int) → ∃ M', Mo_nextToken_109 N m 0 M = some M' ∧ zrT M M' ∧ mI M' 11 0 5 = (b : Int) ∧ mI M' 11 0 4 = (tE pLe x n (b + j) : Int) ∧ mI M' 11 0 6 = (if 8 < tE pLe x n (b + j) - b then 4 else 1) ∧ (¬ 8 < tE pLe x n (b + j) - b → mL M' 11 0 7 = tK 27 x b (tE pLe x n (b + j) - b)) := by
  intro f
  induction f with
  | zero =>
    intro j m M hf hm hj h hx hL h4 h5
    obtain ⟨m, rfl⟩ : ∃ m', m = m' + 1 := ⟨m - 1, by omega⟩
    have h3 := h.2.2
    rw [Mo_nextToken_109, h4, r_signAt h, zB_s, if_neg (show ¬ b + j < n by omega), if_pos (show (0 : Int) < 97 by decide), tE_n (by omega), r_wd188 (by omega) (by omega) h4 h5, show b + j - b = j by omega]
    refine ⟨_, rfl, zrT.i (by omega), ?_, ?_, mI_pI_eq, fun c8 => hL (by omega)⟩
    · rw [mI_pI_ne (by omega), h5]
    · rw [mI_pI_ne (by omega), h4]
  | succ f ih =>
    intro j m M hf hm hj h hx hL h4 h5
    obtain ⟨m, rfl⟩ : ∃ m', m = m' + 1 := ⟨m - 1, by omega⟩
    have h3 := h.2.2
    have stop : pLe (x (b + j)) ≠ true → ∃ M', Mo_nextToken_188 N 0 M = some M' ∧ zrT M M' ∧ mI M' 11 0 5 = (b : Int) ∧ mI M' 11 0 4 = (tE pLe x n (b + j) : Int) ∧ mI M' 11 0 6 = (if 8 < tE pLe x n (b + j) - b then 4 else 1) ∧ (¬ 8 < tE pLe x n (b + j) - b → mL M' 11 0 7 = tK 27 x b (tE pLe x n (b + j) - b)) := fun hne => by
      rw [tE_n (fun q => hne q.2), r_wd188 (by omega) (by omega) h4 h5, show b + j - b = j by omega]
      refine ⟨_, rfl, zrT.i (by omega), ?_, ?_, mI_pI_eq, fun c8 => hL (by omega)⟩
      · rw [mI_pI_ne (by omega), h5]
      · rw [mI_pI_ne (by omega), h4]
    rw [Mo_nextToken_109, h4, r_signAt h, zB_s, if_pos (show b + j < n by omega)]
    by_cases c1 : x (b + j) < 97
    · rw [if_pos c1]; exact stop (by rw [Ne, pLe_t]; omega)
    · rw [if_neg c1, h4, r_signAt h, zB_s, if_pos (show b + j < n by omega)]
      by_cases c2 : 122 < x (b + j)
      · rw [if_pos c2]; exact stop (by rw [Ne, pLe_t]; omega)
      · have ee : z32 (((b + j : Nat) : Int) - (b : Int)) = ((j : Nat) : Int) := by rw [zs (by omega)]; omega
        rw [if_neg c2, h4, h5, ee, tE_y (by omega) (by rw [pLe_t]; omega)]
        clear ee
        have hx' : ∀ i, i < j + 1 → 97 ≤ x (b + i) ∧ x (b + i) ≤ 122 := fun i hi => by
          by_cases e : i = j
          · rw [e]; omega
          · exact hx i (by omega)
        by_cases c8 : j < 8
        · rw [if_pos (by omega), r_signAt h, zB_s, if_pos (show b + j < n by omega), zW_e, mI_pL, h4, zsucc (by omega), zW_e]
          obtain ⟨M', e1, f1, g1, g2, g3, g4⟩ := ih (j + 1) m (pI (pL M 11 0 7 (z64 (z64 (z64 (mL M 11 0 7 * 27) + x (b + j)) - 96))) 11 0 4 ((b + j + 1 : Nat) : Int)) (by omega) (by omega) (by omega) (h.g (zrT.l.tr (zrT.i (by omega)))) hx' (fun h8 => by
            have hk := tK_le (x := x) (B := 27) (.inl rfl) (b := b) j (by omega) hx
            have hp : (32 : Int) ^ j ≤ 34359738368 := by
              have : j = 0 ∨ j = 1 ∨ j = 2 ∨ j = 3 ∨ j = 4 ∨ j = 5 ∨ j = 6 ∨ j = 7 := by omega
              rcases this with rfl | rfl | rfl | rfl | rfl | rfl | rfl | rfl <;> decide
            rw [mL_pI, mL_pL_eq, hL (by omega), tK]
            generalize tK 27 x b j = u at *
            generalize (32 : Int) ^ j = w at *
            generalize x (b + j) = y at *
            rw [z64_id (x := u * 27) ⟨by omega, by omega⟩, z64_id (x := u * 27 + y) ⟨by omega, by omega⟩, z64_id ⟨by omega, by omega⟩]
            omega) mI_pI_eq (by rw [mI_pI_ne (by omega), mI_pL, h5])
          exact ⟨M', e1, (zrT.l.tr (zrT.i (by omega))).tr f1, g1, g2, g3, g4⟩
        · rw [if_neg (by omega), zsucc (by omega), zW_e]
          obtain ⟨M', e1, f1, g1, g2, g3, g4⟩ := ih (j + 1) m (pI M 11 0 4 ((b + j + 1 : Nat) : Int)) (by omega) (by omega) (by omega) (h.g (zrT.i (by omega))) hx' (fun h8 => by omega) mI_pI_eq (by rw [mI_pI_ne (by omega), h5])
          exact ⟨M', e1, (zrT.i (by omega)).tr f1, g1, g2, g3, g4⟩
theorem r_nu224 {b : Nat} (hN : 2000 ≤ N) : ∀ (f j m : Nat) (M : ZM), n - (b + j) = f → f < m → b + j ≤ n → rTp n x M → (∀ i, i < j → 48 ≤ x (b + i) ∧ x (b + i) ≤ 57) → (j ≤ 4 → mI M 11 0 8 = tV x b j) → mI M 11 0 4 = ((b + j : Nat) : Int) → mI M 11 0 5 = (b : Int) → ∃ M', Mo_nextToken_224 N m 0 M = some M' ∧ zrT M M' ∧ mI M' 11 0 5 = (b : Int) ∧ mI M' 11 0 4 = (tE pDi x n (b + j) : Int) ∧ mI M' 11 0 6 = (if 4 < tE pDi x n (b + j) - b then 4 else 2) ∧ (¬ 4 < tE pDi x n (b + j) - b → mI M' 11 0 8 = tV x b (tE pDi x n (b + j) - b)) := by
  intro f
  induction f with
  | zero =>
    intro j m M hf hm hj h hx hL h4 h5
    obtain ⟨m, rfl⟩ : ∃ m', m = m' + 1 := ⟨m - 1, by omega⟩
    have h3 := h.2.2
    rw [Mo_nextToken_224, h4, r_signAt h, zB_s, if_neg (show ¬ b + j < n by omega), if_pos (show (0 : Int) < 48 by decide), tE_n (by omega), r_nu299 (by omega) (by omega) h4 h5, show b + j - b = j by omega]
    refine ⟨_, rfl, zrT.i (by omega), ?_, ?_, mI_pI_eq, fun c8 => ?_⟩
    · rw [mI_pI_ne (by omega), h5]
    · rw [mI_pI_ne (by omega), h4]
    · rw [mI_pI_ne (by omega), hL (by omega)]
  | succ f ih =>
    intro j m M hf hm hj h hx hL h4 h5
    obtain ⟨m, rfl⟩ : ∃ m', m = m' + 1 := ⟨m - 1, by omega⟩
    have h3 := h.2.2
    have stop : pDi (x (b + j)) ≠ true → ∃ M', Mo_nextToken_299 N 0 M = some M' ∧ zrT M M' ∧ mI M' 11 0 5 = (b : Int) ∧ mI M' 11 0 4 = (tE pDi x n (b + j) : Int) ∧ mI M' 11 0 6 = (if 4 < tE pDi x n (b + j) - b then 4 else 2) ∧ (¬ 4 < tE pDi x n (b + j) - b → mI M' 11 0 8 = tV x b (tE pDi x n (b + j) - b)) := fun hne => by
      rw [tE_n (fun q => hne q.2), r_nu299 (by omega) (by omega) h4 h5, show b + j - b = j by omega]
      refine ⟨_, rfl, zrT.i (by omega), ?_, ?_, mI_pI_eq, fun c8 => ?_⟩
      · rw [mI_pI_ne (by omega), h5]
      · rw [mI_pI_ne (by omega), h4]
      · rw [mI_pI_ne (by omega), hL (by omega)]
    rw [Mo_nextToken_224, h4, r_signAt h, zB_s, if_pos (show b + j < n by omega)]
    by_cases c1 : x (b + j) < 48
    · rw [if_pos c1]; exact stop (by rw [Ne, pDi_t]; omega)
    · rw [if_neg c1, h4, r_signAt h, zB_s, if_pos (show b + j < n by omega)]
      by_cases c2 : 57 < x (b + j)
      · rw [if_pos c2]; exact stop (by rw [Ne, pDi_t]; omega)
      · have ee : z32 (((b + j : Nat) : Int) - (b : Int)) = ((j : Nat) : Int) := by rw [zs (by omega)]; omega
        rw [if_neg c2, h4, h5, ee, tE_y (by omega) (by rw [pDi_t]; omega)]
        clear ee
        have hx' : ∀ i, i < j + 1 → 48 ≤ x (b + i) ∧ x (b + i) ≤ 57 := fun i hi => by
          by_cases e : i = j
          · rw [e]; omega
          · exact hx i (by omega)
        by_cases c8 : j < 4
        · rw [if_pos (by omega), r_signAt h, zB_s, if_pos (show b + j < n by omega), zW_e, mI_pI_ne (by omega), h4, zsucc (by omega), zW_e]
          obtain ⟨M', e1, f1, g1, g2, g3, g4⟩ := ih (j + 1) m (pI (pI M 11 0 8 (z32 (z32 (z32 (mI M 11 0 8 * 10) + x (b + j)) - 48))) 11 0 4 ((b + j + 1 : Nat) : Int)) (by omega) (by omega) (by omega) (h.g ((zrT.i (by omega)).tr (zrT.i (by omega)))) hx' (fun h8 => by
            have hk := tV_le (x := x) (b := b) j (by omega) hx
            have hp : (10 : Int) ^ j ≤ 1000 := by
              have : j = 0 ∨ j = 1 ∨ j = 2 ∨ j = 3 := by omega
              rcases this with rfl | rfl | rfl | rfl <;> decide
            rw [mI_pI_ne (by omega), mI_pI_eq, hL (by omega), tV]
            generalize tV x b j = u at *
            generalize (10 : Int) ^ j = w at *
            generalize x (b + j) = y at *
            rw [zs (x := u * 10) (by omega), zs (x := u * 10 + y) (by omega), zs (by omega)]
            omega) mI_pI_eq (by rw [mI_pI_ne (by omega), mI_pI_ne (by omega), h5])
          exact ⟨M', e1, ((zrT.i (by omega)).tr (zrT.i (by omega))).tr f1, g1, g2, g3, g4⟩
        · rw [if_neg (by omega), zsucc (by omega), zW_e]
          obtain ⟨M', e1, f1, g1, g2, g3, g4⟩ := ih (j + 1) m (pI M 11 0 4 ((b + j + 1 : Nat) : Int)) (by omega) (by omega) (by omega) (h.g (zrT.i (by omega))) hx' (fun h8 => by omega) mI_pI_eq (by rw [mI_pI_ne (by omega), h5])
          exact ⟨M', e1, (zrT.i (by omega)).tr f1, g1, g2, g3, g4⟩
theorem r_sg322 {b : Nat} {y : Int} (hb : b < 1000) (h4 : mI M 11 0 4 = (b : Int)) : Mo_nextToken_322 N 0 y M = some (pI (pI M 11 0 4 ((b + 1 : Nat) : Int)) 11 0 6 (if pSi y then 3 else 4)) := by
  unfold Mo_nextToken_322 Mo_nextToken_345
  rw [h4, zsucc (by omega)]
  simp only [zW_e]
  by_cases hs : pSi y = true
  · rw [if_pos hs]
    rw [pSi_t] at hs
    by_cases c1 : y < 40
    · omega
    · rw [if_neg c1]
      by_cases c2 : 43 < y
      · rw [if_pos c2]
        by_cases c3 : y = 45
        · rw [if_pos c3]
        · rw [if_neg c3, if_neg (by omega), if_neg (by omega)]
      · rw [if_neg c2]
  · rw [if_neg hs]
    rw [pSi_t] at hs
    by_cases c1 : y < 40
    · rw [if_pos c1, if_neg (by omega), if_pos (by omega)]
    · rw [if_neg c1, if_pos (by omega), if_neg (by omega)]
      by_cases c3 : y < 59
      · rw [if_pos c3]
      · rw [if_neg c3, if_pos (by omega)]
theorem r_tok52 {b : Nat} (hb : b ≤ n) (h : rTp n x M) (hN : 2000 ≤ N) (h4 : mI M 11 0 4 = (b : Int)) : ∃ M', Mo_nextToken_52 N 0 M = some M' ∧ RTok x n b M' ∧ zrT M M' := by
  have h3 := h.2.2
  have f0 : zrT M (pI (pL (pI M 11 0 5 (b : Int)) 11 0 7 0) 11 0 8 0) := (zrT.i (by omega)).tr (zrT.l.tr (zrT.i (by omega)))
  have h' := h.g f0
  unfold Mo_nextToken_52
  rw [h4, zW_e, zW_e, zW_e]
  have a5 : mI (pI (pL (pI M 11 0 5 (b : Int)) 11 0 7 0) 11 0 8 0) 11 0 5 = (b : Int) := by rw [mI_pI_ne (by omega), mI_pL, mI_pI_eq]
  have a4 : mI (pI (pL (pI M 11 0 5 (b : Int)) 11 0 7 0) 11 0 8 0) 11 0 4 = (b : Int) := by rw [mI_pI_ne (by omega), mI_pL, mI_pI_ne (by omega), h4]
  have a8 : mI (pI (pL (pI M 11 0 5 (b : Int)) 11 0 7 0) 11 0 8 0) 11 0 8 = 0 := mI_pI_eq
  have a7 : mL (pI (pL (pI M 11 0 5 (b : Int)) 11 0 7 0) 11 0 8 0) 11 0 7 = 0 := by rw [mL_pI, mL_pL_eq]
  generalize pI (pL (pI M 11 0 5 (b : Int)) 11 0 7 0) 11 0 8 0 = M1 at *
  rw [a4, h'.1]
  by_cases c0 : b < n
  · rw [if_neg (by omega), zI_t (by omega), Int.toNat_natCast, h'.2.1 b c0, zW_e]
    have no2 : pLe (x b) ≠ true → pDi (x b) ≠ true → ∃ M', Mo_nextToken_322 N 0 (x b) M1 = some M' ∧ RTok x n b M' ∧ zrT M M' := fun hne hne2 => by
      have en : tNx x n b = b + 1 := by unfold tNx; rw [if_pos c0, if_neg hne, if_neg hne2]
      rw [r_sg322 (b := b) (by omega) a4]
      by_cases hs : pSi (x b) = true
      · have ek : tKi x n b = x b := by unfold tKi; rw [if_pos c0, if_neg hne, if_neg hne2, if_pos hs]
        have hs' := hs
        rw [pSi_t] at hs'
        refine ⟨_, rfl, ⟨?_, ?_, ?_, fun q => by omega, fun q => by omega⟩, f0.tr ((zrT.i (by omega)).tr (zrT.i (by omega)))⟩
        · rw [mI_pI_ne (by omega), mI_pI_ne (by omega), a5]
        · rw [mI_pI_ne (by omega), mI_pI_eq, en]
        · rw [mI_pI_eq, ek, if_pos hs, if_neg (by omega), if_pos (by omega)]
      · have ek : tKi x n b = 3 := by unfold tKi; rw [if_pos c0, if_neg hne, if_neg hne2, if_neg hs]
        refine ⟨_, rfl, ⟨?_, ?_, ?_, fun q => by omega, fun q => by omega⟩, f0.tr ((zrT.i (by omega)).tr (zrT.i (by omega)))⟩
        · rw [mI_pI_ne (by omega), mI_pI_ne (by omega), a5]
        · rw [mI_pI_ne (by omega), mI_pI_eq, en]
        · rw [mI_pI_eq, ek, if_neg hs, if_pos rfl]
    have nu : pLe (x b) ≠ true → pDi (x b) = true → ∃ M', Mo_nextToken_224 N N 0 M1 = some M' ∧ RTok x n b M' ∧ zrT M M' := fun hne hd => by
      obtain ⟨M', e1, f1, g1, g2, g3, g4⟩ := r_nu224 (N := N) (n := n) (x := x) (b := b) hN (n - b) 0 N M1 rfl (by omega) (by omega) h' (fun i hi => by omega) (fun _ => a8) a4 a5
      rw [Nat.add_zero] at g2 g3 g4
      have en : tNx x n b = tE pDi x n b := by unfold tNx; rw [if_pos c0, if_neg hne, if_pos hd]
      have ek : tKi x n b = if 4 < tE pDi x n b - b then 3 else 2 := by unfold tKi; rw [if_pos c0, if_neg hne, if_pos hd]
      refine ⟨M', e1, ⟨g1, by rw [g2, en], ?_, fun q => g4 (fun c4 => by rw [ek, if_pos c4] at q; omega), fun q => by rw [ek] at q; split at q <;> omega⟩, f0.tr f1⟩
      rw [g3, ek]
      by_cases c4 : 4 < tE pDi x n b - b
      · rw [if_pos c4, if_pos c4, if_pos rfl]
      · rw [if_neg c4, if_neg c4, if_neg (by omega), if_neg (by omega)]
    by_cases c1 : x b < 97
    · have hne : pLe (x b) ≠ true := by rw [Ne, pLe_t]; omega
      rw [if_pos c1]
      by_cases d1 : x b < 48
      · rw [if_pos d1]; exact no2 hne (by rw [Ne, pDi_t]; omega)
      · rw [if_neg d1]
        by_cases d2 : 57 < x b
        · rw [if_pos d2]; exact no2 hne (by rw [Ne, pDi_t]; omega)
        · rw [if_neg d2]; exact nu hne (by rw [pDi_t]; omega)
    · rw [if_neg c1]
      by_cases c2 : 122 < x b
      · rw [if_pos c2, if_neg (by omega), if_pos (by omega)]
        exact no2 (by rw [Ne, pLe_t]; omega) (by rw [Ne, pDi_t]; omega)
      · have hl : pLe (x b) = true := by rw [pLe_t]; omega
        rw [if_neg c2]
        obtain ⟨M', e1, f1, g1, g2, g3, g4⟩ := r_wd109 (N := N) (n := n) (x := x) (b := b) hN (n - b) 0 N M1 rfl (by omega) (by omega) h' (fun i hi => by omega) (fun _ => a7) a4 a5
        rw [Nat.add_zero] at g2 g3 g4
        have en : tNx x n b = tE pLe x n b := by unfold tNx; rw [if_pos c0, if_pos hl]
        have ek : tKi x n b = if 8 < tE pLe x n b - b then 3 else 1 := by unfold tKi; rw [if_pos c0, if_pos hl]
        refine ⟨M', e1, ⟨g1, by rw [g2, en], ?_, fun q => by rw [ek] at q; split at q <;> omega, fun q => g4 (fun c4 => by rw [ek, if_pos c4] at q; omega)⟩, f0.tr f1⟩
        rw [g3, ek]
        by_cases c4 : 8 < tE pLe x n b - b
        · rw [if_pos c4, if_pos c4, if_pos rfl]
        · rw [if_neg c4, if_neg c4, if_neg (by omega), if_neg (by omega)]
  · have ek : tKi x n b = 0 := by unfold tKi; rw [if_neg c0]
    rw [if_pos (by omega), zW_e]
    refine ⟨_, rfl, ⟨?_, ?_, ?_, fun q => by omega, fun q => by omega⟩, f0.tr (zrT.i (by omega))⟩
    · rw [mI_pI_ne (by omega), a5]
    · rw [mI_pI_ne (by omega), a4]; unfold tNx; rw [if_neg c0]; omega
    · rw [mI_pI_eq, ek, if_neg (by omega), if_neg (by omega)]
theorem r_tok0 (hN : 2000 ≤ N) : ∀ (f p m : Nat) (M : ZM), n - p = f → f < m → p ≤ n → rTp n x M → mI M 11 0 4 = (p : Int) → ∃ M', Mo_nextToken_0 N m 0 M = some M' ∧ RTok x n (tE pBl x n p) M' ∧ zrT M M' := by
  intro f
  induction f with
  | zero =>
    intro p m M hf hm hp h h4
    obtain ⟨m, rfl⟩ : ∃ m', m = m' + 1 := ⟨m - 1, by omega⟩
    rw [Mo_nextToken_0, h.1, h4, if_neg (by omega), tE_n (by omega)]
    exact r_tok52 hp h hN h4
  | succ f ih =>
    intro p m M hf hm hp h h4
    obtain ⟨m, rfl⟩ : ∃ m', m = m' + 1 := ⟨m - 1, by omega⟩
    have h3 := h.2.2
    rw [Mo_nextToken_0, h.1, h4, if_pos (by omega), zI_t (by omega), Int.toNat_natCast, h.2.1 p (by omega), zsucc (by omega)]
    by_cases c1 : x p = 32
    · rw [if_pos c1, zW_e, tE_y (by omega) (by rw [pBl_t]; omega)]
      obtain ⟨M', e1, t1, f1⟩ := ih (p + 1) m (pI M 11 0 4 ((p + 1 : Nat) : Int)) (by omega) (by omega) (by omega) (h.g (zrT.i (by omega))) mI_pI_eq
      exact ⟨M', e1, t1, (zrT.i (by omega)).tr f1⟩
    · rw [if_neg c1, zI_t (by omega)]
      by_cases c2 : x p = 10
      · rw [if_pos c2, zW_e, tE_y (by omega) (by rw [pBl_t]; omega)]
        obtain ⟨M', e1, t1, f1⟩ := ih (p + 1) m (pI M 11 0 4 ((p + 1 : Nat) : Int)) (by omega) (by omega) (by omega) (h.g (zrT.i (by omega))) mI_pI_eq
        exact ⟨M', e1, t1, (zrT.i (by omega)).tr f1⟩
      · rw [if_neg c2, tE_n (by rw [pBl_t]; omega)]
        exact r_tok52 hp h hN h4
/-- the reference takes the next token -/
theorem r_pass (hN : 2000 ≤ N) (hp : p ≤ n) (h : rTp n x M) (h4 : mI M 11 0 4 = (p : Int)) : ∃ M', Mo_nextToken N 0 M = some M' ∧ RTok x n (tE pBl x n p) M' ∧ zrT M M' := by
  have h3 := h.2.2
  exact r_tok0 hN (n - p) p N M rfl (by omega) hp h h4
end RPASS
