section CPASS
variable {N n p : Nat} {x : Nat → Int} {M M' : ZM}
theorem c_nu64 {b e : Nat} (hb : b ≤ e) (he : e ≤ 1000) : ∃ M', Ta_takeNumber_64 N 0 b e M = some M' ∧ zcT M M' ∧ mI M' 8 0 3 = mI M 8 0 3 ∧ mI M' 8 0 7 = (e : Int) ∧ mI M' 8 0 2 = (if 4 < e - b then 3 else 2) ∧ mI M' 8 0 4 = mI M 8 0 4 ∧ mR M' = mR M := by
  unfold Ta_takeNumber_64
  have ee : z32 ((e : Int) - (b : Int)) = ((e - b : Nat) : Int) := by rw [zs (by omega)]; omega
  rw [ee]
  clear ee
  by_cases c8 : 4 < e - b
  · rw [if_pos (by omega), if_pos c8, zW_e, zW_e]
    refine ⟨_, rfl, (zcT.i (by omega)).tr (zcT.i (by omega)), ?_, mI_pI_eq, ?_, ?_, rfl⟩
    · rw [mI_pI_ne (by omega), mI_pI_ne (by omega)]
    · rw [mI_pI_ne (by omega), mI_pI_eq]
    · rw [mI_pI_ne (by omega), mI_pI_ne (by omega)]
  · rw [if_neg (by omega), if_neg c8, zW_e, zW_e]
    refine ⟨_, rfl, (zcT.i (by omega)).tr (zcT.i (by omega)), ?_, mI_pI_eq, ?_, ?_, rfl⟩
    · rw [mI_pI_ne (by omega), mI_pI_ne (by omega)]
    · rw [mI_pI_ne (by omega), mI_pI_eq]
    · rw [mI_pI_ne (by omega), mI_pI_ne (by omega)]
theorem c_nu7 {b : Nat} (hN : 2000 ≤ N) : ∀ (f j m : Nat) (M : ZM), n - (b + j) = f → f < m → b + j ≤ n → cTp n x M → (∀ i, i < j → 48 ≤ x (b + i) ∧ x (b + i) ≤ 57) → (j ≤ 4 → mI M 8 0 4 = tV x b j) → ∃ M', Ta_takeNumber_7 N m 0 b ((b + j : Nat) : Int) M = some M' ∧ zcT M M' ∧ mI M' 8 0 3 = mI M 8 0 3 ∧ mI M' 8 0 7 = (tE pDi x n (b + j) : Int) ∧ mI M' 8 0 2 = (if 4 < tE pDi x n (b + j) - b then 3 else 2) ∧ (¬ 4 < tE pDi x n (b + j) - b → mI M' 8 0 4 = tV x b (tE pDi x n (b + j) - b)) ∧ mR M' = mR M := by
  intro f
  induction f with
  | zero =>
    intro j m M hf hm hj h hx hL
    obtain ⟨m, rfl⟩ : ∃ m', m = m' + 1 := ⟨m - 1, by omega⟩
    have h3 := h.2.2
    rw [Ta_takeNumber_7, h.1.1, if_neg (by omega), tE_n (by omega)]
    obtain ⟨M', e1, f1, g1, g2, g3, g4, g5⟩ := c_nu64 (N := N) (M := M) (b := b) (e := b + j) (by omega) (by omega)
    rw [show b + j - b = j by omega] at g3 ⊢
    exact ⟨M', e1, f1, g1, g2, g3, fun c8 => g4.trans (hL (by omega)), g5⟩
  | succ f ih =>
    intro j m M hf hm hj h hx hL
    obtain ⟨m, rfl⟩ : ∃ m', m = m' + 1 := ⟨m - 1, by omega⟩
    have h3 := h.2.2
    have stop : pDi (x (b + j)) ≠ true → ∃ M', Ta_takeNumber_64 N 0 b ((b + j : Nat) : Int) M = some M' ∧ zcT M M' ∧ mI M' 8 0 3 = mI M 8 0 3 ∧ mI M' 8 0 7 = (tE pDi x n (b + j) : Int) ∧ mI M' 8 0 2 = (if 4 < tE pDi x n (b + j) - b then 3 else 2) ∧ (¬ 4 < tE pDi x n (b + j) - b → mI M' 8 0 4 = tV x b (tE pDi x n (b + j) - b)) ∧ mR M' = mR M := fun hne => by
      rw [tE_n (fun q => hne q.2)]
      obtain ⟨M', e1, f1, g1, g2, g3, g4, g5⟩ := c_nu64 (N := N) (M := M) (b := b) (e := b + j) (by omega) (by omega)
      rw [show b + j - b = j by omega] at g3 ⊢
      exact ⟨M', e1, f1, g1, g2, g3, fun c8 => g4.trans (hL (by omega)), g5⟩
    rw [Ta_takeNumber_7, h.1.1, if_pos (by omega), zI_t (by omega), Int.toNat_natCast, h.1.2 _ (by omega)]
    by_cases c1 : x (b + j) < 48
    · rw [if_pos c1]; exact stop (by rw [Ne, pDi_t]; omega)
    · rw [if_neg c1, zI_t (by omega)]
      by_cases c2 : 57 < x (b + j)
      · rw [if_pos c2]; exact stop (by rw [Ne, pDi_t]; omega)
      · rw [if_neg c2, zI_t (by omega), zW_e, zsucc (by omega), zW_e, tE_y (by omega) (by rw [pDi_t]; omega)]
        obtain ⟨M', e1, f1, g1, g2, g3, g4, g5⟩ := ih (j + 1) m (pI M 8 0 4 (z32 (z32 (mI M 8 0 4 * 10) + z32 (x (b + j) - 48)))) (by omega) (by omega) (by omega) (h.g (zcT.i (by omega))) (fun i hi => by
          by_cases e : i = j
          · rw [e]; omega
          · exact hx i (by omega)) (fun h8 => by
          have hk := tV_le (x := x) (b := b) j (by omega) hx
          have hp : (10 : Int) ^ j ≤ 1000 := by
            have : j = 0 ∨ j = 1 ∨ j = 2 ∨ j = 3 := by omega
            rcases this with rfl | rfl | rfl | rfl <;> decide
          rw [mI_pI_eq, hL (by omega), tV]
          generalize tV x b j = u at *
          generalize (10 : Int) ^ j = w at *
          generalize x (b + j) = y at *
          rw [zs (x := y - 48) (by omega), zs (x := u * 10) (by omega), zs (by omega)])
        exact ⟨M', e1, (zcT.i (by omega)).tr f1, g1.trans (mI_pI_ne (by omega)), g2, g3, g4, g5⟩
theorem c_isSign {c : Int} : Ta_isSign N c M = some (if pSi c then 1 else 0, M) := by
  unfold Ta_isSign
  by_cases h : pSi c = true
  · rw [if_pos h]
    rw [pSi_t] at h
    have : c = 40 ∨ c = 41 ∨ c = 42 ∨ c = 43 ∨ c = 45 ∨ c = 59 ∨ c = 60 ∨ c = 61 := by omega
    rcases this with rfl | rfl | rfl | rfl | rfl | rfl | rfl | rfl <;> rfl
  · rw [if_neg h]
    rw [pSi_t] at h
    repeat rw [if_neg (by omega)]
theorem c_pass46 {b : Nat} (hb : b ≤ n) (h : cTp n x M) (hN : 2000 ≤ N) (hr : zrg (mR M) 3 = none) : ∃ M', Ta_pass_46 N 0 b M = some M' ∧ CTok x n b M' ∧ zcT M M' := by
  have h3 := h.2.2
  have f0 : zcT M (pI M 8 0 3 b) := zcT.i (by omega)
  have h' := h.g f0
  have eb : mI (pI M 8 0 3 b) 8 0 3 = (b : Int) := mI_pI_eq
  have hr' : zrg (mR (pI M 8 0 3 b)) 3 = none := hr
  unfold Ta_pass_46
  rw [zW_e]
  generalize pI M 8 0 3 (b : Int) = M1 at *
  rw [h'.1.1]
  by_cases c0 : b < n
  · rw [if_pos (by omega), zI_t (by omega), Int.toNat_natCast, h'.1.2 b c0]
    have no : pLe (x b) ≠ true → ∃ M', Ta_pass_105 N 0 b M1 = some M' ∧ CTok x n b M' ∧ zcT M M' := fun hne => by
      unfold Ta_pass_105
      rw [zI_t (by omega), Int.toNat_natCast, h'.1.2 b c0]
      have no2 : pDi (x b) ≠ true → ∃ M', Ta_pass_135 N 0 b M1 = some M' ∧ CTok x n b M' ∧ zcT M M' := fun hne2 => by
        have en : tNx x n b = b + 1 := by unfold tNx; rw [if_pos c0, if_neg hne, if_neg hne2]
        unfold Ta_pass_135
        rw [zI_t (by omega), Int.toNat_natCast, h'.1.2 b c0, c_isSign, zB_s]
        by_cases hs : pSi (x b) = true
        · have ek : tKi x n b = x b := by unfold tKi; rw [if_pos c0, if_neg hne, if_neg hne2, if_pos hs]
          have hs' := hs
          rw [pSi_t] at hs'
          rw [if_pos hs, if_neg (by decide), zI_t (by omega), h'.1.2 b c0, zW_e, zsucc (by omega), zW_e]
          refine ⟨_, rfl, ⟨?_, ?_, ?_, fun q => by omega, fun q => by omega, ?_⟩, f0.tr ((zcT.i (by omega)).tr (zcT.i (by omega)))⟩
          · rw [mI_pI_ne (by omega), mI_pI_ne (by omega), eb]
          · rw [mI_pI_eq, en]
          · rw [mI_pI_ne (by omega), mI_pI_eq, ek]
          · rw [mR_pI, mR_pI, hr']; unfold tWd; rw [if_neg (by omega)]
        · have ek : tKi x n b = 3 := by unfold tKi; rw [if_pos c0, if_neg hne, if_neg hne2, if_neg hs]
          rw [if_neg hs, if_pos rfl, zW_e, zsucc (by omega), zW_e]
          refine ⟨_, rfl, ⟨?_, ?_, ?_, fun q => by omega, fun q => by omega, ?_⟩, f0.tr ((zcT.i (by omega)).tr (zcT.i (by omega)))⟩
          · rw [mI_pI_ne (by omega), mI_pI_ne (by omega), eb]
          · rw [mI_pI_eq, en]
          · rw [mI_pI_ne (by omega), mI_pI_eq, ek]
          · rw [mR_pI, mR_pI, hr']; unfold tWd; rw [if_neg (by omega)]
      by_cases c1 : x b < 48
      · rw [if_pos c1]; exact no2 (by rw [Ne, pDi_t]; omega)
      · rw [if_neg c1, zI_t (by omega)]
        by_cases c2 : 57 < x b
        · rw [if_pos c2]; exact no2 (by rw [Ne, pDi_t]; omega)
        · have hd : pDi (x b) = true := by rw [pDi_t]; omega
          rw [if_neg c2]
          unfold Ta_takeNumber
          rw [zW_e]
          obtain ⟨M', e1, f1, g1, g2, g3, g4, g5⟩ := c_nu7 (N := N) (n := n) (x := x) (b := b) hN (n - b) 0 N (pI M1 8 0 4 0) rfl (by omega) (by omega) (h'.g (zcT.i (by omega))) (fun i hi => by omega) (fun _ => by rw [mI_pI_eq]; rfl)
          rw [Nat.add_zero] at e1 g2 g3 g4
          rw [e1, zBv_s]
          have en : tNx x n b = tE pDi x n b := by unfold tNx; rw [if_pos c0, if_neg hne, if_pos hd]
          have ek : tKi x n b = if 4 < tE pDi x n b - b then 3 else 2 := by unfold tKi; rw [if_pos c0, if_neg hne, if_pos hd]
          refine ⟨M', rfl, ⟨?_, by rw [g2, en], by rw [g3, ek], fun q => g4 (fun c4 => by rw [ek, if_pos c4] at q; omega), fun q => by rw [ek] at q; split at q <;> omega, ?_⟩, f0.tr ((zcT.i (by omega)).tr f1)⟩
          · rw [g1, mI_pI_ne (by omega), eb]
          · rw [g5, mR_pI, hr']; unfold tWd; rw [if_neg (by rw [ek]; split <;> omega)]
    by_cases c1 : x b < 97
    · rw [if_pos c1]; exact no (by rw [Ne, pLe_t]; omega)
    · rw [if_neg c1, zI_t (by omega)]
      by_cases c2 : 122 < x b
      · rw [if_pos c2]; exact no (by rw [Ne, pLe_t]; omega)
      · have hl : pLe (x b) = true := by rw [pLe_t]; omega
        rw [if_neg c2]
        unfold Ta_takeWord
        rw [zW_e]
        obtain ⟨M', e1, f1, g1, g2, g3, g4, g5⟩ := c_wd7 (N := N) (n := n) (x := x) (b := b) hN (n - b) 0 N (pL M1 8 0 5 0) rfl (by omega) (by omega) (h'.g zcT.l) (fun i hi => by omega) (fun _ => by rw [mL_pL_eq]; rfl) hr'
        rw [Nat.add_zero] at e1 g2 g3 g4 g5
        rw [e1, zBv_s]
        have en : tNx x n b = tE pLe x n b := by unfold tNx; rw [if_pos c0, if_pos hl]
        have ek : tKi x n b = if 8 < tE pLe x n b - b then 3 else 1 := by unfold tKi; rw [if_pos c0, if_pos hl]
        refine ⟨M', rfl, ⟨?_, by rw [g2, en], by rw [g3, ek], fun q => by rw [ek] at q; split at q <;> omega, fun q => g4 (fun c4 => by rw [ek, if_pos c4] at q; omega), ?_⟩, f0.tr (zcT.l.tr f1)⟩
        · rw [g1, mI_pL, eb]
        · rw [g5]
          unfold tWd
          by_cases c8 : 8 < tE pLe x n b - b
          · rw [if_pos c8, if_neg (by rw [ek, if_pos c8]; omega)]
          · rw [if_neg c8, if_pos (by rw [ek, if_neg c8])]
  · have ek : tKi x n b = 0 := by unfold tKi; rw [if_neg c0]
    rw [if_neg (by omega), zW_e, mI_pI_ne (by omega), h'.1.1, zW_e]
    refine ⟨_, rfl, ⟨?_, ?_, ?_, fun q => by omega, fun q => by omega, ?_⟩, f0.tr ((zcT.i (by omega)).tr (zcT.i (by omega)))⟩
    · rw [mI_pI_ne (by omega), mI_pI_ne (by omega), eb]
    · rw [mI_pI_eq]; unfold tNx; rw [if_neg c0]
    · rw [mI_pI_ne (by omega), mI_pI_eq, ek]
    · rw [mR_pI, mR_pI, hr']; unfold tWd; rw [if_neg (by omega)]
theorem c_pass10 (hN : 2000 ≤ N) : ∀ (f p m : Nat), n - p = f → f < m → p ≤ n → cTp n x M → zrg (mR M) 3 = none → ∃ M', Ta_pass_10 N m 0 p M = some M' ∧ CTok x n (tE pBl x n p) M' ∧ zcT M M' := by
  intro f
  induction f with
  | zero =>
    intro p m hf hm hp h hr
    obtain ⟨m, rfl⟩ : ∃ m', m = m' + 1 := ⟨m - 1, by omega⟩
    rw [Ta_pass_10, h.1.1, if_neg (by omega), tE_n (by omega)]
    exact c_pass46 hp h hN hr
  | succ f ih =>
    intro p m hf hm hp h hr
    obtain ⟨m, rfl⟩ : ∃ m', m = m' + 1 := ⟨m - 1, by omega⟩
    have h3 := h.2.2
    rw [Ta_pass_10, h.1.1, if_pos (by omega), zI_t (by omega), Int.toNat_natCast, h.1.2 p (by omega), zsucc (by omega)]
    by_cases c1 : x p = 10
    · rw [if_pos c1, zW_e, tE_y (by omega) (by rw [pBl_t]; omega)]
      exact ih (p + 1) m (by omega) (by omega) (by omega) h hr
    · rw [if_neg c1, zI_t (by omega)]
      by_cases c2 : x p = 32
      · rw [if_pos c2, zW_e, tE_y (by omega) (by rw [pBl_t]; omega)]
        exact ih (p + 1) m (by omega) (by omega) (by omega) h hr
      · rw [if_neg c2, tE_n (by rw [pBl_t]; omega)]
        exact c_pass46 hp h hN hr
/-- the class takes the next token -/
theorem c_pass (hN : 2000 ≤ N) (hp : p ≤ n) (h : cTp n x M) (h7 : mI M 8 0 7 = (p : Int)) : ∃ M', Ta_pass N 0 M = some M' ∧ CTok x n (tE pBl x n p) M' ∧ zcT M M' := by
  have h3 := h.2.2
  unfold Ta_pass
  rw [h7, zW_e, zW_e]
  obtain ⟨M', e1, t1, f1⟩ := c_pass10 (N := N) (n := n) (x := x) (M := pR M (zsr (mR M) 3 none)) hN (n - p) p N rfl (by omega) hp (h.g zcT.r) rfl
  exact ⟨M', e1, t1, zcT.r.tr f1⟩
end CPASS
