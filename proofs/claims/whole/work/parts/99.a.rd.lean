section RD
variable {N n b : Nat} {x : Nat → Int} {M M' : ZM}
/-- where the next token begins -/
def nb (x : Nat → Int) (n b : Nat) : Nat := tE pBl x n (tNx x n b)
theorem tNx_le (h : b ≤ n) : tNx x n b ≤ n := by
  unfold tNx
  by_cases c0 : b < n
  · rw [if_pos c0]
    by_cases c1 : pLe (x b) = true
    · rw [if_pos c1]; exact (tE_le h).2
    · rw [if_neg c1]
      by_cases c2 : pDi (x b) = true
      · rw [if_pos c2]; exact (tE_le h).2
      · rw [if_neg c2]; omega
  · rw [if_neg c0]; omega
theorem nb_le (h : b ≤ n) : nb x n b ≤ n := (tE_le (tNx_le h)).2
def zcF (F : Nat → Nat → Nat → Prop) (M M' : ZM) : Prop := mK M' = mK M ∧ (∀ k, k < 3 → zrg (mR M') k = zrg (mR M) k) ∧ (∀ t i k, ¬ F t i k → mI M' t i k = mI M t i k) ∧ (∀ t i k, ¬ (t = 8 ∧ i = 0 ∧ k = 5) → ¬ F t i k → mL M' t i k = mL M t i k)
def zrF (F : Nat → Nat → Nat → Prop) (M M' : ZM) : Prop := mK M' = mK M ∧ mR M' = mR M ∧ (∀ t i k, ¬ F t i k → mI M' t i k = mI M t i k) ∧ (∀ t i k, ¬ (t = 11 ∧ i = 0 ∧ k = 7) → ¬ F t i k → mL M' t i k = mL M t i k)
theorem zcF.rf {F : Nat → Nat → Nat → Prop} (M : ZM) : zcF F M M := ⟨rfl, fun _ _ => rfl, fun _ _ _ _ => rfl, fun _ _ _ _ _ => rfl⟩
theorem zcF.tr {F : Nat → Nat → Nat → Prop} {M M1 M2 : ZM} (h : zcF F M M1) (h' : zcF F M1 M2) : zcF F M M2 := ⟨h'.1.trans h.1, fun k hk => (h'.2.1 k hk).trans (h.2.1 k hk), fun t i k e => (h'.2.2.1 t i k e).trans (h.2.2.1 t i k e), fun t i k a e => (h'.2.2.2 t i k a e).trans (h.2.2.2 t i k a e)⟩
theorem zcF.mo {F F' : Nat → Nat → Nat → Prop} (h : zcF F M M') (hf : ∀ t i k, F t i k → F' t i k) : zcF F' M M' := ⟨h.1, h.2.1, fun t i k e => h.2.2.1 t i k (fun q => e (hf t i k q)), fun t i k a e => h.2.2.2 t i k a (fun q => e (hf t i k q))⟩
theorem zcF.p {F : Nat → Nat → Nat → Prop} {t i k : Nat} {v : Int} (h : F t i k) : zcF F M (pI M t i k v) := ⟨rfl, fun _ _ => rfl, fun t' i' k' e => mI_pI_ne (by rintro ⟨rfl, rfl, rfl⟩; exact e h), fun _ _ _ _ _ => rfl⟩
theorem zrF.rf {F : Nat → Nat → Nat → Prop} (M : ZM) : zrF F M M := ⟨rfl, rfl, fun _ _ _ _ => rfl, fun _ _ _ _ _ => rfl⟩
theorem zrF.tr {F : Nat → Nat → Nat → Prop} {M M1 M2 : ZM} (h : zrF F M M1) (h' : zrF F M1 M2) : zrF F M M2 := ⟨h'.1.trans h.1, h'.2.1.trans h.2.1, fun t i k e => (h'.2.2.1 t i k e).trans (h.2.2.1 t i k e), fun t i k a e => (h'.2.2.2 t i k a e).trans (h.2.2.2 t i k a e)⟩
theorem zrF.mo {F F' : Nat → Nat → Nat → Prop} (h : zrF F M M') (hf : ∀ t i k, F t i k → F' t i k) : zrF F' M M' := ⟨h.1, h.2.1, fun t i k e => h.2.2.1 t i k (fun q => e (hf t i k q)), fun t i k a e => h.2.2.2 t i k a (fun q => e (hf t i k q))⟩
theorem zrF.p {F : Nat → Nat → Nat → Prop} {t i k : Nat} {v : Int} (h : F t i k) : zrF F M (pI M t i k v) := ⟨rfl, rfl, fun t' i' k' e => mI_pI_ne (by rintro ⟨rfl, rfl, rfl⟩; exact e h), fun _ _ _ _ _ => rfl⟩
/-- the cells of the class's reader -/
def fRd (t i k : Nat) : Prop := (t = 8 ∧ i = 0 ∧ (k = 2 ∨ k = 3 ∨ k = 4 ∨ k = 7)) ∨ (t = 5 ∧ i = 0 ∧ 3 ≤ k ∧ k ≤ 5)
/-- and of the reference's -/
def fRr (t i k : Nat) : Prop := t = 11 ∧ i = 0 ∧ (k = 4 ∨ k = 5 ∨ k = 6 ∨ k = 8 ∨ k = 9 ∨ k = 35)
theorem zcT.f (h : zcT M M') : zcF fRd M M' := ⟨h.1, h.2.1, fun t i k e => h.2.2.1 t i k (fun q => e (.inl q)), fun t i k a _ => h.2.2.2 t i k a⟩
theorem zrT.f (h : zrT M M') : zrF fRr M M' := ⟨h.1, h.2.1, fun t i k e => h.2.2.1 t i k (fun q => e ⟨q.1, q.2.1, by omega⟩), fun t i k a _ => h.2.2.2 t i k a⟩
def CRd (x : Nat → Int) (n b : Nat) (M : ZM) : Prop := cTp n x M ∧ CTok x n b M ∧ b ≤ n ∧ mI M 5 0 3 = 0
def RRd (x : Nat → Int) (n b : Nat) (M : ZM) : Prop := rTp n x M ∧ RTok x n b M ∧ b ≤ n
/-- what a reading step comes to: an error, or the next place and what it gave -/
abbrev RO : Type := Int ⊕ (Nat × Int)
def eC (e : Int) (b : Nat) : RO := .inl (e + 16 * (b : Int))
def CO (x : Nat → Int) (n : Nat) (F : Nat → Nat → Nat → Prop) (Q : Int → ZM → Prop) (M : ZM) (o : RO) (r : Option (Int × ZM)) : Prop := match o with
  | .inl e => ∃ M', r = some (0, M') ∧ mI M' 5 0 3 = e ∧ e ≠ 0 ∧ cTp n x M' ∧ zcF F M M'
  | .inr (b', v) => ∃ M', r = some (1, M') ∧ CRd x n b' M' ∧ Q v M' ∧ zcF F M M'
def RO' (x : Nat → Int) (n : Nat) (F : Nat → Nat → Nat → Prop) (Q : Int → ZM → Prop) (M : ZM) (o : RO) (r : Option (Int × ZM)) : Prop := match o with
  | .inl e => ∃ M', r = some (0, M') ∧ mI M' 11 0 9 = e ∧ rTp n x M' ∧ zrF F M M'
  | .inr (b', v) => ∃ M', r = some (1, M') ∧ RRd x n b' M' ∧ Q v M' ∧ zrF F M M'
theorem CRd.pass (h : CRd x n b M) (hN : 2000 ≤ N) : ∃ M', Ta_pass N 0 M = some M' ∧ CRd x n (nb x n b) M' ∧ zcT M M' := by
  obtain ⟨h1, h2, h3, h4⟩ := h
  obtain ⟨M', e, t, f⟩ := c_pass hN (tNx_le h3) h1 h2.2.1
  exact ⟨M', e, ⟨h1.g f, t, nb_le h3, (f.2.2.1 _ _ _ (by omega)).trans h4⟩, f⟩
theorem RRd.pass (h : RRd x n b M) (hN : 2000 ≤ N) : ∃ M', Mo_nextToken N 0 M = some M' ∧ RRd x n (nb x n b) M' ∧ zrT M M' := by
  obtain ⟨h1, h2, h3⟩ := h
  obtain ⟨M', e, t, f⟩ := r_pass hN (tNx_le h3) h1 h2.2.1
  exact ⟨M', e, ⟨h1.g f, t, nb_le h3⟩, f⟩
theorem ze16 {e : Int} (he : 1 ≤ e ∧ e ≤ 15) {b : Nat} (hb : b ≤ 1000) : z32 (e + z32 (16 * (b : Int))) = e + 16 * (b : Int) := by
  rw [zs (x := 16 * (b : Int)) (by omega), zs (by omega)]
theorem zb10 : z_b1 0 = 0 := rfl
theorem zb11 : z_b1 1 = 1 := rfl
theorem c_fail {e : Int} (he : 1 ≤ e ∧ e ≤ 15) (h : CRd x n b M) : ∃ M', Re_fail N 0 e M = some (0, M') ∧ mI M' 5 0 3 = e + 16 * (b : Int) ∧ e + 16 * (b : Int) ≠ 0 ∧ cTp n x M' ∧ zcF fRd M M' := by
  obtain ⟨h1, h2, h3, h4⟩ := h
  have hn := h1.2.2
  unfold Re_fail
  rw [h2.1, ze16 he (by omega), zW_e]
  exact ⟨_, rfl, mI_pI_eq, by omega, ⟨⟨(mI_pI_ne (by omega)).trans h1.1.1, fun k hk => (mI_pI_ne (by omega)).trans (h1.1.2 k hk)⟩, h1.2.1.e rfl, hn⟩, zcF.p (.inr (by omega))⟩
theorem r_fails {e : Int} (he : 1 ≤ e ∧ e ≤ 15) (h : RRd x n b M) : ∃ M', Mo_fails N 0 e M = some (0, M') ∧ mI M' 11 0 9 = e + 16 * (b : Int) ∧ rTp n x M' ∧ zrF fRr M M' := by
  obtain ⟨h1, h2, h3⟩ := h
  have hn := h1.2.2
  unfold Mo_fails
  rw [h2.1, ze16 he (by omega), zW_e]
  exact ⟨_, rfl, mI_pI_eq, ⟨(mI_pI_ne (by omega)).trans h1.1, fun k hk => (mI_pI_ne (by omega)).trans (h1.2.1 k hk), hn⟩, zrF.p ⟨rfl, rfl, by omega⟩⟩
def oSign (x : Nat → Int) (n b : Nat) (c : Int) : RO := if tKi x n b = c then .inr (nb x n b, 0) else eC 1 b
theorem c_passSign {c : Int} (h : CRd x n b M) (hN : 2000 ≤ N) : CO x n fRd (fun _ M' => zcT M M') M (oSign x n b c) (Re_passSign N 0 c M) := by
  unfold Re_passSign oSign
  rw [h.2.1.2.2.1]
  by_cases e : tKi x n b = c
  · rw [if_pos e, if_pos e]
    obtain ⟨M', e1, t, f⟩ := h.pass hN
    rw [e1, zBv_s]
    exact ⟨M', rfl, t, f, f.f⟩
  · rw [if_neg e, if_neg e]
    obtain ⟨M', e1, g⟩ := c_fail (N := N) (e := 1) (by omega) h
    rw [e1, zB_s, zb10]
    exact ⟨M', rfl, g⟩
theorem r_closes (h : RRd x n b M) (hN : 2000 ≤ N) : RO' x n fRr (fun _ M' => zrT M M') M (oSign x n b 59) (Mo_closes N 0 M) := by
  unfold Mo_closes oSign
  rw [r_isSign (by omega) h.2.1 h.1, zB_s]
  by_cases e : tKi x n b = 59
  · rw [if_pos e, if_pos e, if_neg (by decide)]
    obtain ⟨M', e1, t, f⟩ := h.pass hN
    rw [e1, zBv_s]
    exact ⟨M', rfl, t, f, f.f⟩
  · rw [if_neg e, if_neg e, if_pos rfl]
    obtain ⟨M', e1, g⟩ := r_fails (N := N) (e := 1) (by omega) h
    rw [e1, zB_s, zb10]
    exact ⟨M', rfl, g⟩
end RD
