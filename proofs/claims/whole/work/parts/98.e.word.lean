section WORD
variable {N n b : Nat} {x : Nat → Int} {M M' : ZM}
/-- from the one kind of key to the other -/
def zfi : Nat → Int → Int
  | 0, _ => 0
  | f + 1, k => if k = 0 then 0 else zfi f (k / 32) * 27 + k % 32
def zps : Nat → Int → Int
  | 0, _ => 0
  | f + 1, k => if k = 0 then 0 else zps f (k / 27) * 32 + k % 27
theorem tK_fi : ∀ (j f : Nat), j ≤ f → j ≤ 8 → (∀ i, i < j → 97 ≤ x (b + i) ∧ x (b + i) ≤ 122) → zfi f (tK 32 x b j) = tK 27 x b j := by
  intro j
  induction j with
  | zero => intro f _ _ _; cases f <;> simp [zfi, tK]
  | succ j ih =>
    intro f hf h8 hx
    obtain ⟨f, rfl⟩ : ∃ f', f = f' + 1 := ⟨f - 1, by omega⟩
    have h1 := tK_le (x := x) (B := 32) (.inr rfl) (b := b) j (by omega) (fun i hi => hx i (by omega))
    have h2 := hx j (by omega)
    have h3 := ih f (by omega) (by omega) (fun i hi => hx i (by omega))
    rw [tK, tK, zfi]
    generalize tK 32 x b j = u at *
    generalize x (b + j) = y at *
    rw [if_neg (by omega), show (u * 32 + (y - 96)) / 32 = u by omega, show (u * 32 + (y - 96)) % 32 = y - 96 by omega, h3]
theorem tK_ps : ∀ (j f : Nat), j ≤ f → j ≤ 8 → (∀ i, i < j → 97 ≤ x (b + i) ∧ x (b + i) ≤ 122) → zps f (tK 27 x b j) = tK 32 x b j := by
  intro j
  induction j with
  | zero => intro f _ _ _; cases f <;> simp [zps, tK]
  | succ j ih =>
    intro f hf h8 hx
    obtain ⟨f, rfl⟩ : ∃ f', f = f' + 1 := ⟨f - 1, by omega⟩
    have h1 := tK_le (x := x) (B := 27) (.inl rfl) (b := b) j (by omega) (fun i hi => hx i (by omega))
    have h2 := hx j (by omega)
    have h3 := ih f (by omega) (by omega) (fun i hi => hx i (by omega))
    rw [tK, tK, zps]
    generalize tK 27 x b j = u at *
    generalize x (b + j) = y at *
    rw [if_neg (by omega), show (u * 27 + (y - 96)) / 27 = u by omega, show (u * 27 + (y - 96)) % 27 = y - 96 by omega, h3]
/-- a name in both kinds of key -/
def zNm (a c : Int) : Prop := c = zfi 8 a ∧ zps 8 c = a
/-- the word's own keys -/
def wC (x : Nat → Int) (n b : Nat) : Int := tK 32 x b (tE pLe x n b - b)
def wR (x : Nat → Int) (n b : Nat) : Int := tK 27 x b (tE pLe x n b - b)
theorem tKi_1 (h : tKi x n b = 1) : b < n ∧ pLe (x b) = true ∧ tE pLe x n b - b ≤ 8 ∧ ∀ i, i < tE pLe x n b - b → 97 ≤ x (b + i) ∧ x (b + i) ≤ 122 := by
  unfold tKi at h
  by_cases c0 : b < n
  · rw [if_pos c0] at h
    by_cases c1 : pLe (x b) = true
    · rw [if_pos c1] at h
      by_cases c2 : 8 < tE pLe x n b - b
      · rw [if_pos c2] at h; omega
      · refine ⟨c0, c1, by omega, fun i hi => ?_⟩
        have := tE_in (P := pLe) (x := x) (n := n) (n - b) b rfl (by omega) (b + i) (by omega) (by omega)
        rwa [pLe_t] at this
    · rw [if_neg c1] at h
      by_cases c2 : pDi (x b) = true
      · rw [if_pos c2] at h; split at h <;> omega
      · rw [if_neg c2] at h
        by_cases c3 : pSi (x b) = true
        · rw [if_pos c3] at h; rw [pSi_t] at c3; omega
        · rw [if_neg c3] at h; omega
  · rw [if_neg c0] at h; omega
theorem wCR (h : tKi x n b = 1) : zNm (wC x n b) (wR x n b) := by
  obtain ⟨_, _, h8, hx⟩ := tKi_1 h
  exact ⟨(tK_fi _ 8 h8 h8 hx).symm, tK_ps _ 8 h8 h8 hx⟩
theorem zNm.iff {a c a' c' : Int} (h : zNm a c) (h' : zNm a' c') : a = a' ↔ c = c' := by
  constructor
  · rintro rfl; rw [h.1, h'.1]
  · rintro rfl; rw [← h.2, h'.2]
theorem zNm_k : ∀ i : Nat, i < 30 → zps 8 (zfi 8 (zkey i)) = zkey i ∧ tFd (zkey i) 30 0 = some i := by decide +kernel
theorem tFd_s {k : Int} : ∀ (f i j : Nat), tFd k f i = some j → zkey j = k ∧ j < i + f := by
  intro f
  induction f with
  | zero => intro i j h; cases h
  | succ f ih =>
    intro i j h
    rw [tFd] at h
    by_cases e : zkey i = k
    · rw [if_pos e] at h; cases h; exact ⟨e, by omega⟩
    · rw [if_neg e] at h; have := ih (i + 1) j h; exact ⟨this.1, by omega⟩
/-- which word it is, by the reference's key -/
theorem tWd_iff {i : Nat} (hi : i < 30) : tWd x n b = some i ↔ tKi x n b = 1 ∧ wR x n b = zfi 8 (zkey i) := by
  unfold tWd
  have hk := zNm_k i hi
  constructor
  · intro h
    by_cases c : tKi x n b = 1
    · rw [if_pos c] at h
      have := (tFd_s 30 0 i h).1
      exact ⟨c, ((wCR c).iff ⟨rfl, hk.1⟩).1 this.symm⟩
    · rw [if_neg c] at h; cases h
  · rintro ⟨c, h⟩
    rw [if_pos c]
    have : wC x n b = zkey i := ((wCR c).iff ⟨rfl, hk.1⟩).2 h
    show tFd (wC x n b) 30 0 = some i
    rw [this]; exact hk.2
theorem RTok.w1 (h : RTok x n b M) : mI M 11 0 6 = 1 ↔ tKi x n b = 1 := by
  rw [h.2.2.1]
  by_cases c : tKi x n b = 3
  · rw [if_pos c]; omega
  · rw [if_neg c]
    by_cases c2 : 3 < tKi x n b
    · rw [if_pos c2]; omega
    · rw [if_neg c2]
theorem RTok.w2 (h : RTok x n b M) : mI M 11 0 6 = 2 ↔ tKi x n b = 2 := by
  rw [h.2.2.1]
  by_cases c : tKi x n b = 3
  · rw [if_pos c]; omega
  · rw [if_neg c]
    by_cases c2 : 3 < tKi x n b
    · rw [if_pos c2]; omega
    · rw [if_neg c2]
theorem z_lcmp0 {a c : Int} : z_lcmp a c = 0 ↔ a = c := by
  unfold z_lcmp
  by_cases h : a < c
  · rw [if_pos h]; omega
  · rw [if_neg h]
    by_cases e : a = c
    · rw [if_pos e]; exact ⟨fun _ => e, fun _ => rfl⟩
    · rw [if_neg e]; exact ⟨fun q => by omega, fun q => absurd q e⟩
theorem r_isWord {c : Int} (i : Nat) (hi : i < 30) (hc : zfi 8 (zkey i) = c) (h : RTok x n b M) : Mo_isWord N 0 c M = some (if tWd x n b = some i then 1 else 0, M) := by
  unfold Mo_isWord
  have hw := tWd_iff (x := x) (n := n) (b := b) hi
  rw [hc] at hw
  by_cases c1 : tKi x n b = 1
  · rw [if_pos (h.w1.2 c1), h.2.2.2.2 c1]
    show (if z_lcmp (wR x n b) c = 0 then some (1, M) else some (0, M)) = _
    by_cases c2 : wR x n b = c
    · rw [if_pos (z_lcmp0.2 c2), if_pos (hw.2 ⟨c1, c2⟩)]
    · rw [if_neg (fun q => c2 (z_lcmp0.1 q)), if_neg (fun q => c2 (hw.1 q).2)]
  · rw [if_neg (fun q => c1 (h.w1.1 q)), if_neg (fun q => c1 (hw.1 q).1)]
theorem tKi_s (h : 3 < tKi x n b) : b < n ∧ tKi x n b = x b := by
  unfold tKi at h ⊢
  by_cases c0 : b < n
  · rw [if_pos c0] at h ⊢
    by_cases c1 : pLe (x b) = true
    · rw [if_pos c1] at h; split at h <;> omega
    · rw [if_neg c1] at h ⊢
      by_cases c2 : pDi (x b) = true
      · rw [if_pos c2] at h; split at h <;> omega
      · rw [if_neg c2] at h ⊢
        by_cases c3 : pSi (x b) = true
        · rw [if_pos c3]; exact ⟨c0, rfl⟩
        · rw [if_neg c3] at h; omega
  · rw [if_neg c0] at h; omega
theorem tKi_b : 0 ≤ tKi x n b := by
  unfold tKi
  by_cases c0 : b < n
  · rw [if_pos c0]
    by_cases c1 : pLe (x b) = true
    · rw [if_pos c1]; split <;> omega
    · rw [if_neg c1]
      by_cases c2 : pDi (x b) = true
      · rw [if_pos c2]; split <;> omega
      · rw [if_neg c2]
        by_cases c3 : pSi (x b) = true
        · rw [if_pos c3]; rw [pSi_t] at c3; omega
        · rw [if_neg c3]; omega
  · rw [if_neg c0]; omega
theorem r_isSign {c : Int} (hc : 3 < c) (h : RTok x n b M) (ht : rTp n x M) : Mo_isSign N 0 c M = some (if tKi x n b = c then 1 else 0, M) := by
  unfold Mo_isSign
  have h3 := ht.2.2
  by_cases c1 : 3 < tKi x n b
  · have hs := tKi_s c1
    have e6 : mI M 11 0 6 = 3 := by rw [h.2.2.1, if_neg (by omega), if_pos c1]
    rw [if_pos e6, h.1, zI_t (by omega), Int.toNat_natCast, ht.2.1 b hs.1, ← hs.2]
    by_cases e : tKi x n b = c
    · rw [if_pos e, if_pos e]
    · rw [if_neg e, if_neg e]
  · have : ¬ mI M 11 0 6 = 3 := by
      rw [h.2.2.1]
      by_cases e : tKi x n b = 3
      · rw [if_pos e]; omega
      · rw [if_neg e, if_neg c1]; exact e
    rw [if_neg this, if_neg (by omega)]
/-- a word that may name a turbine -/
def tNm (x : Nat → Int) (n b : Nat) : Prop := tKi x n b = 1 ∧ ∀ i, i < 26 → tWd x n b ≠ some i
theorem KM.fr (h : KM M) {i : Nat} : mKI M 12 i 0 = if 26 ≤ i then 1 else 0 := by
  obtain ⟨sl, sx, h⟩ := h
  exact congrArg (fun K : ZK => K.2.2.1 12 i 0) h
theorem c_isName (hk : KM M) (h : CTok x n b M) : ∃ v, Re_isName N 0 M = some (v, M) ∧ ((v = 1 ∧ tNm x n b) ∨ (v = 0 ∧ ¬ tNm x n b)) := by
  unfold Re_isName
  rw [zW_e, h.2.2.1, h.2.2.2.2.2]
  by_cases c1 : tKi x n b = 1
  · rw [if_pos c1]
    cases hw : tWd x n b with
    | none => rw [zN_n]; exact ⟨1, rfl, .inl ⟨rfl, c1, fun i _ => by rw [hw]; simp⟩⟩
    | some w =>
      rw [zN_s, hk.fr]
      by_cases c2 : 26 ≤ w
      · rw [if_pos c2, if_neg (by decide)]
        exact ⟨1, rfl, .inl ⟨rfl, c1, fun i hi => by rw [hw]; simp; omega⟩⟩
      · rw [if_neg c2, if_pos rfl]
        exact ⟨0, rfl, .inr ⟨rfl, fun q => q.2 w (by omega) hw⟩⟩
  · rw [if_neg c1]
    exact ⟨0, rfl, .inr ⟨rfl, fun q => c1 q.1⟩⟩
end WORD
