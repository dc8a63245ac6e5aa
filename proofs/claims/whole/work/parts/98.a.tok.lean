section TOK
variable {N n p : Nat} {x : Nat → Int} {P : Int → Bool} {M M' : ZM}
/-- how far a run of signs goes -/
def tRun (P : Int → Bool) (x : Nat → Int) : Nat → Nat → Nat
  | 0, p => p
  | f + 1, p => if P (x p) then tRun P x f (p + 1) else p
def tE (P : Int → Bool) (x : Nat → Int) (n p : Nat) : Nat := tRun P x (n - p) p
theorem tE_y (h : p < n) (hp : P (x p) = true) : tE P x n p = tE P x n (p + 1) := by
  unfold tE
  rw [show n - p = (n - (p + 1)) + 1 by omega, tRun, if_pos hp]
theorem tE_n (h : ¬ (p < n ∧ P (x p) = true)) : tE P x n p = p := by
  unfold tE
  by_cases e : p < n
  · rw [show n - p = (n - (p + 1)) + 1 by omega, tRun, if_neg (fun q => h ⟨e, q⟩)]
  · rw [show n - p = 0 by omega, tRun]
theorem tE_b : ∀ (k p : Nat), n - p = k → p ≤ n → p ≤ tE P x n p ∧ tE P x n p ≤ n := by
  intro k
  induction k with
  | zero => intro p h hp; rw [tE_n (by omega)]; omega
  | succ k ih =>
    intro p h hp
    by_cases e : P (x p) = true
    · rw [tE_y (by omega) e]; have := ih (p + 1) (by omega) (by omega); omega
    · rw [tE_n (fun q => e q.2)]; omega
theorem tE_le (hp : p ≤ n) : p ≤ tE P x n p ∧ tE P x n p ≤ n := tE_b (n - p) p rfl hp
theorem tE_at : ∀ (k p : Nat), n - p = k → p ≤ n → tE P x n p < n → P (x (tE P x n p)) = false := by
  intro k
  induction k with
  | zero => intro p h hp hl; rw [tE_n (by omega)] at hl; omega
  | succ k ih =>
    intro p h hp hl
    by_cases e : P (x p) = true
    · rw [tE_y (by omega) e] at hl ⊢; exact ih (p + 1) (by omega) (by omega) hl
    · rw [tE_n (fun q => e q.2)]; simpa using e
theorem tE_in : ∀ (k p : Nat), n - p = k → p ≤ n → ∀ j, p ≤ j → j < tE P x n p → P (x j) = true := by
  intro k
  induction k with
  | zero => intro p h hp j h1 h2; rw [tE_n (by omega)] at h2; omega
  | succ k ih =>
    intro p h hp j h1 h2
    by_cases e : P (x p) = true
    · by_cases ej : j = p
      · rw [ej]; exact e
      · rw [tE_y (by omega) e] at h2; exact ih (p + 1) (by omega) (by omega) j (by omega) h2
    · rw [tE_n (fun q => e q.2)] at h2; omega
def pBl (c : Int) : Bool := decide (c = 10) || decide (c = 32)
def pLe (c : Int) : Bool := decide (97 ≤ c) && decide (c ≤ 122)
def pDi (c : Int) : Bool := decide (48 ≤ c) && decide (c ≤ 57)
def pSi (c : Int) : Bool := decide (40 ≤ c ∧ c ≤ 43) || decide (c = 45) || decide (59 ≤ c ∧ c ≤ 61)
/-- a word's key, a number's worth -/
def tK (B : Int) (x : Nat → Int) (b : Nat) : Nat → Int
  | 0 => 0
  | j + 1 => tK B x b j * B + (x (b + j) - 96)
def tV (x : Nat → Int) (b : Nat) : Nat → Int
  | 0 => 0
  | j + 1 => tV x b j * 10 + (x (b + j) - 48)
def tKi (x : Nat → Int) (n b : Nat) : Int := if b < n then (if pLe (x b) then (if 8 < tE pLe x n b - b then 3 else 1) else if pDi (x b) then (if 4 < tE pDi x n b - b then 3 else 2) else if pSi (x b) then x b else 3) else 0
def tNx (x : Nat → Int) (n b : Nat) : Nat := if b < n then (if pLe (x b) then tE pLe x n b else if pDi (x b) then tE pDi x n b else b + 1) else n
def tFd (k : Int) : Nat → Nat → Option Nat
  | 0, _ => none
  | f + 1, i => if zkey i = k then some i else tFd k f (i + 1)
def tWd (x : Nat → Int) (n b : Nat) : Option Nat := if tKi x n b = 1 then tFd (tK 32 x b (tE pLe x n b - b)) 30 0 else none
/-- the class's memory shows the token at b -/
def CTok (x : Nat → Int) (n b : Nat) (M : ZM) : Prop := mI M 8 0 3 = (b : Int) ∧ mI M 8 0 7 = (tNx x n b : Int) ∧ mI M 8 0 2 = tKi x n b ∧ (tKi x n b = 2 → mI M 8 0 4 = tV x b (tE pDi x n b - b)) ∧ (tKi x n b = 1 → mL M 8 0 5 = tK 32 x b (tE pLe x n b - b)) ∧ zrg (mR M) 3 = tWd x n b
/-- the reference's -/
def RTok (x : Nat → Int) (n b : Nat) (M : ZM) : Prop := mI M 11 0 5 = (b : Int) ∧ mI M 11 0 4 = (tNx x n b : Int) ∧ mI M 11 0 6 = (if tKi x n b = 3 then 4 else if 3 < tKi x n b then 3 else tKi x n b) ∧ (tKi x n b = 2 → mI M 11 0 8 = tV x b (tE pDi x n b - b)) ∧ (tKi x n b = 1 → mL M 11 0 7 = tK 27 x b (tE pLe x n b - b))
def zcT (M M' : ZM) : Prop := mK M' = mK M ∧ (∀ k, k < 3 → zrg (mR M') k = zrg (mR M) k) ∧ (∀ t i k, ¬ (t = 8 ∧ i = 0 ∧ (k = 2 ∨ k = 3 ∨ k = 4 ∨ k = 7)) → mI M' t i k = mI M t i k) ∧ (∀ t i k, ¬ (t = 8 ∧ i = 0 ∧ k = 5) → mL M' t i k = mL M t i k)
def zrT (M M' : ZM) : Prop := mK M' = mK M ∧ mR M' = mR M ∧ (∀ t i k, ¬ (t = 11 ∧ i = 0 ∧ (k = 4 ∨ k = 5 ∨ k = 6 ∨ k = 8)) → mI M' t i k = mI M t i k) ∧ (∀ t i k, ¬ (t = 11 ∧ i = 0 ∧ k = 7) → mL M' t i k = mL M t i k)
theorem zcT.rf (M : ZM) : zcT M M := ⟨rfl, fun _ _ => rfl, fun _ _ _ _ => rfl, fun _ _ _ _ => rfl⟩
theorem zcT.tr {M M1 M2 : ZM} (h : zcT M M1) (h' : zcT M1 M2) : zcT M M2 := ⟨h'.1.trans h.1, fun k hk => (h'.2.1 k hk).trans (h.2.1 k hk), fun t i k e => (h'.2.2.1 t i k e).trans (h.2.2.1 t i k e), fun t i k e => (h'.2.2.2 t i k e).trans (h.2.2.2 t i k e)⟩
theorem zrT.rf (M : ZM) : zrT M M := ⟨rfl, rfl, fun _ _ _ _ => rfl, fun _ _ _ _ => rfl⟩
theorem zrT.tr {M M1 M2 : ZM} (h : zrT M M1) (h' : zrT M1 M2) : zrT M M2 := ⟨h'.1.trans h.1, h'.2.1.trans h.2.1, fun t i k e => (h'.2.2.1 t i k e).trans (h.2.2.1 t i k e), fun t i k e => (h'.2.2.2 t i k e).trans (h.2.2.2 t i k e)⟩
theorem zcT.i {k : Nat} {v : Int} (hk : k = 2 ∨ k = 3 ∨ k = 4 ∨ k = 7) : zcT M (pI M 8 0 k v) := ⟨rfl, fun _ _ => rfl, fun _ _ _ e => mI_pI_ne (by omega), fun _ _ _ _ => rfl⟩
theorem zcT.l {v : Int} : zcT M (pL M 8 0 5 v) := ⟨rfl, fun _ _ => rfl, fun _ _ _ _ => rfl, fun _ _ _ e => if_neg e⟩
theorem zcT.r {o : Option Nat} : zcT M (pR M (zsr (mR M) 3 o)) := ⟨rfl, fun k hk => by
  have : k = 0 ∨ k = 1 ∨ k = 2 := by omega
  rcases this with rfl | rfl | rfl <;> rfl, fun _ _ _ _ => rfl, fun _ _ _ _ => rfl⟩
theorem zrT.i {k : Nat} {v : Int} (hk : k = 4 ∨ k = 5 ∨ k = 6 ∨ k = 8) : zrT M (pI M 11 0 k v) := ⟨rfl, rfl, fun _ _ _ e => mI_pI_ne (by omega), fun _ _ _ _ => rfl⟩
theorem zrT.l {v : Int} : zrT M (pL M 11 0 7 v) := ⟨rfl, rfl, fun _ _ _ _ => rfl, fun _ _ _ e => if_neg e⟩
theorem KM.key (h : KM M) {i k : Nat} : mKL M 12 i k = zkey i := by
  obtain ⟨sl, sx, h⟩ := h
  exact congrArg (fun K : ZK => K.2.2.2.1 12 i k) h
theorem tK_le {B : Int} (hB : B = 27 ∨ B = 32) {b : Nat} : ∀ j, j ≤ 8 → (∀ i, i < j → 97 ≤ x (b + i) ∧ x (b + i) ≤ 122) → 0 ≤ tK B x b j ∧ tK B x b j < 32 ^ j := by
  intro j
  induction j with
  | zero => intro _ _; exact ⟨by simp [tK], by simp [tK]⟩
  | succ j ih =>
    intro hj hx
    have h1 := ih (by omega) (fun i hi => hx i (by omega))
    have h2 := hx j (by omega)
    rw [tK, Int.pow_succ]
    generalize tK B x b j = u at *
    generalize (32 : Int) ^ j = w at *
    rcases hB with rfl | rfl <;> omega
theorem tV_le {b : Nat} : ∀ j, j ≤ 4 → (∀ i, i < j → 48 ≤ x (b + i) ∧ x (b + i) ≤ 57) → 0 ≤ tV x b j ∧ tV x b j < 10 ^ j := by
  intro j
  induction j with
  | zero => intro _ _; exact ⟨by simp [tV], by simp [tV]⟩
  | succ j ih =>
    intro hj hx
    have h1 := ih (by omega) (fun i hi => hx i (by omega))
    have h2 := hx j (by omega)
    rw [tV, Int.pow_succ]
    generalize tV x b j = u at *
    generalize (10 : Int) ^ j = w at *
    omega
end TOK
