/-! All of it: park, state, lines, sights, marks, past, tape. -/
abbrev MK : Type := SK × List Int × List Int
abbrev AK : Type := PK × SK × List Int × List Int × (Nat → Option MK) × List SK × Nat × (Nat → Int)
def aP (A : AK) : PK := A.1
def aS (A : AK) : SK := A.2.1
def aL (A : AK) : List Int := A.2.2.1
def aV (A : AK) : List Int := A.2.2.2.1
def aM (A : AK) : Nat → Option MK := A.2.2.2.2.1
def aH (A : AK) : List SK := A.2.2.2.2.2.1
def aT (A : AK) : Nat := A.2.2.2.2.2.2.1
def aX (A : AK) : Nat → Int := A.2.2.2.2.2.2.2
/-- is t turned for o (0: all) -/
def mOwn (P : PK) (o : Int) (t : Nat) : Bool := decide (o = 0) || decide (qT P 2 t = o)
def mPut (A : Nat → Int) (k : Nat) (x : Int) : Nat → Int := fun t => if t = k then x else A t
/-- row v of angles -/
def mDg (P : PK) (o : Int) : Nat → Nat → (Nat → Int) → (Nat → Int)
  | 0, _, A => A
  | k + 1, v, A => if mOwn P o k then mDg P o k (v / 5) (mPut A k ((v % 5 : Nat) : Int)) else mDg P o k v A
def mRw (P : PK) (o : Int) : Nat → Nat
  | 0 => 1
  | k + 1 => mRw P o k * (if mOwn P o k then 5 else 1)
def sWA (S : SK) (A : Nat → Int) : SK := (A, S.2)
def mVal (P : PK) (S : SK) (o : Int) (A : Nat → Int) : Int := if o = 0 then mSold P (sWA S A) else zsum (fun t => if qT P 2 t = o then mPow P (sWA S A) (mFr P S) (mBl P S) t else 0) (qN P)
def mBst (P : PK) (S : SK) (o : Int) : Nat → Int × Nat
  | 0 => (-1000000, 0)
  | n + 1 => if (mBst P S o n).1 < mVal P S o (mDg P o (qN P) n (sA S)) then (mVal P S o (mDg P o (qN P) n (sA S)), n) else mBst P S o n
def mMost (P : PK) (S : SK) (o : Int) : Int := (mBst P S o (mRw P o (qN P))).1
def mRowB (P : PK) (S : SK) (o : Int) : Nat → Int := mDg P o (qN P) (mBst P S o (mRw P o (qN P))).2 (sA S)
/-- a list of the class -/
def CN (q : Nat) (l : List Int) (M : ZM) : Prop := mI M 3 q 1 = (l.length : Int) ∧ ∀ i, (h : i < l.length) → mI M 26 q i = l[i]
def CM (M : ZM) (m : Nat) (x : Option MK) : Prop := (x = none ∧ mI M 2 m 3 = 0) ∨ ∃ y, x = some y ∧ mI M 2 m 3 = 1 ∧ CS (18 + m) y.1 M ∧ CN (15 + 2 * m) y.2.1 M ∧ CN (16 + 2 * m) y.2.2 M
def CHi (H : List SK) (M : ZM) : Prop := ∃ q : Nat, q < 16 ∧ mI M 10 0 7 = (q : Int) ∧ mI M 10 0 8 = (H.length : Int) ∧ ∀ j, (h : j < H.length) → CS (2 + (q + 15 - j) % 16) H[j] M
def CSe (P : PK) (S : SK) (M : ZM) : Prop := ∀ o, o < 3 → (∀ j, j < 6 → mI M 39 o j = 0) ∧ (mI M 6 o 2 = 0 ∨ (mI M 6 o 2 = 1 ∧ mI M 6 o 1 = mMost P S o ∧ ∀ k, k < qN P → mI M 33 o k = mRowB P S o k))
def CTp (n : Nat) (x : Nat → Int) (M : ZM) : Prop := mI M 8 0 1 = (n : Int) ∧ ∀ k, k < n → mI M 42 0 k = x k
def CR (p : Nat) (M : ZM) : Prop := zrg (mR M) 0 = some p ∧ zrg (mR M) 1 = some (1 - p)
def CA (A : AK) (M : ZM) : Prop := KM M ∧ (∃ p, CR p M ∧ CP p (aP A) M) ∧ CS 0 (aS A) M ∧ CN 13 (aL A) M ∧ CN 14 (aV A) M ∧ (∀ m, m < 4 → CM M m (aM A m)) ∧ CHi (aH A) M ∧ CSe (aP A) (aS A) M ∧ CTp (aT A) (aX A) M
/-- lines of the reference from b on -/
def RN (b : Nat) (l : List Int) (M : ZM) : Prop := ∀ i, (h : i < l.length) → mI M 75 0 (b + i) = l[i] / 100 ∧ (l[i] / 100 ≠ 4 → mI M 76 0 (b + i) = l[i] / 10 % 10) ∧ (l[i] / 100 = 0 → mI M 77 0 (b + i) = l[i] % 10)
def RV (b : Nat) (l : List Int) (M : ZM) : Prop := ∀ i, (h : i < l.length) → mI M 79 0 (b + i) = l[i] / 100 ∧ mI M 80 0 (b + i) = l[i] % 100
def RM (n : Nat) (M : ZM) (m : Nat) (x : Option MK) : Prop := (x = none ∧ mI M 86 0 m = 0) ∨ ∃ y, x = some y ∧ mI M 86 0 m = 1 ∧ RS 84 (16 * m) n y.1 M ∧ mI M 74 0 (1 + m) = (y.2.1.length : Int) ∧ RN (40 * (1 + m)) y.2.1 M ∧ mI M 78 0 (1 + m) = (y.2.2.length : Int) ∧ RV (8 * (1 + m)) y.2.2 M
def RHi (n : Nat) (H : List SK) (M : ZM) : Prop := mI M 11 0 49 = (H.length : Int) ∧ ∀ j, (h : j < H.length) → RS 85 (16 * (H.length - 1 - j)) n H[j] M
def RTp (n : Nat) (x : Nat → Int) (M : ZM) : Prop := mI M 11 0 1 = (n : Int) ∧ ∀ k, k < n → mI M 50 0 k = x k
def RA (A : AK) (M : ZM) : Prop := KM M ∧ RP (aP A) M ∧ R0 (qN (aP A)) (aS A) M ∧ (mI M 74 0 0 = ((aL A).length : Int) ∧ RN 0 (aL A) M) ∧ (mI M 78 0 0 = ((aV A).length : Int) ∧ RV 0 (aV A) M) ∧ (∀ m, m < 4 → RM (qN (aP A)) M m (aM A m)) ∧ RHi (qN (aP A)) (aH A) M ∧ RTp (aT A) (aX A) M
def VL (n : Nat) (l : List Int) : Prop := l.length ≤ 40 ∧ ∀ x, x ∈ l → 0 ≤ x ∧ x < 500 ∧ (x / 100 ≠ 4 → x / 10 % 10 < n) ∧ (x / 100 = 0 → x % 10 ≤ 4)
def VV (n : Nat) (l : List Int) : Prop := l.length ≤ 8 ∧ ∀ x, x ∈ l → 0 ≤ x ∧ x / 100 < n
def VA (c : Nat) (A : AK) : Prop := VP (aP A) ∧ VS c (aP A) (aS A) ∧ VL (qN (aP A)) (aL A) ∧ VV (qN (aP A)) (aV A) ∧ (∀ m, m < 4 → ∀ y, aM A m = some y → VS c (aP A) y.1 ∧ VL (qN (aP A)) y.2.1 ∧ VV (qN (aP A)) y.2.2) ∧ ((aH A).length ≤ 16 ∧ ∀ y, y ∈ aH A → VS c (aP A) y) ∧ aT A ≤ 1000 ∧ ∀ k, k < aT A → aX A k = 10 ∨ (32 ≤ aX A k ∧ aX A k ≤ 126)
theorem VS.up {c d : Nat} {P : PK} {S : SK} (h : VS c P S) (hd : c ≤ d) : VS d P S := ⟨h.1, h.2.1, h.2.2.1, h.2.2.2.1, by have := h.2.2.2.2; omega⟩
theorem VA.up {c d : Nat} {A : AK} (h : VA c A) (hd : c ≤ d) : VA d A := by
  obtain ⟨h1, h2, h3, h4, h5, h6, h7⟩ := h
  exact ⟨h1, h2.up hd, h3, h4, fun m hm y hy => ⟨(h5 m hm y hy).1.up hd, (h5 m hm y hy).2⟩, ⟨h6.1, fun y hy => (h6.2 y hy).up hd⟩, h7⟩
/-- the reference's kinds -/
def rk (t : Nat) : Bool := t == 11 || (50 ≤ t && t ≤ 91)
/-- the class has run -/
def zCl (M M' : ZM) : Prop := mK M' = mK M ∧ (∀ t i k, rk t = true → mI M' t i k = mI M t i k) ∧ (∀ t i k, rk t = true → mL M' t i k = mL M t i k)
/-- the reference has run -/
def zRl (M M' : ZM) : Prop := mK M' = mK M ∧ mR M' = mR M ∧ (∀ t i k, rk t = false → mI M' t i k = mI M t i k) ∧ (∀ t i k, rk t = false → mL M' t i k = mL M t i k)
theorem zCl.rf (M : ZM) : zCl M M := ⟨rfl, fun _ _ _ _ => rfl, fun _ _ _ _ => rfl⟩
theorem zCl.tr {M M1 M2 : ZM} (h : zCl M M1) (h' : zCl M1 M2) : zCl M M2 := ⟨h'.1.trans h.1, fun t i k e => (h'.2.1 t i k e).trans (h.2.1 t i k e), fun t i k e => (h'.2.2 t i k e).trans (h.2.2 t i k e)⟩
theorem zRl.tr {M M1 M2 : ZM} (h : zRl M M1) (h' : zRl M1 M2) : zRl M M2 := ⟨h'.1.trans h.1, h'.2.1.trans h.2.1, fun t i k e => (h'.2.2.1 t i k e).trans (h.2.2.1 t i k e), fun t i k e => (h'.2.2.2 t i k e).trans (h.2.2.2 t i k e)⟩
theorem zfr.cl {F : Nat → Nat → Nat → Bool} {M M' : ZM} (h : zfr F M M') (hF : ∀ t i k, rk t = true → F t i k = false) : zCl M M' := ⟨mK_2 h.1, fun t i k e => h.2 t i k (hF t i k e), fun t i k _ => mL_2 h.1 t i k⟩
theorem zfr.rl {F : Nat → Nat → Nat → Bool} {M M' : ZM} (h : zfr F M M') (hF : ∀ t i k, rk t = false → F t i k = false) : zRl M M' := ⟨mK_2 h.1, mR_2 h.1, fun t i k e => h.2 t i k (hF t i k e), fun t i k _ => mL_2 h.1 t i k⟩
section ALL
variable {A : AK} {M M' : ZM}
theorem KM.k (h : KM M) (e : mK M' = mK M) : KM M' := by
  obtain ⟨sl, sx, h⟩ := h
  exact ⟨sl, sx, e.trans h⟩
theorem CN.g {q : Nat} {l : List Int} (h : CN q l M) (e : ∀ t k, t = 3 ∨ t = 26 → mI M' t q k = mI M t q k) : CN q l M' := ⟨(e _ _ (.inl rfl)).trans h.1, fun i hi => (e _ _ (.inr rfl)).trans (h.2 i hi)⟩
theorem CS.g {i : Nat} {S : SK} (h : CS i S M) (e : ∀ t k, t = 7 ∨ t = 40 ∨ t = 41 → mI M' t i k = mI M t i k) : CS i S M' := by
  obtain ⟨h1, h2, h3, h4, h5⟩ := h
  exact ⟨fun k hk => ⟨(e _ _ (by omega)).trans (h1 k hk).1, (e _ _ (by omega)).trans (h1 k hk).2⟩, (e _ _ (by omega)).trans h2, (e _ _ (by omega)).trans h3, (e _ _ (by omega)).trans h4, (e _ _ (by omega)).trans h5⟩
theorem CM.g {m : Nat} {x : Option MK} (h : CM M m x) (e0 : mI M' 2 m 3 = mI M 2 m 3) (e1 : ∀ t k, t = 7 ∨ t = 40 ∨ t = 41 → mI M' t (18 + m) k = mI M t (18 + m) k) (e2 : ∀ t q k, t = 3 ∨ t = 26 → q = 15 + 2 * m ∨ q = 16 + 2 * m → mI M' t q k = mI M t q k) : CM M' m x := by
  rcases h with h | ⟨y, h1, h2, h3, h4, h5⟩
  · exact .inl ⟨h.1, e0.trans h.2⟩
  · exact .inr ⟨y, h1, e0.trans h2, h3.g e1, h4.g (fun t k ht => e2 t _ k ht (.inl rfl)), h5.g (fun t k ht => e2 t _ k ht (.inr rfl))⟩
theorem CHi.g {H : List SK} (h : CHi H M) (e0 : ∀ k, k = 7 ∨ k = 8 → mI M' 10 0 k = mI M 10 0 k) (e1 : ∀ t i k, t = 7 ∨ t = 40 ∨ t = 41 → 2 ≤ i → i < 18 → mI M' t i k = mI M t i k) : CHi H M' := by
  obtain ⟨q, h1, h2, h3, h4⟩ := h
  exact ⟨q, h1, (e0 _ (.inl rfl)).trans h2, (e0 _ (.inr rfl)).trans h3, fun j hj => (h4 j hj).g (fun t k ht => e1 t _ k ht (by omega) (by omega))⟩
theorem CSe.g {P : PK} {S : SK} (h : CSe P S M) (e : ∀ t i k, (t = 6 ∨ t = 33 ∨ t = 39) → mI M' t i k = mI M t i k) : CSe P S M' := by
  intro o ho
  obtain ⟨h1, h2⟩ := h o ho
  refine ⟨fun j hj => (e _ _ _ (by omega)).trans (h1 j hj), ?_⟩
  rcases h2 with h2 | ⟨h2, h3, h4⟩
  · exact .inl ((e _ _ _ (by omega)).trans h2)
  · exact .inr ⟨(e _ _ _ (by omega)).trans h2, (e _ _ _ (by omega)).trans h3, fun k hk => (e _ _ _ (by omega)).trans (h4 k hk)⟩
theorem CTp.g {n : Nat} {x : Nat → Int} (h : CTp n x M) (e : ∀ t i k, (t = 8 ∧ k = 1) ∨ t = 42 → mI M' t i k = mI M t i k) : CTp n x M' := ⟨(e _ _ _ (.inl ⟨rfl, rfl⟩)).trans h.1, fun k hk => (e _ _ _ (.inr rfl)).trans (h.2 k hk)⟩
theorem CP.gg {p : Nat} {P : PK} (h : CP p P M) (e : ∀ t i k, t = 3 ∨ t = 4 ∨ t = 26 ∨ (28 ≤ t ∧ t ≤ 32) → mI M' t i k = mI M t i k) (e2 : ∀ i k, mL M' 27 i k = mL M 27 i k) : CP p P M' := by
  obtain ⟨h1, h2, h3, h4, h5, h6, h7, ⟨w, h8⟩, h9⟩ := h
  refine ⟨(e 4 p 0 (by omega)).trans h1, fun k hk => ?_, ⟨(e _ _ _ (by omega)).trans h3.1, fun i hi => (e _ _ _ (by omega)).trans (h3.2 i hi)⟩, fun j hj => ⟨(e _ _ _ (by omega)).trans (h4 j hj).1, fun k hk => (e _ _ _ (by omega)).trans ((h4 j hj).2 k hk)⟩, ⟨(e _ _ _ (by omega)).trans h5.1, fun i hi => (e _ _ _ (by omega)).trans (h5.2 i hi)⟩, (e _ _ _ (by omega)).trans h6, (e _ _ _ (by omega)).trans h7, ⟨w, (e _ _ _ (by omega)).trans h8.1, h8.2.1, fun i hi => (e _ _ _ (by omega)).trans (h8.2.2.1 i hi), h8.2.2.2⟩, h9⟩
  obtain ⟨a1, a2, a3, a4, a5, a6⟩ := h2 k hk
  exact ⟨(e _ _ _ (by omega)).trans a1, (e _ _ _ (by omega)).trans a2, (e _ _ _ (by omega)).trans a3, (e _ _ _ (by omega)).trans a4, (e _ _ _ (by omega)).trans a5, (e2 _ _).trans a6⟩
/-- the reference's run leaves the class -/
theorem CA.rl (h : CA A M) (e : zRl M M') : CA A M' := by
  obtain ⟨h1, ⟨p, h2, h3⟩, h4, h5, h6, h7, h8, h9, h10⟩ := h
  have q : ∀ t i k, rk t = false → mI M' t i k = mI M t i k := e.2.2.1
  refine ⟨h1.k e.1, ⟨p, ⟨by rw [e.2.1]; exact h2.1, by rw [e.2.1]; exact h2.2⟩, h3.gg (fun t i k ht => q t i k (by simp [rk]; omega)) (fun i k => e.2.2.2 _ _ _ rfl)⟩, h4.g (fun t k ht => q _ _ _ (by simp [rk]; omega)), h5.g (fun t k ht => q _ _ _ (by simp [rk]; omega)), h6.g (fun t k ht => q _ _ _ (by simp [rk]; omega)), fun m hm => (h7 m hm).g (q _ _ _ rfl) (fun t k ht => q _ _ _ (by simp [rk]; omega)) (fun t i k ht _ => q _ _ _ (by simp [rk]; omega)), h8.g (fun k _ => q _ _ _ rfl) (fun t i k ht _ _ => q _ _ _ (by simp [rk]; omega)), h9.g (fun t i k ht => q _ _ _ (by simp [rk]; omega)), h10.g (fun t i k ht => q _ _ _ (by simp [rk]; omega))⟩
theorem RS.g {t b n : Nat} {S : SK} (h : RS t b n S M) (e : ∀ k, b ≤ k → k < b + 16 → mI M' t 0 k = mI M t 0 k) : RS t b n S M' := by
  obtain ⟨h1, h2, h3, h4, h5⟩ := h
  exact ⟨fun k hk => ⟨(e _ (by omega) (by omega)).trans (h1 k hk).1, (e _ (by omega) (by omega)).trans (h1 k hk).2⟩, (e _ (by omega) (by omega)).trans h2, (e _ (by omega) (by omega)).trans h3, (e _ (by omega) (by omega)).trans h4, (e _ (by omega) (by omega)).trans h5⟩
theorem RP.gg {P : PK} (h : RP P M) (e : ∀ t k, t = 51 ∨ (53 ≤ t ∧ t ≤ 61) → mI M' t 0 k = mI M t 0 k) (e2 : ∀ k, mL M' 52 0 k = mL M 52 0 k) : RP P M' := by
  obtain ⟨h1, h2, h3, h4, h5, h6, h7⟩ := h
  refine ⟨(e _ _ (by omega)).trans h1, fun k hk => ?_, fun j hj => ?_, fun k hk => (e _ _ (by omega)).trans (h4 k hk), (e _ _ (by omega)).trans h5, (e _ _ (by omega)).trans h6, ?_⟩
  · obtain ⟨a1, a2, a3, a4, a5, a6⟩ := h2 k hk
    exact ⟨(e _ _ (by omega)).trans a1, (e _ _ (by omega)).trans a2, (e _ _ (by omega)).trans a3, (e _ _ (by omega)).trans a4, (e _ _ (by omega)).trans a5, (e2 _).trans a6⟩
  · rcases h3 j hj with a | a
    · exact .inl ⟨(e _ _ (by omega)).trans a.1, a.2⟩
    · exact .inr ⟨(e _ _ (by omega)).trans a.1, fun k hk => (e _ _ (by omega)).trans (a.2 k hk)⟩
  · rcases h7 with a | ⟨u, a⟩
    · exact .inl ⟨(e _ _ (by omega)).trans a.1, (e _ _ (by omega)).trans a.2.1, a.2.2⟩
    · exact .inr ⟨u, (e _ _ (by omega)).trans a.1, (e _ _ (by omega)).trans a.2.1, a.2.2.1, a.2.2.2.1, fun i hi => (e _ _ (by omega)).trans (a.2.2.2.2.1 i hi), a.2.2.2.2.2⟩
theorem RN.g {b : Nat} {l : List Int} (h : RN b l M) (e : ∀ t k, 75 ≤ t ∧ t ≤ 77 → b ≤ k → k < b + l.length → mI M' t 0 k = mI M t 0 k) : RN b l M' := fun i hi => ⟨(e _ _ (by omega) (by omega) (by omega)).trans (h i hi).1, fun hx => (e _ _ (by omega) (by omega) (by omega)).trans ((h i hi).2.1 hx), fun hx => (e _ _ (by omega) (by omega) (by omega)).trans ((h i hi).2.2 hx)⟩
theorem RV.g {b : Nat} {l : List Int} (h : RV b l M) (e : ∀ t k, 79 ≤ t ∧ t ≤ 80 → b ≤ k → k < b + l.length → mI M' t 0 k = mI M t 0 k) : RV b l M' := fun i hi => ⟨(e _ _ (by omega) (by omega) (by omega)).trans (h i hi).1, (e _ _ (by omega) (by omega) (by omega)).trans (h i hi).2⟩
theorem RM.g {n m : Nat} {x : Option MK} (h : RM n M m x) (e : ∀ t k, t = 86 ∨ t = 84 ∨ (74 ≤ t ∧ t ≤ 80) → (t = 86 → k = m) → (t = 84 → 16 * m ≤ k ∧ k < 16 * m + 16) → (t = 74 ∨ t = 78 → k = 1 + m) → (75 ≤ t ∧ t ≤ 77 → 40 * (1 + m) ≤ k ∧ (∀ y, x = some y → k < 40 * (1 + m) + y.2.1.length)) → (79 ≤ t ∧ t ≤ 80 → 8 * (1 + m) ≤ k ∧ (∀ y, x = some y → k < 8 * (1 + m) + y.2.2.length)) → mI M' t 0 k = mI M t 0 k) : RM n M' m x := by
  rcases h with h | ⟨y, h1, h2, h3, h4, h5, h6, h7⟩
  · exact .inl ⟨h.1, (e 86 m (by omega) (by omega) (by omega) (by omega) (by omega) (by omega)).trans h.2⟩
  · refine .inr ⟨y, h1, (e 86 m (by omega) (by omega) (by omega) (by omega) (by omega) (by omega)).trans h2, h3.g (fun k a b => e 84 k (by omega) (by omega) (by omega) (by omega) (by omega) (by omega)), (e 74 _ (by omega) (by omega) (by omega) (by omega) (by omega) (by omega)).trans h4, h5.g (fun t k a b c => e t k (by omega) (by omega) (by omega) (by omega) (fun _ => ⟨b, fun y' hy' => by rw [h1] at hy'; cases hy'; exact c⟩) (by omega)), (e 78 _ (by omega) (by omega) (by omega) (by omega) (by omega) (by omega)).trans h6, h7.g (fun t k a b c => e t k (by omega) (by omega) (by omega) (by omega) (by omega) (fun _ => ⟨b, fun y' hy' => by rw [h1] at hy'; cases hy'; exact c⟩))⟩
theorem RHi.g {n : Nat} {H : List SK} (h : RHi n H M) (e0 : mI M' 11 0 49 = mI M 11 0 49) (e1 : ∀ k, mI M' 85 0 k = mI M 85 0 k) : RHi n H M' := ⟨e0.trans h.1, fun j hj => (h.2 j hj).g (fun k _ _ => e1 k)⟩
theorem RTp.g {n : Nat} {x : Nat → Int} (h : RTp n x M) (e : ∀ t k, (t = 11 ∧ k = 1) ∨ t = 50 → mI M' t 0 k = mI M t 0 k) : RTp n x M' := ⟨(e _ _ (.inl ⟨rfl, rfl⟩)).trans h.1, fun k hk => (e _ _ (.inr rfl)).trans (h.2 k hk)⟩
/-- the class's run leaves the reference -/
theorem RA.cl (h : RA A M) (e : zCl M M') : RA A M' := by
  obtain ⟨h1, h2, h3, h4, h5, h6, h7, h8⟩ := h
  have q : ∀ t i k, rk t = true → mI M' t i k = mI M t i k := e.2.1
  refine ⟨h1.k e.1, h2.gg (fun t k ht => q _ _ _ (by simp [rk]; omega)) (fun k => e.2.2 _ _ _ rfl), h3.g (fun k _ _ => q _ _ _ rfl), ⟨(q _ _ _ rfl).trans h4.1, h4.2.g (fun t k ht _ _ => q _ _ _ (by simp [rk]; omega))⟩, ⟨(q _ _ _ rfl).trans h5.1, h5.2.g (fun t k ht _ _ => q _ _ _ (by simp [rk]; omega))⟩, fun m hm => (h6 m hm).g (fun t k ht _ _ _ _ _ => q _ _ _ (by simp [rk]; omega)), h7.g (q _ _ _ rfl) (fun k => q _ _ _ rfl), h8.g (fun t k ht => q _ _ _ (by simp [rk]; omega))⟩
/-- what the class may write without that anything of it changes -/
def fX (t i k : Nat) : Bool := fF t i k || fS 1 t i k || t == 9 || (43 ≤ t && t ≤ 45)
theorem fG_X : ∀ t i k, fX t i k = false → fG 1 t i k = false := by
  intro t i k h; simp [fX] at h; simp [fG, h]
theorem fF_X : ∀ t i k, fX t i k = false → fF t i k = false := by
  intro t i k h; simp [fX] at h; simp [h]
theorem fS_X : ∀ t i k, fX t i k = false → fS 1 t i k = false := by
  intro t i k h; simp [fX] at h; simp [h]
theorem fX_rk : ∀ t i k, rk t = true → fX t i k = false := by
  intro t i k h; simp [rk] at h; simp [fX, fF, fS]; omega
theorem CA.fx (h : CA A M) (hf : zfr fX M M') : CA A M' := by
  obtain ⟨h1, ⟨p, h2, h3⟩, h4, h5, h6, h7, h8, h9, h10⟩ := h
  have q : ∀ t i k, fX t i k = false → mI M' t i k = mI M t i k := hf.2
  have er := mR_2 hf.1
  refine ⟨h1.k (mK_2 hf.1), ⟨p, ⟨by rw [er]; exact h2.1, by rw [er]; exact h2.2⟩, h3.gg (fun t i k ht => q t i k (by simp [fX, fF, fS]; omega)) (fun i k => mL_2 hf.1 _ _ _)⟩, h4.g (fun t k ht => q _ _ _ (by simp [fX, fF, fS]; omega)), h5.g (fun t k ht => q _ _ _ (by simp [fX, fF, fS]; omega)), h6.g (fun t k ht => q _ _ _ (by simp [fX, fF, fS]; omega)), fun m hm => (h7 m hm).g (q _ _ _ (by simp [fX, fF, fS])) (fun t k ht => q _ _ _ (by simp [fX, fF, fS]; omega)) (fun t i k ht _ => q _ _ _ (by simp [fX, fF, fS]; omega)), h8.g (fun k _ => q _ _ _ (by simp [fX, fF, fS])) (fun t i k ht _ _ => q _ _ _ (by simp [fX, fF, fS]; omega)), h9.g (fun t i k ht => q _ _ _ (by simp [fX, fF, fS]; omega)), h10.g (fun t i k ht => q _ _ _ (by simp [fX, fF, fS]; omega))⟩
/-- what the reference may write if its state is again as it was -/
def fQ (t _i k : Nat) : Bool := (t == 11 && (k == 0 || k == 50 || k == 51 || k == 54 || k == 55)) || (64 ≤ t && t ≤ 73) || (81 ≤ t && t ≤ 83) || (87 ≤ t && t ≤ 91)
theorem fQ_rk : ∀ t i k, rk t = false → fQ t i k = false := by
  intro t i k h; simp [rk] at h; simp [fQ]; omega
theorem fr_Q : ∀ t i k, fQ t i k = false → fr t i k = false := by
  intro t i k h; simp [fQ] at h; simp [fr]; omega
theorem fp_Q : ∀ t i k, fQ t i k = false → fp t i k = false := by
  intro t i k h; simp [fQ] at h; simp [fp, fr]; omega
theorem fQ_p : ∀ t k, t = 51 ∨ (53 ≤ t ∧ t ≤ 61) → fQ t 0 k = false := by
  intro t k h; simp [fQ]; omega
theorem RA.fq (h : RA A M) (hf : zfr fQ M M') (hs : R0 (qN (aP A)) (aS A) M') : RA A M' := by
  obtain ⟨h1, h2, h3, h4, h5, h6, h7, h8⟩ := h
  have q : ∀ t i k, fQ t i k = false → mI M' t i k = mI M t i k := hf.2
  refine ⟨h1.k (mK_2 hf.1), h2.fr hf fQ_p, hs, ⟨(q _ _ _ (by simp [fQ])).trans h4.1, h4.2.g (fun t k ht _ _ => q _ _ _ (by simp [fQ]; omega))⟩, ⟨(q _ _ _ (by simp [fQ])).trans h5.1, h5.2.g (fun t k ht _ _ => q _ _ _ (by simp [fQ]; omega))⟩, fun m hm => (h6 m hm).g (fun t k ht _ _ _ _ _ => q _ _ _ (by simp [fQ]; omega)), h7.g (q _ _ _ (by simp [fQ])) (fun k => q _ _ _ (by simp [fQ])), h8.g (fun t k ht => q _ _ _ (by simp [fQ]; omega))⟩
end ALL
