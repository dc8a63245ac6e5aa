/-! The search, as numbers. -/
/-- what t, turned by a, takes of j; what it gives by what is taken -/
def tkT (P : PK) (S : SK) (t : Nat) (a : Int) (j : Nat) : Int := if mRun S t = true ∧ j ≠ t then mTen P t a j (mFr P S) else 0
def gfT (P : PK) (S : SK) (t : Nat) (a : Int) (d : Int) : Int := if mRun S t = true then mGiv P (mWnd (mBl P S) d) (sW S t) a (sT S) else 0
/-- value of a row -/
def vGf (P : PK) (S : SK) (A : Nat → Int) (t : Nat) : Int := gfT P S t (A t) (mCut P t (zsum (fun i => tkT P S i (A i) t) (qN P)))
theorem vGf_p {P : PK} {S : SK} {A : Nat → Int} {t : Nat} : mPow P (sWA S A) (mFr P S) (mBl P S) t = vGf P S A t := by
  unfold mPow vGf gfT mTkn
  have e : zsum (mTs P (sA (sWA S A)) (mRun (sWA S A)) (mFr P S) t) (qN P) = zsum (fun i => tkT P S i (A i) t) (qN P) := by
    refine zsum_cg fun i _ => ?_
    unfold mTs tkT
    show (if i = t then 0 else if mRun S i = true then mTen P i (A i) t (mFr P S) else 0) = _
    by_cases e1 : i = t
    · rw [if_pos e1, if_neg (fun h => h.2 e1.symm)]
    · rw [if_neg e1]
      by_cases e2 : mRun S i = true
      · rw [if_pos e2, if_pos ⟨e2, fun h => e1 h.symm⟩]
      · rw [if_neg e2, if_neg (fun h => e2 h.1)]
  rw [e]
  rfl
/-- alike -/
def aAl (P : PK) (S : SK) (t : Nat) (a b : Int) : Prop := (∀ j, j < qN P → tkT P S t a j = tkT P S t b j) ∧ ∀ d : Nat, d < 10 → gfT P S t a d = gfT P S t b d
theorem tkT_b {P : PK} (hv : VP P) {S : SK} {t : Nat} {a : Int} {j : Nat} : 0 ≤ tkT P S t a j ∧ tkT P S t a j ≤ 9 := by
  unfold tkT
  split
  · exact mTen_b hv
  · omega
theorem tkS_b {P : PK} (hv : VP P) {S : SK} {A : Nat → Int} {j n : Nat} : 0 ≤ zsum (fun i => tkT P S i (A i) j) n ∧ zsum (fun i => tkT P S i (A i) j) n ≤ 9 * n := by
  have a1 := zsum_ge (f := fun i => tkT P S i (A i) j) (n := n) (a := 0) (fun _ _ => (tkT_b hv).1)
  have a2 := zsum_le (f := fun i => tkT P S i (A i) j) (n := n) (a := 9) (fun _ _ => (tkT_b hv).2)
  omega
theorem vGf_cg {P : PK} (hv : VP P) {S : SK} {A B : Nat → Int} (h : ∀ i, i < qN P → aAl P S i (A i) (B i)) {t : Nat} (ht : t < qN P) : vGf P S A t = vGf P S B t := by
  unfold vGf
  rw [zsum_cg (f := fun i => tkT P S i (A i) t) (g := fun i => tkT P S i (B i) t) (fun i hi => (h i hi).1 t ht)]
  have hb := mCut_b (P := P) (o := t) (tkS_b hv (S := S) (A := B) (j := t) (n := qN P)).1
  have := (h t ht).2 (mCut P t (zsum (fun i => tkT P S i (B i) t) (qN P))).toNat (by omega)
  rw [show (((mCut P t (zsum (fun i => tkT P S i (B i) t) (qN P))).toNat : Nat) : Int) = mCut P t (zsum (fun i => tkT P S i (B i) t) (qN P)) by omega] at this
  exact this
/-- home by powers that are alike -/
theorem mBr_cg {P : PK} {pw pw' : Nat → Int} {f : Int} : ∀ {r : List Nat}, (∀ t, t ∈ r → pw t = pw' t) → mBr P pw f r = mBr P pw' f r
  | [], _ => rfl
  | t :: r, h => by
    rw [mBr, mBr, mBr_cg (fun u hu => h u (List.mem_cons_of_mem _ hu)), h t List.mem_cons_self]
theorem mHm_cg {P : PK} (hv : VP P) {pw pw' : Nat → Int} {f : Int} (h : ∀ t, t < qN P → pw t = pw' t) : mHm P pw f = mHm P pw' f := by
  unfold mHm
  rw [mBr_cg (fun t ht => h t (hv.ltn ht))]
/-- value of a row, by the tables -/
def mVt (P : PK) (S : SK) (o : Int) (A : Nat → Int) : Int := if o = 0 then mHm P (vGf P S A) (-1) * mPr P S else zsum (fun t => if qT P 2 t = o then vGf P S A t else 0) (qN P)
theorem mVal_t {P : PK} {S : SK} {o : Int} {A : Nat → Int} : mVal P S o A = mVt P S o A := by
  unfold mVal mVt
  have e : mPow P (sWA S A) (mFr P S) (mBl P S) = vGf P S A := funext fun t => vGf_p
  by_cases b : o = 0
  · rw [if_pos b, if_pos b]
    unfold mSold mHome
    show mHm P (mPow P (sWA S A) (mFr P S) (mBl P S)) (-1) * mPr P S = _
    rw [e]
  · rw [if_neg b, if_neg b, e]
theorem mVt_cg {P : PK} (hv : VP P) {S : SK} {o : Int} {A B : Nat → Int} (h : ∀ i, i < qN P → aAl P S i (A i) (B i)) : mVt P S o A = mVt P S o B := by
  unfold mVt
  rw [mHm_cg hv (fun t ht => vGf_cg hv h ht), zsum_cg (f := fun t => if qT P 2 t = o then vGf P S A t else 0) (g := fun t => if qT P 2 t = o then vGf P S B t else 0) (fun t ht => by rw [vGf_cg hv h ht])]
theorem aAl_rf {P : PK} {S : SK} {t : Nat} {a : Int} : aAl P S t a a := ⟨fun _ _ => rfl, fun _ _ => rfl⟩
theorem mVal_cg {P : PK} (hv : VP P) {S : SK} {o : Int} {A B : Nat → Int} (h : ∀ i, i < qN P → A i = B i) : mVal P S o A = mVal P S o B := by
  rw [mVal_t, mVal_t, mVt_cg hv (fun i hi => by rw [h i hi]; exact aAl_rf)]
theorem mVal_b {P : PK} (hv : VP P) {S : SK} {o : Int} {A : Nat → Int} {c : Nat} (hz : VS c P (sWA S A)) : -12000 ≤ mVal P S o A ∧ mVal P S o A ≤ 12000 := by
  have h6 := hv.n
  unfold mVal
  split
  · exact mSold_b hv hz
  · have a1 := zsum_ge (f := fun t => if qT P 2 t = o then mPow P (sWA S A) (mFr P S) (mBl P S) t else 0) (n := qN P) (a := 0) (fun t _ => by
      have := mPow_b (P := P) (S := sWA S A) (fr := mFr P S) (bl := mBl P S) (t := t)
      split <;> omega)
    have a2 := zsum_le (f := fun t => if qT P 2 t = o then mPow P (sWA S A) (mFr P S) (mBl P S) t else 0) (n := qN P) (a := 99) (fun t _ => by
      have := mPow_b (P := P) (S := sWA S A) (fr := mFr P S) (bl := mBl P S) (t := t)
      split <;> omega)
    omega
/-! rows of angles -/
section ROWS
variable {P : PK} {o : Int}
theorem mDg_hi : ∀ {k v : Nat} {A : Nat → Int} {t : Nat}, k ≤ t → mDg P o k v A t = A t
  | 0, _, _, _, _ => rfl
  | k + 1, v, A, t, h => by
    unfold mDg
    split
    · rw [mDg_hi (by omega), mPut, if_neg (by omega)]
    · exact mDg_hi (by omega)
theorem mDg_no : ∀ {k v : Nat} {A : Nat → Int} {t : Nat}, mOwn P o t = false → mDg P o k v A t = A t
  | 0, _, _, _, _ => rfl
  | k + 1, v, A, t, h => by
    unfold mDg
    by_cases b : mOwn P o k = true
    · rw [if_pos b, mDg_no h, mPut, if_neg]
      rintro rfl; rw [b] at h; cases h
    · rw [if_neg b]; exact mDg_no h
theorem mDg_cg : ∀ {k v : Nat} {A B : Nat → Int}, (∀ t, ¬ (t < k ∧ mOwn P o t = true) → A t = B t) → ∀ t, mDg P o k v A t = mDg P o k v B t
  | 0, _, _, _, h, t => h t (by omega)
  | k + 1, v, A, B, h, t => by
    unfold mDg
    by_cases b : mOwn P o k = true
    · rw [if_pos b, if_pos b]
      refine mDg_cg (fun u hu => ?_) t
      unfold mPut
      by_cases e : u = k
      · rw [if_pos e, if_pos e]
      · rw [if_neg e, if_neg e]
        exact h u (fun h' => hu ⟨by omega, h'.2⟩)
    · rw [if_neg b, if_neg b]
      refine mDg_cg (fun u hu => h u (fun h' => hu ⟨?_, h'.2⟩)) t
      by_cases e : u = k
      · subst e; exact absurd h'.2 b
      · omega
theorem mDg_b : ∀ {k v : Nat} {A : Nat → Int}, (∀ t, t < 6 → 0 ≤ A t ∧ A t ≤ 4) → ∀ t, t < 6 → 0 ≤ mDg P o k v A t ∧ mDg P o k v A t ≤ 4
  | 0, _, _, h, t, ht => h t ht
  | k + 1, v, A, h, t, ht => by
    unfold mDg
    split
    · refine mDg_b (fun u hu => ?_) t ht
      unfold mPut
      split
      · omega
      · exact h u hu
    · exact mDg_b h t ht
theorem mRw_pos : ∀ {k : Nat}, 1 ≤ mRw P o k
  | 0 => Nat.le_refl 1
  | k + 1 => by
    have := mRw_pos (k := k)
    unfold mRw
    split <;> omega
theorem mRw_le : ∀ {k : Nat}, mRw P o k ≤ 5 ^ k
  | 0 => Nat.le_refl 1
  | k + 1 => by
    have := mRw_le (k := k)
    unfold mRw
    rw [Nat.pow_succ]
    split <;> omega
/-- the first best row -/
theorem mBst_is {S : SK} {F : Nat → Int} (hF : ∀ n, F n = mVal P S o (mDg P o (qN P) n (sA S))) (hb : ∀ n, -1000000 < F n) : ∀ {n : Nat}, 1 ≤ n → (mBst P S o n).2 < n ∧ (mBst P S o n).1 = F (mBst P S o n).2 ∧ (∀ u, u < n → F u ≤ (mBst P S o n).1) ∧ (∀ u, u < (mBst P S o n).2 → F u < (mBst P S o n).1)
  | 0, h => by omega
  | n + 1, _ => by
    unfold mBst
    rw [← hF n]
    by_cases h0 : n = 0
    · subst h0
      have h1 : (mBst P S o 0).1 = -1000000 := rfl
      rw [h1, if_pos (hb 0)]
      refine ⟨by simp, rfl, fun u hu => ?_, fun u hu => ?_⟩
      · have : u = 0 := by omega
        rw [this]; exact Int.le_refl _
      · simp at hu
    · obtain ⟨i1, i2, i3, i4⟩ := mBst_is hF hb (n := n) (by omega)
      by_cases b : (mBst P S o n).1 < F n
      · rw [if_pos b]
        refine ⟨by simp, rfl, fun u hu => ?_, fun u hu => ?_⟩
        · by_cases e : u = n
          · subst e; exact Int.le_refl _
          · have := i3 u (by omega)
            show F u ≤ F n
            omega
        · have hu' : u < n := hu
          have := i3 u hu'
          show F u < F n
          omega
      · rw [if_neg b]
        refine ⟨by omega, i2, fun u hu => ?_, i4⟩
        by_cases e : u = n
        · subst e; omega
        · exact i3 u (by omega)
theorem fst_un {F : Nat → Int} {n u v : Nat} {x y : Int} (hu : u < n) (hv : v < n) (h1 : x = F u) (h2 : y = F v) (h3 : ∀ w, w < n → F w ≤ x) (h4 : ∀ w, w < n → F w ≤ y) (h5 : ∀ w, w < u → F w < x) (h6 : ∀ w, w < v → F w < y) : u = v ∧ x = y := by
  have a1 := h3 v hv
  have a2 := h4 u hu
  have hxy : x = y := by omega
  refine ⟨?_, hxy⟩
  rcases Nat.lt_trichotomy u v with b | b | b
  · have := h6 u b; omega
  · exact b
  · have := h5 v b; omega
end ROWS
/-! rows by tries: wd how many, tr which -/
section TRY
variable {P : PK} {S : SK} {o : Int} (wd : Nat → Nat) (tr : Nat → Nat → Int)
def cDg : Nat → Nat → (Nat → Int) → (Nat → Int)
  | 0, _, A => A
  | k + 1, n, A => cDg k (n / wd k) (mPut A k (tr k (n % wd k)))
def cEn (P : PK) (o : Int) : Nat → Nat → Nat
  | 0, _ => 0
  | k + 1, n => if mOwn P o k then cEn P o k (n / wd k) * 5 + (tr k (n % wd k)).toNat else cEn P o k (n / wd k)
def cW : Nat → Nat
  | 0 => 1
  | k + 1 => cW k * wd k
/-- how tries are -/
def tOk (P : PK) (S : SK) (o : Int) : Prop := ∀ i, i < qN P → 1 ≤ wd i ∧ wd i ≤ 5 ∧ (∀ r, r < wd i → 0 ≤ tr i r ∧ tr i r ≤ 4) ∧ (mOwn P o i = false → wd i = 1 ∧ tr i 0 = sA S i) ∧ (∀ r r', r < r' → r' < wd i → tr i r < tr i r') ∧ (mOwn P o i = true → ∀ a : Nat, a < 5 → ∃ r, r < wd i ∧ tr i r ≤ a ∧ aAl P S i a (tr i r))
theorem cDg_hi : ∀ {k n : Nat} {A : Nat → Int} {t : Nat}, k ≤ t → cDg wd tr k n A t = A t
  | 0, _, _, _, _ => rfl
  | k + 1, n, A, t, h => by
    unfold cDg
    rw [cDg_hi (by omega), mPut, if_neg (by omega)]
theorem cW_pos (h : ∀ i, i < qN P → 1 ≤ wd i) : ∀ {k : Nat}, k ≤ qN P → 1 ≤ cW wd k
  | 0, _ => Nat.le_refl 1
  | k + 1, hk => by
    have := cW_pos h (k := k) (by omega)
    have := h k (by omega)
    unfold cW
    exact Nat.mul_pos (by omega) (by omega)
theorem cW_le (h : ∀ i, i < qN P → wd i ≤ 5) : ∀ {k : Nat}, k ≤ qN P → cW wd k ≤ 5 ^ k
  | 0, _ => Nat.le_refl 1
  | k + 1, hk => by
    unfold cW
    rw [Nat.pow_succ]
    exact Nat.mul_le_mul (cW_le h (by omega)) (h k (by omega))
/-- the code of the n-th row of tries gives that row -/
theorem cEn_dg (h : tOk wd tr P S o) : ∀ {k n : Nat} {A : Nat → Int}, k ≤ qN P → (∀ t, t < k → mOwn P o t = false → A t = sA S t) → ∀ t, t < k → mDg P o k (cEn wd tr P o k n) A t = cDg wd tr k n A t
  | 0, _, _, _, _, t, ht => by omega
  | k + 1, n, A, hk, hA, t, ht => by
    obtain ⟨h1, h2, h3, h4, h5, h6⟩ := h k (by omega)
    have hr : n % wd k < wd k := Nat.mod_lt _ (by omega)
    have hb := h3 _ hr
    unfold mDg cEn cDg
    by_cases b : mOwn P o k = true
    · rw [if_pos b, if_pos b]
      have e1 : (cEn wd tr P o k (n / wd k) * 5 + (tr k (n % wd k)).toNat) / 5 = cEn wd tr P o k (n / wd k) := by omega
      have e2 : (((cEn wd tr P o k (n / wd k) * 5 + (tr k (n % wd k)).toNat) % 5 : Nat) : Int) = tr k (n % wd k) := by omega
      rw [e1, e2]
      by_cases e : t = k
      · subst e; rw [mDg_hi (Nat.le_refl _), cDg_hi _ _ (Nat.le_refl _)]
      · refine cEn_dg h (by omega) (fun u hu hn => ?_) t (by omega)
        unfold mPut
        rw [if_neg (by omega)]
        exact hA u (by omega) hn
    · have b' : mOwn P o k = false := by simpa using b
      rw [if_neg b, if_neg b]
      obtain ⟨w1, w2⟩ := h4 b'
      have e3 : mPut A k (tr k (n % wd k)) = A := by
        funext u
        unfold mPut
        by_cases e : u = k
        · rw [if_pos e, w1, Nat.mod_one, w2, e, hA k (by omega) b']
        · rw [if_neg e]
      rw [e3]
      by_cases e : t = k
      · subst e; rw [mDg_hi (Nat.le_refl _), cDg_hi _ _ (Nat.le_refl _)]
      · exact cEn_dg h (by omega) (fun u hu hn => hA u (by omega) hn) t (by omega)
theorem cEn_mo (h : tOk wd tr P S o) : ∀ {k n m : Nat}, k ≤ qN P → m < cW wd k → n < m → cEn wd tr P o k n < cEn wd tr P o k m
  | 0, n, m, _, hm, hn => by simp [cW] at hm; omega
  | k + 1, n, m, hk, hm, hn => by
    obtain ⟨h1, h2, h3, h4, h5, h6⟩ := h k (by omega)
    have hrm : m % wd k < wd k := Nat.mod_lt _ (by omega)
    have hrn : n % wd k < wd k := Nat.mod_lt _ (by omega)
    have hbm := h3 _ hrm
    have hbn := h3 _ hrn
    have hq : m / wd k < cW wd k := by
      unfold cW at hm
      exact Nat.div_lt_of_lt_mul (by rw [Nat.mul_comm]; exact hm)
    have hle : n / wd k ≤ m / wd k := Nat.div_le_div_right (by omega)
    unfold cEn
    by_cases b : mOwn P o k = true
    · rw [if_pos b, if_pos b]
      rcases Nat.lt_or_eq_of_le hle with hlt | heq
      · have := cEn_mo h (k := k) (by omega) hq hlt
        omega
      · have hmod : n % wd k < m % wd k := by
          have e1 := Nat.div_add_mod n (wd k)
          have e2 := Nat.div_add_mod m (wd k)
          rw [heq] at e1
          omega
        have := h5 _ _ hmod hrm
        rw [heq]
        omega
    · have b' : mOwn P o k = false := by simpa using b
      rw [if_neg b, if_neg b]
      obtain ⟨w1, w2⟩ := h4 b'
      rw [w1, Nat.div_one, Nat.div_one]
      rw [w1, Nat.div_one] at hq
      exact cEn_mo h (by omega) hq hn
theorem cEn_lt (h : tOk wd tr P S o) : ∀ {k n : Nat}, k ≤ qN P → cEn wd tr P o k n < mRw P o k
  | 0, _, _ => by simp [cEn, mRw]
  | k + 1, n, hk => by
    obtain ⟨h1, h2, h3, h4, h5, h6⟩ := h k (by omega)
    have hb := h3 _ (Nat.mod_lt n (show 0 < wd k by omega))
    have := cEn_lt h (k := k) (n := n / wd k) (by omega)
    unfold cEn mRw
    by_cases b : mOwn P o k = true
    · rw [if_pos b, if_pos b]; omega
    · rw [if_neg b, if_neg b]; omega
/-- each row has one among the tries that is alike and no later -/
theorem cEn_su (h : tOk wd tr P S o) : ∀ {k v : Nat} {A : Nat → Int}, k ≤ qN P → v < mRw P o k → (∀ t, t < k → mOwn P o t = false → A t = sA S t) → ∃ n, n < cW wd k ∧ cEn wd tr P o k n ≤ v ∧ ∀ t, t < k → aAl P S t (mDg P o k v A t) (cDg wd tr k n A t)
  | 0, v, A, _, hv, _ => ⟨0, by simp [cW], by simp [cEn], fun t ht => by omega⟩
  | k + 1, v, A, hk, hv, hA => by
    obtain ⟨h1, h2, h3, h4, h5, h6⟩ := h k (by omega)
    unfold mRw at hv
    by_cases b : mOwn P o k = true
    · rw [if_pos b] at hv
      obtain ⟨r, r1, r2, r3⟩ := h6 b (v % 5) (by omega)
      have hA' : ∀ x : Int, ∀ t, t < k → mOwn P o t = false → mPut A k x t = sA S t := fun x t ht hn => by
        unfold mPut; rw [if_neg (by omega)]; exact hA t (by omega) hn
      obtain ⟨n, n1, n2, n3⟩ := cEn_su h (k := k) (v := v / 5) (A := mPut A k ((v % 5 : Nat) : Int)) (by omega) (by omega) (hA' _)
      have hb := h3 r r1
      have d1 : (n * wd k + r) / wd k = n := by rw [Nat.mul_comm, Nat.mul_add_div (by omega), Nat.div_eq_of_lt r1]; omega
      have d2 : (n * wd k + r) % wd k = r := by rw [Nat.mul_comm, Nat.mul_add_mod, Nat.mod_eq_of_lt r1]
      refine ⟨n * wd k + r, ?_, ?_, fun t ht => ?_⟩
      · unfold cW
        have : (n + 1) * wd k ≤ cW wd k * wd k := Nat.mul_le_mul_right _ n1
        rw [Nat.add_mul] at this
        omega
      · unfold cEn
        rw [if_pos b, d1, d2]
        omega
      · unfold mDg cDg
        rw [if_pos b, d1, d2]
        by_cases e : t = k
        · subst e
          rw [mDg_hi (Nat.le_refl _), cDg_hi _ _ (Nat.le_refl _)]
          unfold mPut
          rw [if_pos rfl, if_pos rfl]
          exact r3
        · have h9 := n3 t (by omega)
          have e1 : cDg wd tr k n (mPut A k (tr k r)) t = cDg wd tr k n (mPut A k ((v % 5 : Nat) : Int)) t := cDg_cg wd tr (fun u hu => by unfold mPut; rw [if_neg (by omega), if_neg (by omega)]) t (by omega)
          rw [e1]
          exact h9
    · have b' : mOwn P o k = false := by simpa using b
      rw [if_neg b] at hv
      obtain ⟨w1, w2⟩ := h4 b'
      obtain ⟨n, n1, n2, n3⟩ := cEn_su h (k := k) (v := v) (A := A) (by omega) (by omega) (fun t ht hn => hA t (by omega) hn)
      refine ⟨n, by unfold cW; rw [w1]; omega, by unfold cEn; rw [if_neg b, w1, Nat.div_one]; exact n2, fun t ht => ?_⟩
      have e3 : mPut A k (tr k (n % wd k)) = A := by
        funext u
        unfold mPut
        by_cases e : u = k
        · rw [if_pos e, w1, Nat.mod_one, w2, e, hA k (by omega) b']
        · rw [if_neg e]
      unfold mDg cDg
      rw [if_neg b, e3, w1, Nat.div_one]
      by_cases e : t = k
      · subst e
        rw [mDg_hi (Nat.le_refl _), cDg_hi _ _ (Nat.le_refl _)]
        exact aAl_rf
      · exact n3 t (by omega)
where cDg_cg (wd : Nat → Nat) (tr : Nat → Nat → Int) : ∀ {k n : Nat} {A B : Nat → Int}, (∀ t, t < k → A t = B t) → ∀ t, t < k → cDg wd tr k n A t = cDg wd tr k n B t
  | 0, _, _, _, _, t, ht => by omega
  | k + 1, n, A, B, h, t, ht => by
    unfold cDg
    by_cases e : t = k
    · subst e
      rw [cDg_hi _ _ (Nat.le_refl _), cDg_hi _ _ (Nat.le_refl _)]
      unfold mPut; rw [if_pos rfl, if_pos rfl]
    · refine cDg_cg wd tr (fun u hu => ?_) t (by omega)
      unfold mPut
      rw [if_neg (by omega), if_neg (by omega)]
      exact h u (by omega)
/-- the first best of the tries is the first best of all -/
theorem tr_best {c : Nat} (hv : VP P) (hz : VS c P S) (h : tOk wd tr P S o) {n : Nat} {x : Int} (hn : n < cW wd (qN P)) (h1 : x = mVal P S o (cDg wd tr (qN P) n (sA S))) (h2 : ∀ m, m < cW wd (qN P) → mVal P S o (cDg wd tr (qN P) m (sA S)) ≤ x) (h3 : ∀ m, m < n → mVal P S o (cDg wd tr (qN P) m (sA S)) < x) : x = mMost P S o ∧ ∀ t, t < qN P → cDg wd tr (qN P) n (sA S) t = mRowB P S o t := by
  have hA : ∀ t, t < qN P → mOwn P o t = false → sA S t = sA S t := fun _ _ _ => rfl
  have hcode : ∀ m, mVal P S o (mDg P o (qN P) (cEn wd tr P o (qN P) m) (sA S)) = mVal P S o (cDg wd tr (qN P) m (sA S)) := fun m => mVal_cg hv (fun i hi => cEn_dg wd tr h (Nat.le_refl _) hA i hi)
  have hFb : ∀ u, -1000000 < mVal P S o (mDg P o (qN P) u (sA S)) := fun u => by
    have hz' : VS c P (sWA S (mDg P o (qN P) u (sA S))) := ⟨hz.1, hz.2.1, fun k hk => mDg_b (fun t ht => hz.2.2.1 t ht) k hk, hz.2.2.2.1, hz.2.2.2.2⟩
    have := mVal_b hv (o := o) hz'
    omega
  obtain ⟨b1, b2, b3, b4⟩ := mBst_is (P := P) (o := o) (S := S) (F := fun u => mVal P S o (mDg P o (qN P) u (sA S))) (fun _ => rfl) hFb (n := mRw P o (qN P)) mRw_pos
  have hall : ∀ u, u < mRw P o (qN P) → ∃ m, m < cW wd (qN P) ∧ cEn wd tr P o (qN P) m ≤ u ∧ mVal P S o (mDg P o (qN P) u (sA S)) = mVal P S o (cDg wd tr (qN P) m (sA S)) := fun u hu => by
    obtain ⟨m, m1, m2, m3⟩ := cEn_su wd tr h (Nat.le_refl _) hu hA
    exact ⟨m, m1, m2, by rw [mVal_t, mVal_t, mVt_cg hv m3]⟩
  have key := fst_un (F := fun u => mVal P S o (mDg P o (qN P) u (sA S))) (n := mRw P o (qN P)) (u := cEn wd tr P o (qN P) n) (v := (mBst P S o (mRw P o (qN P))).2) (x := x) (y := (mBst P S o (mRw P o (qN P))).1) (cEn_lt wd tr h (Nat.le_refl _)) b1 (by rw [h1, ← hcode]) b2 (fun w hw => by
    obtain ⟨m, m1, _, m3⟩ := hall w hw
    show mVal P S o (mDg P o (qN P) w (sA S)) ≤ x
    rw [m3]; exact h2 m m1) b3 (fun w hw => by
    obtain ⟨m, m1, m2, m3⟩ := hall w (Nat.lt_trans hw (cEn_lt wd tr h (Nat.le_refl _)))
    show mVal P S o (mDg P o (qN P) w (sA S)) < x
    rw [m3]
    refine h3 m ?_
    rcases Nat.lt_or_ge m n with e | e
    · exact e
    · rcases Nat.lt_or_eq_of_le e with e | e
      · have := cEn_mo wd tr h (Nat.le_refl _) m1 e
        omega
      · subst e; omega) b4
  refine ⟨key.2, fun t ht => ?_⟩
  unfold mRowB
  rw [← key.1, cEn_dg wd tr h (Nat.le_refl _) hA t ht]
end TRY
