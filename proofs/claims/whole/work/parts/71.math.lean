/-! The sea as numbers: a park P, how it is S. -/
/-- how many; planes: 1 kind, 2 owner, 3 cell, 4 where the cable goes, 5 what it holds, 6 wakes, 7 how many told (blows, from, price), 8 to 10 these, 11 wears and slack, 12 and 13 names; the law; cables in the order told -/
abbrev PK : Type := Nat × (Nat → Nat → Int) × (Int → Int → Int → Int → Int) × List Nat
def qN (P : PK) : Nat := P.1
def qT (P : PK) : Nat → Nat → Int := P.2.1
def qL (P : PK) : Int → Int → Int → Int → Int := P.2.2.1
def qO (P : PK) : List Nat := P.2.2.2
/-- angles, how worn, open and broken as bits, the step, what was sold -/
abbrev SK : Type := (Nat → Int) × (Nat → Int) × Nat × Nat × Int × Int
def sA (S : SK) : Nat → Int := S.1
def sW (S : SK) : Nat → Int := S.2.1
def sO (S : SK) : Nat := S.2.2.1
def sB (S : SK) : Nat := S.2.2.2.1
def sT (S : SK) : Int := S.2.2.2.2.1
def sS (S : SK) : Int := S.2.2.2.2.2
def mRun (S : SK) (t : Nat) : Bool := zbt (sO S) t && !zbt (sB S) t
def mRow (P : PK) (j : Nat) (st : Int) : Int := qT P (8 + j) (st.tmod (qT P 7 j)).toNat
def mBl (P : PK) (S : SK) : Int := mRow P 0 (sT S)
def mFr (P : PK) (S : SK) : Int := mRow P 1 (sT S)
def mPr (P : PK) (S : SK) : Int := mRow P 2 (sT S) - 10
def mDr (a off : Int) : Int := if a = 2 then 0 else if (a = 1 ∨ a = 3) ∧ off = 1 then 0 else if a < 2 then -1 else 1
def mOff (P : PK) (t o : Nat) (fr : Int) : Int := if fr = 0 then qT P 3 o / 6 - qT P 3 t / 6 else if fr = 2 then qT P 3 t / 6 - qT P 3 o / 6 else if fr = 1 then qT P 3 t % 6 - qT P 3 o % 6 else qT P 3 o % 6 - qT P 3 t % 6
def mAsd (P : PK) (t o : Nat) (fr : Int) : Int := if fr = 0 ∨ fr = 2 then qT P 3 o % 6 - qT P 3 t % 6 else qT P 3 o / 6 - qT P 3 t / 6
/-- tenths that t, which runs, turned by a, takes of o -/
def mTen (P : PK) (t : Nat) (a : Int) (o : Nat) (fr : Int) : Int :=
  if mOff P t o fr < 1 ∨ 3 < mOff P t o fr ∨ mAsd P t o fr ≠ mDr a (mOff P t o fr) then 0 else zmax (qT P 6 (mOff P t o fr - 1).toNat - (if qT P 1 t = 3 then 1 else 0)) 0
def mTs (P : PK) (A : Nat → Int) (R : Nat → Bool) (fr : Int) (o t : Nat) : Int := if t = o then 0 else if R t then mTen P t (A t) o fr else 0
def mCut (P : PK) (o : Nat) (s : Int) : Int := if qT P 1 o = 1 then zmax (zmin s 9 - 1) 0 else zmin s 9
def mTkn (P : PK) (A : Nat → Int) (R : Nat → Bool) (fr : Int) (o : Nat) : Int := mCut P o (zsum (mTs P A R fr o) (qN P))
def mWnd (bl tk : Int) : Int := (bl * (10 - tk)).tdiv 10
def mNt (st : Int) : Int := if st.tmod 12 < 6 then 0 else 1
def mTb (a : Int) : Int := zabs (a - 2)
/-- what one that runs gives -/
def mGiv (P : PK) (w wo a st : Int) : Int :=
  if mTb a = 0 then zmax 0 (zmin (qL P w wo (mTb a) (mNt st)) 99) else if mTb a = 1 then (zmax 0 (zmin (qL P w wo (mTb a) (mNt st)) 99) * 9).tdiv 10 else (zmax 0 (zmin (qL P w wo (mTb a) (mNt st)) 99) * 6).tdiv 10
def mPow (P : PK) (S : SK) (fr bl : Int) (t : Nat) : Int := if mRun S t then mGiv P (mWnd bl (mTkn P (sA S) (mRun S) fr t)) (sW S t) (sA S t) (sT S) else 0
/-- how a park can be -/
def VP (P : PK) : Prop :=
  qN P ≤ 6 ∧ (∀ k, k < qN P → (0 ≤ qT P 1 k ∧ qT P 1 k ≤ 3) ∧ (1 ≤ qT P 2 k ∧ qT P 2 k ≤ 2) ∧ (0 ≤ qT P 3 k ∧ qT P 3 k ≤ 35) ∧ (qT P 4 k = -1 ∨ qT P 4 k = 6 ∨ (0 ≤ qT P 4 k ∧ qT P 4 k < qN P)) ∧ (qT P 4 k ≠ -1 → 1 ≤ qT P 5 k ∧ qT P 5 k ≤ 200))
  ∧ (∀ k, k < 3 → 0 ≤ qT P 6 k ∧ qT P 6 k ≤ 9)
  ∧ (∀ j, j < 3 → 1 ≤ qT P 7 j ∧ qT P 7 j ≤ 8)
  ∧ (∀ k : Nat, (k : Int) < qT P 7 0 → 0 ≤ qT P 8 k ∧ qT P 8 k ≤ 30) ∧ (∀ k : Nat, (k : Int) < qT P 7 1 → 0 ≤ qT P 9 k ∧ qT P 9 k ≤ 3) ∧ (∀ k : Nat, (k : Int) < qT P 7 2 → 0 ≤ qT P 10 k ∧ qT P 10 k ≤ 20)
  ∧ (1 ≤ qT P 11 0 ∧ qT P 11 0 ≤ 99) ∧ (1 ≤ qT P 11 1 ∧ qT P 11 1 ≤ 12)
  ∧ (∀ i, (h : i < (qO P).length) → (qO P)[i] < qN P ∧ (qT P 4 (qO P)[i] = 6 ∨ ∃ j, ∃ h' : j < i, qT P 4 (qO P)[i] = ((qO P)[j]'(Nat.lt_trans h' h) : Int)))
  ∧ (qO P).Nodup ∧ (∀ t, t < qN P → (t ∈ qO P ↔ qT P 4 t ≠ -1))
def VS (c : Nat) (P : PK) (S : SK) : Prop := sO S < 2 ^ qN P ∧ sB S < 2 ^ qN P ∧ (∀ k, k < 6 → 0 ≤ sA S k ∧ sA S k ≤ 4) ∧ (0 ≤ sT S ∧ ∀ k, k < 6 → zr32 (sW S k)) ∧ sT S ≤ c
section VPx
variable {P : PK}
theorem VP.n : VP P → qN P ≤ 6 := fun h => h.1
theorem VP.k : VP P → ∀ {k : Nat}, k < qN P → 0 ≤ qT P 1 k ∧ qT P 1 k ≤ 3 := fun h k hk => (h.2.1 k hk).1
theorem VP.o : VP P → ∀ {k : Nat}, k < qN P → 1 ≤ qT P 2 k ∧ qT P 2 k ≤ 2 := fun h k hk => (h.2.1 k hk).2.1
theorem VP.c : VP P → ∀ {k : Nat}, k < qN P → 0 ≤ qT P 3 k ∧ qT P 3 k ≤ 35 := fun h k hk => (h.2.1 k hk).2.2.1
theorem VP.g : VP P → ∀ {k : Nat}, k < qN P → qT P 4 k = -1 ∨ qT P 4 k = 6 ∨ (0 ≤ qT P 4 k ∧ qT P 4 k < qN P) := fun h k hk => (h.2.1 k hk).2.2.2.1
theorem VP.h : VP P → ∀ {k : Nat}, k < qN P → qT P 4 k ≠ -1 → 1 ≤ qT P 5 k ∧ qT P 5 k ≤ 200 := fun h k hk => (h.2.1 k hk).2.2.2.2
theorem VP.w : VP P → ∀ {k : Nat}, k < 3 → 0 ≤ qT P 6 k ∧ qT P 6 k ≤ 9 := fun h k hk => h.2.2.1 k hk
theorem VP.l : VP P → ∀ {j : Nat}, j < 3 → 1 ≤ qT P 7 j ∧ qT P 7 j ≤ 8 := fun h k hk => h.2.2.2.1 k hk
theorem tmod_in {a b : Int} (ha : 0 ≤ a) (hb : 1 ≤ b) : 0 ≤ a.tmod b ∧ a.tmod b < b := by
  rw [Int.tmod_eq_emod_of_nonneg ha]
  exact ⟨Int.emod_nonneg _ (by omega), Int.emod_lt_of_pos _ (by omega)⟩
theorem VP.bl : VP P → ∀ {st : Int}, 0 ≤ st → 0 ≤ mRow P 0 st ∧ mRow P 0 st ≤ 30 := fun h st hs => by
  have hl := h.l (j := 0) (by omega)
  have hm := tmod_in hs hl.1
  exact h.2.2.2.2.1 _ (by omega)
theorem VP.fr : VP P → ∀ {st : Int}, 0 ≤ st → 0 ≤ mRow P 1 st ∧ mRow P 1 st ≤ 3 := fun h st hs => by
  have hl := h.l (j := 1) (by omega)
  have hm := tmod_in hs hl.1
  exact h.2.2.2.2.2.1 _ (by omega)
theorem VP.pr : VP P → ∀ {st : Int}, 0 ≤ st → 0 ≤ mRow P 2 st ∧ mRow P 2 st ≤ 20 := fun h st hs => by
  have hl := h.l (j := 2) (by omega)
  have hm := tmod_in hs hl.1
  exact h.2.2.2.2.2.2.1 _ (by omega)
theorem VP.we : VP P → 1 ≤ qT P 11 0 ∧ qT P 11 0 ≤ 99 := fun h => h.2.2.2.2.2.2.2.1
theorem VP.sl : VP P → 1 ≤ qT P 11 1 ∧ qT P 11 1 ≤ 12 := fun h => h.2.2.2.2.2.2.2.2.1
theorem VP.ord : VP P → ∀ i, (h : i < (qO P).length) → (qO P)[i] < qN P ∧ (qT P 4 (qO P)[i] = 6 ∨ ∃ j, ∃ h' : j < i, qT P 4 (qO P)[i] = ((qO P)[j]'(Nat.lt_trans h' h) : Int)) := fun h => h.2.2.2.2.2.2.2.2.2.1
theorem VP.nd : VP P → (qO P).Nodup := fun h => h.2.2.2.2.2.2.2.2.2.2.1
theorem VP.mem : VP P → ∀ t, t < qN P → (t ∈ qO P ↔ qT P 4 t ≠ -1) := fun h => h.2.2.2.2.2.2.2.2.2.2.2
end VPx
theorem zmin_le {x y : Int} : zmin x y ≤ x ∧ zmin x y ≤ y := by unfold zmin; split <;> omega
theorem zmax_ge {x y : Int} : x ≤ zmax x y ∧ y ≤ zmax x y := by unfold zmax; split <;> omega
theorem mTen_b {P : PK} (h : VP P) {t o : Nat} {a fr : Int} : 0 ≤ mTen P t a o fr ∧ mTen P t a o fr ≤ 9 := by
  unfold mTen
  split
  · omega
  · next hc =>
    have := h.w (k := (mOff P t o fr - 1).toNat) (by omega)
    unfold zmax
    split <;> split <;> omega
theorem mTs_b {P : PK} (h : VP P) {A : Nat → Int} {R : Nat → Bool} {fr : Int} {o t : Nat} : 0 ≤ mTs P A R fr o t ∧ mTs P A R fr o t ≤ 9 := by
  unfold mTs
  split
  · omega
  · split
    · exact mTen_b h
    · omega
theorem mSm_b {P : PK} (h : VP P) {A : Nat → Int} {R : Nat → Bool} {fr : Int} {o n : Nat} : 0 ≤ zsum (mTs P A R fr o) n ∧ zsum (mTs P A R fr o) n ≤ 9 * n := by
  have h1 := zsum_ge (f := mTs P A R fr o) (n := n) (a := 0) (fun k _ => (mTs_b h).1)
  have h2 := zsum_le (f := mTs P A R fr o) (n := n) (a := 9) (fun k _ => (mTs_b h).2)
  omega
theorem mCut_b {P : PK} {o : Nat} {s : Int} (hs : 0 ≤ s) : 0 ≤ mCut P o s ∧ mCut P o s ≤ 9 := by
  unfold mCut zmax zmin
  split <;> split <;> (try split) <;> omega
theorem mTkn_b {P : PK} (h : VP P) {A : Nat → Int} {R : Nat → Bool} {fr : Int} {o : Nat} : 0 ≤ mTkn P A R fr o ∧ mTkn P A R fr o ≤ 9 := mCut_b (mSm_b h).1
theorem mWnd_b {bl tk : Int} (hb : 0 ≤ bl ∧ bl ≤ 30) (ht : 0 ≤ tk ∧ tk ≤ 9) : 0 ≤ mWnd bl tk ∧ mWnd bl tk ≤ 30 := by
  unfold mWnd
  have h1 : 0 ≤ bl * (10 - tk) := Int.mul_nonneg hb.1 (by omega)
  have h2 : bl * (10 - tk) ≤ 30 * 10 := Int.mul_le_mul hb.2 (by omega) (by omega) (by omega)
  rw [Int.tdiv_eq_ediv_of_nonneg h1]
  omega
theorem mGiv_b {P : PK} {w wo a st : Int} : 0 ≤ mGiv P w wo a st ∧ mGiv P w wo a st ≤ 99 := by
  unfold mGiv
  generalize qL P w wo (mTb a) (mNt st) = q
  have h : 0 ≤ zmax 0 (zmin q 99) ∧ zmax 0 (zmin q 99) ≤ 99 := by
    unfold zmax zmin; split <;> (try split) <;> omega
  generalize zmax 0 (zmin q 99) = r at h ⊢
  split
  · exact h
  · split
    · rw [Int.tdiv_eq_ediv_of_nonneg (by omega)]; omega
    · rw [Int.tdiv_eq_ediv_of_nonneg (by omega)]; omega
theorem mPow_b {P : PK} {S : SK} {fr bl : Int} {t : Nat} : 0 ≤ mPow P S fr bl t ∧ mPow P S fr bl t ≤ 99 := by
  unfold mPow
  split
  · exact mGiv_b
  · omega
