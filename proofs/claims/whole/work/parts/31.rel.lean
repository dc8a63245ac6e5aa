section ZREL
def zcv (ρ : Nat → Nat → Nat) : ZV → Value
  | .inl x => .int (Int32.ofInt x)
  | .inr (.inl x) => .long (Int64.ofInt x)
  | .inr (.inr (t, o)) => va_rf (o.map (ρ t))
/-- a value of ours that has a meaning -/
def zvl (M : ZM) : ZV → Prop
  | .inl x => zr32 x
  | .inr (.inl x) => zr64 x
  | .inr (.inr (t, o)) => ∀ i, o = some i → i < mC M t
def zfv (ρ : Nat → Nat → Nat) (M : ZM) (t i k : Nat) : Value := match (zfp t k).1 with
  | 0 => .int (Int32.ofInt (mI M t i k))
  | 1 => .int (Int32.ofInt (mI M t i k))
  | 2 => .long (Int64.ofInt (mL M t i k))
  | 3 => va_rf ((mF M t i k).map (ρ (zfp t k).2.1))
  | 4 => va_rf ((zrg (mR M) (zfp t k).2.2).map (ρ (zfp t k).2.1))
  | _ => .null
def zav (ρ : Nat → Nat → Nat) (M : ZM) (t i j : Nat) : Value := match zek t with
  | 0 => .int (Int32.ofInt (mI M t i j))
  | 1 => .long (Int64.ofInt (mL M t i j))
  | 2 => .int (Int32.ofInt (mI M t i j))
  | 3 => .int (Int32.ofInt (mI M t i j))
  | 4 => va_rf ((mF M t i j).map (ρ (ztg t)))
  | _ => .null
def zmt (t : Nat) : Bool := Nat.blt t 12 || Nat.ble (zek t) 4
/-- a cell of ours stands in the heap -/
def zcel (ρ : Nat → Nat → Nat) (dC : Nat → ClassId) (dI : Nat → Nat → Nat) (aC : Nat → ClassId) (M : ZM) (H : Heap) (t i : Nat) : Prop :=
  (t < 12 → t_OB (ρ t i) (dC t) (znf t) (dI t) H (zfv ρ M t i)) ∧ (¬ t < 12 → H[ρ t i]? = some (arrV (aC t) (mN M t i) (zav ρ M t i)))
def zHp (ρ : Nat → Nat → Nat) (dC : Nat → ClassId) (dI : Nat → Nat → Nat) (aC : Nat → ClassId) (M : ZM) (H : Heap) : Prop := ∀ t i, zmt t = true → i < mC M t → zcel ρ dC dI aC M H t i
/-- the kind of what a field or an array's place refers to -/
def ztf (t k : Nat) : Nat := if t < 12 then (zfp t k).2.1 else ztg t
/-- such a place there is, and it holds a reference that stands fast -/
def zpin (M : ZM) (t i k : Nat) : Prop := (t < 12 ∧ k < znf t ∧ (zfp t k).1 = 3) ∨ (¬ t < 12 ∧ k < mN M t i)
/-- numbers in their ranges -/
def zW1 (M : ZM) : Prop := ∀ t i k, zr32 (mI M t i k) ∧ zr64 (mL M t i k) ∧ ((t = 12 → i < 30) → zr32 (mKI M t i k)) ∧ zr64 (mKL M t i k)
/-- references to what is there -/
def zW2 (M : ZM) : Prop := ∀ t i k j, i < mC M t → zpin M t i k → mF M t i k = some j → j < mC M (ztf t k)
def zW3 (M : ZM) : Prop := ∀ r j, zrg (mR M) r = some j → j < mC M (if r < 3 then 4 else 12)
/-- what changes lies apart, from B on -/
def zW4 (ρ : Nat → Nat → Nat) (M : ZM) : Prop := ∀ t i t' i', zmt t = true → zmt t' = true → i < mC M t → i' < mC M t' → ρ t i = ρ t' i' → t = t' ∧ i = i'
def zW5 (ρ : Nat → Nat → Nat) (B : Nat) (M : ZM) : Prop := ∀ t i, zmt t = true → i < mC M t → B ≤ ρ t i
def zW6 (M : ZM) : Prop := (mC M 5 = 0 → zrg (mR M) 2 = none) ∧ (mC M 8 = 0 → zrg (mR M) 3 = none) ∧ (mC M 10 = 0 → zrg (mR M) 0 = none ∧ zrg (mR M) 1 = none) ∧ mC M 5 ≤ 1 ∧ mC M 8 ≤ 1 ∧ mC M 10 ≤ 1
def zW7 (M : ZM) : Prop := ∀ t i, ¬ t < 12 → i < mC M t → mN M t i < 2147483648
/-- the constants: as many words as there are, the three rows -/
def zW8 (M : ZM) : Prop := mC M 12 = 30 ∧ mC M 100 = 1 ∧ mC M 101 = 1 ∧ mC M 102 ≤ 1 ∧ mN M 100 0 = 30 ∧ mN M 101 0 = 30 ∧ (∀ k, k < 30 → mF M 100 0 k = some k) ∧ ∀ t, 104 ≤ t → mC M t = 0
def zWf (ρ : Nat → Nat → Nat) (B : Nat) (M : ZM) : Prop := zW1 M ∧ zW2 M ∧ zW3 M ∧ zW4 ρ M ∧ zW5 ρ B M ∧ zW6 M ∧ zW7 M ∧ zW8 M
def zA (B : Nat) : Nat → Prop := fun q => B ≤ q
/-- the constants as they stand in the heap -/
def zcs (ρ : Nat → Nat → Nat) (B sl : Nat) (sx : Nat → Int) (U : State) (H : Heap) : Prop :=
  (∀ i, i < 30 → va_Z "WakePark$Word" (zwn i) "LWakePark$Word;" (.ref (ρ 12 i)) (zA B) U H) ∧
  va_Z "WakePark" "WORDS" "[LWakePark$Word;" (.ref (ρ 100 0)) (zA B) U H ∧
  va_Z "WakePark$1" "$SwitchMap$WakePark$Word" "[I" (.ref (ρ 101 0)) (zA B) U H ∧
  (∀ i, i < 30 → va_O "WakePark$Word" (ρ 12 i) (zA B) U H) ∧
  (∀ i, i < 30 → va_OF "WakePark$Word" "free" "Z" (.int (Int32.ofInt (zKI sx 12 i 0))) (ρ 12 i) (zA B) U H) ∧
  (∀ i, i < 30 → va_OF "WakePark$Word" "key" "J" (.long (Int64.ofInt (zKL 12 i 1))) (ρ 12 i) (zA B) U H) ∧
  (∀ i, i < 30 → va_OF "java/lang/Enum" "ordinal" "I" (.int (Int32.ofInt (zKI sx 12 i 2))) (ρ 12 i) (zA B) U H) ∧
  va_T (.object "WakePark$Word") (ρ 100 0) 30 (fun j => .ref (ρ 12 j)) (zA B) U H ∧
  va_T .int (ρ 101 0) 30 (fun j => .int (Int32.ofInt (zKI sx 101 0 j))) (zA B) U H ∧
  va_T .int (ρ 102 0) sl (fun j => .int (Int32.ofInt (zKI sx 102 0 j))) (zA B) U H ∧
  (∀ i j, i < 30 → j < 30 → ρ 12 i = ρ 12 j → i = j)
/-- the memory's constants are these -/
def zkc (sl : Nat) (sx : Nat → Int) (M : ZM) : Prop := (∀ t i k, mKI M t i k = zKI sx t i k) ∧ (∀ t i k, mKL M t i k = zKL t i k) ∧ (mC M 102 = 1 → mN M 102 0 = sl)
theorem zcs.moved {ρ : Nat → Nat → Nat} {B sl : Nat} {sx : Nat → Int} {u U : State} {H : Heap} (hvm : u.vm.Alike U.vm) (h : zcs ρ B sl sx u H) : zcs ρ B sl sx U H := by
  obtain ⟨h1, h2, h3, h4, h5, h6, h7, h8, h9, h10, h11⟩ := h
  exact ⟨fun i hi => (h1 i hi).moved hvm, h2.moved hvm, h3.moved hvm, fun i hi => (h4 i hi).moved hvm, fun i hi => (h5 i hi).moved hvm, fun i hi => (h6 i hi).moved hvm, fun i hi => (h7 i hi).moved hvm, h8.moved hvm, h9.moved hvm, h10.moved hvm, h11⟩
theorem zcs.kept {ρ : Nat → Nat → Nat} {B sl : Nat} {sx : Nat → Int} {U : State} {H H1 : Heap} (h : zcs ρ B sl sx U H) (hq : ∀ a : Nat, a < H.size → ¬ zA B a → H1[a]? = H[a]?) : zcs ρ B sl sx U H1 := by
  obtain ⟨h1, h2, h3, h4, h5, h6, h7, h8, h9, h10, h11⟩ := h
  exact ⟨fun i hi => (h1 i hi).kept hq, h2.kept hq, h3.kept hq, fun i hi => (h4 i hi).kept hq, fun i hi => (h5 i hi).kept hq, fun i hi => (h6 i hi).kept hq, fun i hi => (h7 i hi).kept hq, h8.kept hq, h9.kept hq, h10.kept hq, h11⟩
theorem zcs.same {ρ ρ' : Nat → Nat → Nat} {B sl : Nat} {sx : Nat → Int} {U : State} {H : Heap} (h : zcs ρ B sl sx U H) (h1 : ∀ i, i < 30 → ρ' 12 i = ρ 12 i) (h2 : ρ' 100 0 = ρ 100 0) (h3 : ρ' 101 0 = ρ 101 0) (h4 : ρ' 102 0 = ρ 102 0) : zcs ρ' B sl sx U H := by
  obtain ⟨a1, a2, a3, a4, a5, a6, a7, a8, a9, a10, a11⟩ := h
  refine ⟨fun i hi => by rw [h1 i hi]; exact a1 i hi, by rw [h2]; exact a2, by rw [h3]; exact a3, fun i hi => by rw [h1 i hi]; exact a4 i hi, fun i hi => by rw [h1 i hi]; exact a5 i hi, fun i hi => by rw [h1 i hi]; exact a6 i hi, fun i hi => by rw [h1 i hi]; exact a7 i hi, ?_, by rw [h3]; exact a9, by rw [h4]; exact a10, fun i j hi hj e => a11 i j hi hj (by rw [← h1 i hi, ← h1 j hj]; exact e)⟩
  obtain ⟨cell, b1, b2, b3, b4, b5, b6, b7⟩ := a8
  exact ⟨cell, by rw [h2]; exact b1, b2, b3, b4, b5, fun j hj => by rw [b6 j hj]; show some (Value.ref (ρ 12 j)) = some (Value.ref (ρ' 12 j)); rw [h1 j hj], by rw [h2]; exact b7⟩
end ZREL
