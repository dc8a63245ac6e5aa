def zr32 (x : Int) : Prop := -2147483648 ≤ x ∧ x < 2147483648
def zr64 (x : Int) : Prop := -9223372036854775808 ≤ x ∧ x < 9223372036854775808
theorem zr32_toInt {x : Int} (h : zr32 x) : (Int32.ofInt x).toInt = x := Int32.toInt_ofInt_of_le h.1 h.2
theorem zr64_toInt {x : Int} (h : zr64 x) : (Int64.ofInt x).toInt = x := Int64.toInt_ofInt_of_le h.1 h.2
theorem zr32_of (x : Int32) : zr32 x.toInt := ⟨x.le_toInt, x.toInt_lt⟩
theorem zr64_of (x : Int64) : zr64 x.toInt := ⟨x.le_toInt, x.toInt_lt⟩
theorem z32_of (x : Int) : z32 x = (Int32.ofInt x).toInt := Int32.toInt_ofInt.symm
theorem z64_of (x : Int) : z64 x = (Int64.ofInt x).toInt := Int64.toInt_ofInt.symm
theorem z32_r (x : Int) : zr32 (z32 x) := by rw [z32_of]; exact zr32_of _
theorem z64_r (x : Int) : zr64 (z64 x) := by rw [z64_of]; exact zr64_of _
theorem z32_o (x : Int) : Int32.ofInt (z32 x) = Int32.ofInt x := by rw [z32_of, Int32.ofInt_toInt]
theorem z64_o (x : Int) : Int64.ofInt (z64 x) = Int64.ofInt x := by rw [z64_of, Int64.ofInt_toInt]
theorem z32_id {x : Int} (h : zr32 x) : z32 x = x := by rw [z32_of, zr32_toInt h]
theorem z64_id {x : Int} (h : zr64 x) : z64 x = x := by rw [z64_of, zr64_toInt h]
theorem zn_eq {x y : Int} (hx : zr32 x) (hy : zr32 y) : Int32.ofInt x = Int32.ofInt y ↔ x = y := by rw [← Int32.toInt_inj, zr32_toInt hx, zr32_toInt hy]
theorem zn_lt {x y : Int} (hx : zr32 x) (hy : zr32 y) : Int32.ofInt x < Int32.ofInt y ↔ x < y := by rw [Int32.lt_iff_toInt_lt, zr32_toInt hx, zr32_toInt hy]
theorem zn_le {x y : Int} (hx : zr32 x) (hy : zr32 y) : Int32.ofInt x ≤ Int32.ofInt y ↔ x ≤ y := by rw [Int32.le_iff_toInt_le, zr32_toInt hx, zr32_toInt hy]
theorem zl_eq {x y : Int} (hx : zr64 x) (hy : zr64 y) : Int64.ofInt x = Int64.ofInt y ↔ x = y := by rw [← Int64.toInt_inj, zr64_toInt hx, zr64_toInt hy]
theorem zl_lt {x y : Int} (hx : zr64 x) (hy : zr64 y) : Int64.ofInt x < Int64.ofInt y ↔ x < y := by rw [Int64.lt_iff_toInt_lt, zr64_toInt hx, zr64_toInt hy]
theorem zr_0 : zr32 0 := ⟨by decide, by decide⟩
theorem zn_0 {x : Int} (hx : zr32 x) : Int32.ofInt x = 0 ↔ x = 0 := zn_eq hx zr_0
theorem zn_lt0 {x : Int} (hx : zr32 x) : Int32.ofInt x < 0 ↔ x < 0 := zn_lt hx zr_0
theorem zn_nat {x : Int} (hx : zr32 x) : (Int32.ofInt x).toNatClampNeg = x.toNat := Int32.toNatClampNeg_ofInt_of_le hx.1 hx.2
theorem zn_add (x y : Int) : Int32.ofInt x + Int32.ofInt y = Int32.ofInt (z32 (x + y)) := by rw [z32_o, Int32.ofInt_add]
theorem zn_sub (x y : Int) : Int32.ofInt x - Int32.ofInt y = Int32.ofInt (z32 (x - y)) := by rw [z32_o, Int32.ofInt_sub]
theorem zn_mul (x y : Int) : Int32.ofInt x * Int32.ofInt y = Int32.ofInt (z32 (x * y)) := by rw [z32_o, Int32.ofInt_mul]
theorem zn_neg (x : Int) : -Int32.ofInt x = Int32.ofInt (z32 (-x)) := by rw [z32_o, Int32.ofInt_neg]
theorem zl_add (x y : Int) : Int64.ofInt x + Int64.ofInt y = Int64.ofInt (z64 (x + y)) := by rw [z64_o, Int64.ofInt_add]
theorem zl_sub (x y : Int) : Int64.ofInt x - Int64.ofInt y = Int64.ofInt (z64 (x - y)) := by rw [z64_o, Int64.ofInt_sub]
theorem zl_mul (x y : Int) : Int64.ofInt x * Int64.ofInt y = Int64.ofInt (z64 (x * y)) := by rw [z64_o, Int64.ofInt_mul]
theorem zn_div {x y : Int} (hx : zr32 x) (hy : zr32 y) : Int32.ofInt x / Int32.ofInt y = Int32.ofInt (z32 (x.tdiv y)) := by
  apply Int32.toInt_inj.mp
  rw [Int32.toInt_div, zr32_toInt hx, zr32_toInt hy, z32_o, Int32.toInt_ofInt]
theorem zl_div {x y : Int} (hx : zr64 x) (hy : zr64 y) : Int64.ofInt x / Int64.ofInt y = Int64.ofInt (z64 (x.tdiv y)) := by
  apply Int64.toInt_inj.mp
  rw [Int64.toInt_div, zr64_toInt hx, zr64_toInt hy, z64_o, Int64.toInt_ofInt]
theorem zn_rem {x y : Int} (hx : zr32 x) (hy : zr32 y) : Int32.ofInt x - Int32.ofInt x / Int32.ofInt y * Int32.ofInt y = Int32.ofInt (x.tmod y) := by
  rw [zn_div hx hy, z32_o, ← Int32.ofInt_mul, ← Int32.ofInt_sub, Int.tmod_def, Int.mul_comm y]
theorem zl_rem {x y : Int} (hx : zr64 x) (hy : zr64 y) : Int64.ofInt x - Int64.ofInt x / Int64.ofInt y * Int64.ofInt y = Int64.ofInt (x.tmod y) := by
  rw [zl_div hx hy, z64_o, ← Int64.ofInt_mul, ← Int64.ofInt_sub, Int.tmod_def, Int.mul_comm y]
theorem zn_tm {x y : Int} (hx : zr32 x) : zr32 (x.tmod y) := by
  have h := Int.natAbs_tmod x y
  have h2 : x.natAbs % y.natAbs ≤ x.natAbs := Nat.mod_le _ _
  obtain ⟨h3, h4⟩ := hx
  rcases Int.le_total 0 x with hp | hp
  · have h5 : 0 ≤ x.tmod y := Int.tmod_nonneg y hp
    constructor <;> omega
  · have h5 : x.tmod y ≤ 0 := by
      have h6 := Int.tmod_nonneg y (show 0 ≤ -x by omega)
      rw [Int.neg_tmod] at h6
      omega
    constructor <;> omega
theorem zl_tm {x y : Int} (hx : zr64 x) : zr64 (x.tmod y) := by
  have h := Int.natAbs_tmod x y
  have h2 : x.natAbs % y.natAbs ≤ x.natAbs := Nat.mod_le _ _
  obtain ⟨h3, h4⟩ := hx
  rcases Int.le_total 0 x with hp | hp
  · have h5 : 0 ≤ x.tmod y := Int.tmod_nonneg y hp
    constructor <;> omega
  · have h5 : x.tmod y ≤ 0 := by
      have h6 := Int.tmod_nonneg y (show 0 ≤ -x by omega)
      rw [Int.neg_tmod] at h6
      omega
    constructor <;> omega
theorem zn_and (x y : Int) : Int32.ofInt x &&& Int32.ofInt y = Int32.ofInt (z_and x y) := by rw [z_and, Int32.ofInt_toInt]
theorem zn_or (x y : Int) : Int32.ofInt x ||| Int32.ofInt y = Int32.ofInt (z_or x y) := by rw [z_or, Int32.ofInt_toInt]
theorem zn_xor (x y : Int) : Int32.ofInt x ^^^ Int32.ofInt y = Int32.ofInt (z_xor x y) := by rw [z_xor, Int32.ofInt_toInt]
theorem zn_shl (x y : Int) : Int32.ofInt x <<< (Int32.ofInt y &&& 31) = Int32.ofInt (z_shl x y) := by rw [z_shl, Int32.ofInt_toInt]
theorem zn_shr (x y : Int) : Int32.ofInt x >>> (Int32.ofInt y &&& 31) = Int32.ofInt (z_shr x y) := by rw [z_shr, Int32.ofInt_toInt]
theorem zl_and (x y : Int) : Int64.ofInt x &&& Int64.ofInt y = Int64.ofInt (z_land x y) := by rw [z_land, Int64.ofInt_toInt]
theorem zl_or (x y : Int) : Int64.ofInt x ||| Int64.ofInt y = Int64.ofInt (z_lor x y) := by rw [z_lor, Int64.ofInt_toInt]
theorem zl_shl (x y : Int) : Int64.ofInt x <<< ((Int32.ofInt y).toInt64 &&& 63) = Int64.ofInt (z_lshl x y) := by rw [z_lshl, Int64.ofInt_toInt]
theorem zl_ushr (x y : Int) : ((Int64.ofInt x).toUInt64 >>> ((Int32.ofInt y).toInt64.toUInt64 &&& Int64.toUInt64 63)).toInt64 = Int64.ofInt (z_lushr x y) := by rw [z_lushr, Int64.ofInt_toInt]
theorem zl_cmp {x y : Int} (hx : zr64 x) (hy : zr64 y) : lg_cmp (Int64.ofInt x) (Int64.ofInt y) = Int32.ofInt (z_lcmp x y) := by
  unfold lg_cmp z_lcmp
  have e1 : (Int64.ofInt x > Int64.ofInt y) ↔ y < x := zl_lt hy hx
  have e2 := zl_eq hx hy
  by_cases h1 : x < y
  · rw [if_pos h1, if_neg (by rw [e1]; omega), if_neg (by rw [e2]; omega)]; rfl
  · rw [if_neg h1]
    by_cases h2 : x = y
    · rw [if_pos h2, if_neg (by rw [e1]; omega), if_pos (e2.mpr h2)]; rfl
    · rw [if_neg h2, if_pos (e1.mpr (by omega))]; rfl
theorem zl_cmp_r (x y : Int) : zr32 (z_lcmp x y) := by
  unfold z_lcmp
  split
  · exact ⟨by decide, by decide⟩
  · split <;> exact ⟨by decide, by decide⟩
theorem zn_i2l {x : Int} (hx : zr32 x) : (Int32.ofInt x).toInt64 = Int64.ofInt x := by
  apply Int64.toInt_inj.mp
  rw [Int32.toInt_toInt64, zr32_toInt hx, zr64_toInt ⟨by have := hx.1; omega, by have := hx.2; omega⟩]
theorem zn_l2i {x : Int} (hx : zr64 x) : (Int64.ofInt x).toInt32 = Int32.ofInt (z32 x) := by
  rw [z32_o, ← Int32.ofInt_int64ToInt, zr64_toInt hx]
theorem zn_i2b {x : Int} (hx : zr32 x) : (Int32.ofInt x).toInt8.toInt32 = Int32.ofInt (z_i2b x) := by
  apply Int32.toInt_inj.mp
  rw [Int8.toInt_toInt32, Int32.toInt_toInt8, zr32_toInt hx]
  unfold z_i2b
  rw [zr32_toInt]
  have h1 := Int.bmod_lt (x := x) (m := 256) (by decide)
  have h2 := Int.le_bmod (x := x) (m := 256) (by decide)
  constructor <;> omega
theorem z_i2b_r (x : Int) : zr32 (z_i2b x) := by
  unfold z_i2b
  have h1 := Int.bmod_lt (x := x) (m := 256) (by decide)
  have h2 := Int.le_bmod (x := x) (m := 256) (by decide)
  constructor <;> omega
theorem z_b1_r (x : Int) : zr32 (z_b1 x) := by
  unfold z_b1
  constructor <;> omega
theorem zn_b1 {x : Int} (hx : zr32 x) : Int32.ofInt x &&& 1 = Int32.ofInt (z_b1 x) := by
  apply Int32.toInt_inj.mp
  unfold z_b1
  rw [zr32_toInt ⟨by omega, by omega⟩]
  have h : ((Int32.ofInt x) &&& 1).toBitVec = (Int32.ofInt x).toBitVec &&& 1#32 := rfl
  show ((Int32.ofInt x) &&& 1).toBitVec.toInt = _
  rw [h]
  have e : (Int32.ofInt x).toBitVec = BitVec.ofInt 32 x := rfl
  rw [e]
  have h3 : (BitVec.ofInt 32 x &&& 1#32).toNat = (x % 2).toNat := by
    rw [BitVec.toNat_and]
    show (BitVec.ofInt 32 x).toNat &&& 1 = _
    rw [Nat.and_one_is_mod, BitVec.toNat_ofInt]
    omega
  rw [BitVec.toInt_eq_toNat_cond, h3]
  omega
theorem zn_clampin {x : Int} {n : Nat} (hx : zr32 x) (h : 0 ≤ x ∧ x < (n : Int)) : ¬ (Int32.ofInt x < 0 ∨ n ≤ (Int32.ofInt x).toNatClampNeg) := by
  rw [zn_lt0 hx, zn_nat hx]
  omega
