section TOOL
variable {β : Type} {M : ZM} {v : Int}
theorem zB_s {f : Int → ZM → Option β} : zB (some (v, M)) f = f v M := rfl
theorem zBv_s {f : ZM → Option β} : zBv (some M) f = f M := rfl
theorem zO_s {i : Nat} {f : Nat → Option β} : zO (some i) f = f i := rfl
theorem zN_s {i : Nat} {a : β} {f : Nat → β} : zN (some i) a f = f i := rfl
theorem zN_n {a : β} {f : Nat → β} : zN none a f = a := rfl
theorem zI_t {c : Prop} [Decidable c] {a : Option β} (h : c) : zI c a = a := if_pos h
end TOOL
section RW
variable {M : ZM} {t i k t' i' k' : Nat} {x : Int} {r : ZRg}
theorem mI_pL : mI (pL M t i k x) t' i' k' = mI M t' i' k' := rfl
theorem mI_pR : mI (pR M r) t' i' k' = mI M t' i' k' := rfl
theorem mL_pI : mL (pI M t i k x) t' i' k' = mL M t' i' k' := rfl
theorem mL_pR : mL (pR M r) t' i' k' = mL M t' i' k' := rfl
theorem mR_pI : mR (pI M t i k x) = mR M := rfl
theorem mR_pL : mR (pL M t i k x) = mR M := rfl
theorem mR_pR : mR (pR M r) = r := rfl
theorem mK_pI : mK (pI M t i k x) = mK M := rfl
theorem mK_pL : mK (pL M t i k x) = mK M := rfl
theorem mK_pR : mK (pR M r) = mK M := rfl
theorem mN_pI : mN (pI M t i k x) t' i' = mN M t' i' := rfl
theorem mN_pL : mN (pL M t i k x) t' i' = mN M t' i' := rfl
theorem mKI_pI : mKI (pI M t i k x) t' i' k' = mKI M t' i' k' := rfl
theorem mKL_pI : mKL (pI M t i k x) t' i' k' = mKL M t' i' k' := rfl
theorem pI_2 : (pI M t i k x).2 = M.2 := rfl
theorem mI_pI_ne (h : ¬ (t' = t ∧ i' = i ∧ k' = k)) : mI (pI M t i k x) t' i' k' = mI M t' i' k' := if_neg h
theorem mI_pI_eq : mI (pI M t i k x) t i k = x := if_pos ⟨rfl, rfl, rfl⟩
theorem mI_pCp {t1 i1 sp t2 i2 dp n : Nat} : mI (pCp M t1 i1 sp t2 i2 dp n) t i k = if t = t2 ∧ i = i2 ∧ dp ≤ k ∧ k < dp + n then mI M t1 i1 (sp + (k - dp)) else mI M t i k := rfl
theorem pCp_2 {t1 i1 sp t2 i2 dp n : Nat} : (pCp M t1 i1 sp t2 i2 dp n).2 = M.2 := rfl
theorem mL_2 {M M' : ZM} (h : M'.2 = M.2) (t i k : Nat) : mL M' t i k = mL M t i k := by unfold mL; rw [h]
theorem mR_2 {M M' : ZM} (h : M'.2 = M.2) : mR M' = mR M := by unfold mR; rw [h]
theorem mK_2 {M M' : ZM} (h : M'.2 = M.2) : mK M' = mK M := by unfold mK; rw [h]
theorem mN_2 {M M' : ZM} (h : M'.2 = M.2) (t i : Nat) : mN M' t i = mN M t i := by unfold mN; rw [h]
end RW
theorem zs {x : Int} (h : -2147483648 ≤ x ∧ x < 2147483648) : z32 x = x := z32_id h
theorem zsucc {k : Nat} (h : k < 1000000) : z32 ((k : Int) + 1) = ((k + 1 : Nat) : Int) := by
  rw [zs (by omega)]; omega
theorem z32_add (x y : Int) : z32 (z32 x + y) = z32 (x + y) := by
  unfold z32; exact Int.bmod_add_bmod
theorem z32_add' (x y : Int) : z32 (x + z32 y) = z32 (x + y) := by
  unfold z32; exact Int.add_bmod_bmod
theorem z32_sub (x y : Int) : z32 (z32 x - y) = z32 (x - y) := by
  unfold z32; exact Int.bmod_sub_bmod
/-- only what S names has changed, and of ints alone -/
def zfr (S : Nat → Nat → Nat → Bool) (M M' : ZM) : Prop := M'.2 = M.2 ∧ ∀ t i k, S t i k = false → mI M' t i k = mI M t i k
theorem zfr.rf {S : Nat → Nat → Nat → Bool} (M : ZM) : zfr S M M := ⟨rfl, fun _ _ _ _ => rfl⟩
theorem zfr.tr {S : Nat → Nat → Nat → Bool} {M M1 M2 : ZM} (h : zfr S M M1) (h' : zfr S M1 M2) : zfr S M M2 := ⟨h'.1.trans h.1, fun t i k hs => (h'.2 t i k hs).trans (h.2 t i k hs)⟩
theorem zfr.mo {S S' : Nat → Nat → Nat → Bool} {M M1 : ZM} (h : zfr S M M1) (hm : ∀ t i k, S' t i k = false → S t i k = false) : zfr S' M M1 := ⟨h.1, fun t i k hs => h.2 t i k (hm t i k hs)⟩
theorem zfr.pI {S : Nat → Nat → Nat → Bool} {M M1 : ZM} {t i k : Nat} {x : Int} (h : zfr S M M1) (hs : S t i k = true) : zfr S M (pI M1 t i k x) := by
  refine ⟨h.1, fun t' i' k' hs' => ?_⟩
  rw [mI_pI, if_neg]
  · exact h.2 t' i' k' hs'
  · rintro ⟨rfl, rfl, rfl⟩; rw [hs] at hs'; cases hs'
theorem zfr.pC {S : Nat → Nat → Nat → Bool} {M M1 : ZM} {t1 i1 sp t2 i2 dp n : Nat} (h : zfr S M M1) (hs : ∀ k, S t2 i2 k = true) : zfr S M (pCp M1 t1 i1 sp t2 i2 dp n) := by
  refine ⟨h.1, fun t' i' k' hs' => ?_⟩
  rw [mI_pCp, if_neg]
  · exact h.2 t' i' k' hs'
  · rintro ⟨rfl, rfl, _⟩; rw [hs] at hs'; cases hs'
theorem zfr.g {S : Nat → Nat → Nat → Bool} {M M1 : ZM} (h : zfr S M M1) {t i k : Nat} (hs : S t i k = false) : mI M1 t i k = mI M t i k := h.2 t i k hs
/-- sums over 0 .. n - 1 -/
def zsum (f : Nat → Int) : Nat → Int
  | 0 => 0
  | n + 1 => zsum f n + f n
theorem zsum_cg {f g : Nat → Int} : ∀ {n : Nat}, (∀ k, k < n → f k = g k) → zsum f n = zsum g n
  | 0, _ => rfl
  | n + 1, h => by rw [zsum, zsum, zsum_cg (fun k hk => h k (by omega)), h n (by omega)]
theorem zsum_ge {f : Nat → Int} {a : Int} : ∀ {n : Nat}, (∀ k, k < n → a ≤ f k) → a * n ≤ zsum f n
  | 0, _ => by simp [zsum]
  | n + 1, h => by
    have := zsum_ge (n := n) (a := a) (f := f) (fun k hk => h k (by omega))
    have := h n (by omega)
    rw [zsum]
    have e : a * ((n + 1 : Nat) : Int) = a * n + a := by rw [Int.natCast_add, Int.mul_add]; simp
    omega
theorem zsum_le {f : Nat → Int} {a : Int} : ∀ {n : Nat}, (∀ k, k < n → f k ≤ a) → zsum f n ≤ a * n
  | 0, _ => by simp [zsum]
  | n + 1, h => by
    have := zsum_le (n := n) (a := a) (f := f) (fun k hk => h k (by omega))
    have := h n (by omega)
    rw [zsum]
    have e : a * ((n + 1 : Nat) : Int) = a * n + a := by rw [Int.natCast_add, Int.mul_add]; simp
    omega
theorem zsum_0 {f : Nat → Int} {n : Nat} (h : ∀ k, k < n → f k = 0) : zsum f n = 0 := by
  induction n with
  | zero => rfl
  | succ n ih => rw [zsum, ih (fun k hk => h k (by omega)), h n (by omega)]; rfl
/-- bits of 0 .. n - 1 -/
def zbts (f : Nat → Bool) : Nat → Nat
  | 0 => 0
  | n + 1 => zbts f n ||| (if f n then 2 ^ n else 0)
theorem zbts_cg {f g : Nat → Bool} : ∀ {n : Nat}, (∀ k, k < n → f k = g k) → zbts f n = zbts g n
  | 0, _ => rfl
  | n + 1, h => by rw [zbts, zbts, zbts_cg (fun k hk => h k (by omega)), h n (by omega)]
theorem zbts_lt {f : Nat → Bool} : ∀ {n : Nat}, zbts f n < 2 ^ n
  | 0 => by simp [zbts]
  | n + 1 => by
    have h1 := zbts_lt (f := f) (n := n)
    have h2 : 2 ^ n < 2 ^ (n + 1) := Nat.pow_lt_pow_right (by decide) (by omega)
    rw [zbts]
    refine Nat.or_lt_two_pow (by omega) ?_
    split <;> omega
/-- bit t of b -/
def zbt (b t : Nat) : Bool := Nat.testBit b t
theorem zbts_t {f : Nat → Bool} {t : Nat} : ∀ {n : Nat}, zbt (zbts f n) t = (decide (t < n) && f t)
  | 0 => by simp [zbt, zbts]
  | n + 1 => by
    have h := zbts_t (f := f) (t := t) (n := n)
    unfold zbt at *
    rw [zbts, Nat.testBit_or, h]
    by_cases e : t = n
    · subst e
      cases hf : f t
      · simp
      · simp
    · have e2 : (t < n + 1) = (t < n) := by simp; omega
      simp only [e2]
      cases hf : f n
      · simp
      · simp [Nat.testBit_two_pow, Ne.symm e]
theorem zbt_or {a b t : Nat} : zbt (a ||| b) t = (zbt a t || zbt b t) := Nat.testBit_or ..
theorem zor_n : ∀ a : Nat, a < 64 → ∀ b : Nat, b < 64 → z_or (a : Int) (b : Int) = ((a ||| b : Nat) : Int) := by decide +kernel
theorem zsh_n : ∀ t : Nat, t < 6 → z_shl 1 (t : Int) = ((2 ^ t : Nat) : Int) := by decide +kernel
theorem zan_b : ∀ b : Nat, b < 64 → ∀ t : Nat, t < 6 → z_and (z_shr (b : Int) (t : Int)) 1 = if zbt b t then 1 else 0 := by decide +kernel
/-- without -/
def zdif (a b : Nat) : Nat := a &&& (63 ^^^ b)
theorem zdif_n : ∀ a : Nat, a < 64 → ∀ b : Nat, b < 64 → z_and (a : Int) (z_xor (b : Int) (-1)) = ((zdif a b : Nat) : Int) := by decide +kernel
theorem zdif_t : ∀ a : Nat, a < 64 → ∀ b : Nat, b < 64 → ∀ t : Nat, t < 6 → zbt (zdif a b) t = (zbt a t && !zbt b t) := by decide +kernel
theorem p2_64 {t : Nat} (h : t < 6) : 2 ^ t < 64 := Nat.lt_of_lt_of_le (Nat.pow_lt_pow_right (by decide) h) (by decide)
theorem zlen_n : ∀ (n : Nat) (l : List Nat), l.Nodup → (∀ t, t ∈ l → t < n) → l.length ≤ n := by
  intro n
  induction n with
  | zero =>
    intro l _ h
    cases l with
    | nil => simp
    | cons a l => exact absurd (h a List.mem_cons_self) (by omega)
  | succ n ih =>
    intro l hd h
    by_cases hm : n ∈ l
    · have h1 := ih (l.erase n) (hd.erase n) (fun t ht => by
        have a1 := h t (List.mem_of_mem_erase ht)
        have a2 := (hd.mem_erase_iff.1 ht).1
        omega)
      rw [List.length_erase_of_mem hm] at h1
      omega
    · have h1 := ih l hd (fun t ht => by
        have a1 := h t ht
        have a2 : t ≠ n := fun e => hm (e ▸ ht)
        omega)
      omega
theorem zlen6 {l : List Nat} (h1 : l.Nodup) (h2 : ∀ t, t ∈ l → t < 6) : l.length ≤ 6 := zlen_n 6 l h1 h2
