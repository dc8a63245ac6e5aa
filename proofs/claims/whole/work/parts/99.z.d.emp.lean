section ZEMP
variable {dC : Nat → ClassId} {dI : Nat → Nat → Nat} {aC : Nat → ClassId} {B sl : Nat} {sx : Nat → Int} {ρ : Nat → Nat → Nat}
/-- a memory with nothing in it but the constants -/
def zMz (sx : Nat → Int) : ZM := (fun _ _ _ => 0, fun _ _ _ => 0, (none, none, none, none), (zF0, zN0, zKI sx, zKL, zC0), 0, 0)
theorem zC0_m {t : Nat} (h : zmt t = true) : zC0 t = 0 := by
  unfold zC0
  split
  · next z => subst z; exact absurd h (by decide)
  · split
    · next z => subst z; exact absurd h (by decide)
    · split
      · next z => subst z; exact absurd h (by decide)
      · split
        · next z => subst z; exact absurd h (by decide)
        · rfl
theorem zrg_n (r : Nat) : zrg (none, none, none, none) r = none := by
  unfold zrg
  split <;> rfl
theorem zMz_wf (h : ∀ t i k, ((t = 12 → i < 30) → zr32 (zKI sx t i k)) ∧ zr64 (zKL t i k)) : zWf ρ B (zMz sx) := by
  refine ⟨fun t i k => ⟨⟨show (-2147483648 : Int) ≤ 0 by decide, show (0 : Int) < 2147483648 by decide⟩, ⟨show (-9223372036854775808 : Int) ≤ 0 by decide, show (0 : Int) < 9223372036854775808 by decide⟩, (h t i k).1, (h t i k).2⟩, fun t i k j hi hp hf => ?_, fun r j hr => ?_, fun t i t' i' ht ht' hi => ?_, fun t i ht hi => ?_, ⟨fun _ => rfl, fun _ => rfl, fun _ => ⟨rfl, rfl⟩, show zC0 5 ≤ 1 by decide, show zC0 8 ≤ 1 by decide, show zC0 10 ≤ 1 by decide⟩, fun t i _ _ => ?_, ⟨rfl, rfl, rfl, show zC0 102 ≤ 1 by decide, rfl, rfl, fun k hk => ?_, fun t ht => ?_⟩⟩
  · replace hf : zF0 t i k = some j := hf
    unfold zF0 at hf
    split at hf
    · next z =>
      subst z
      split at hf
      · next hk =>
        cases hf
        exact hk
      · cases hf
    · cases hf
  · have := (zrg_n r).symm.trans hr
    cases this
  · replace hi : i < zC0 t := hi
    rw [zC0_m ht] at hi
    exact absurd hi (Nat.not_lt_zero _)
  · replace hi : i < zC0 t := hi
    rw [zC0_m ht] at hi
    exact absurd hi (Nat.not_lt_zero _)
  · show zN0 t i < 2147483648
    unfold zN0
    split
    · decide
    · split
      · decide
      · split <;> decide
  · show zF0 100 0 k = some k
    unfold zF0
    rw [if_pos rfl, if_pos hk]
  · show zC0 t = 0
    unfold zC0
    rw [if_neg (by omega), if_neg (by omega), if_neg (by omega), if_neg (by omega)]
theorem zMz_hp {H : Heap} : zHp ρ dC dI aC (zMz sx) H := fun t i ht hi => by
  replace hi : i < zC0 t := hi
  rw [zC0_m ht] at hi
  exact absurd hi (Nat.not_lt_zero _)
theorem zMz_kc : zkc sl sx (zMz sx) := ⟨fun _ _ _ => rfl, fun _ _ _ => rfl, fun z => absurd (show zC0 102 = 1 from z) (by decide)⟩
theorem zcs_nw {B' : Nat} (hB : B ≤ B') {U : State} {H : Heap} (h : zcs ρ B sl sx U H) : zcs ρ B' sl sx U H := by
  have hA : ∀ q, zA B' q → zA B q := fun q hq => Nat.le_trans hB hq
  obtain ⟨h1, h2, h3, h4, h5, h6, h7, h8, h9, h10, h11⟩ := h
  exact ⟨fun i hi => (h1 i hi).narrow hA, h2.narrow hA, h3.narrow hA, fun i hi => (h4 i hi).narrow hA, fun i hi => (h5 i hi).narrow hA, fun i hi => (h6 i hi).narrow hA, fun i hi => (h7 i hi).narrow hA, h8.narrow hA, h9.narrow hA, h10.narrow hA, h11⟩
theorem zR5_no {l : Launch} : zR5 l dC dI aC B sl sx (fun _ => False) := by
  intro p e s m args below meth c R H locs cells slots lsC Q y cc nl pc idx ρ M x o p0 p1 p2 p3 rest h
  exact h.elim
theorem hp_eq {H H' : Heap} {locs : List Loc} (h : va_S (zA H.size) H H' locs) (hz : H'.size ≤ H.size + 0) : H' = H := by
  refine Array.ext_getElem? (fun i => ?_)
  by_cases hi : i < H.size
  · exact h.2.1 i hi (fun z => absurd z (Nat.not_le.mpr hi))
  · rw [Array.getElem?_eq_none (by omega), Array.getElem?_eq_none (by omega)]
theorem zrl_b {l t s : Int} : (zrl l t s).length ≤ 4 ∧ ∀ v ∈ zrl l t s, 0 ≤ v ∧ v ≤ 3 := by
  unfold zrl
  split <;> split <;> split <;> split <;> simp
theorem zrv_b (l t s w : Int) : 0 ≤ zrv l t s w ∧ zrv l t s w ≤ 4 := by
  unfold zrv
  cases h : zrests l t s w with
  | none => exact ⟨by decide, by decide⟩
  | some v =>
    show 0 ≤ v ∧ v ≤ 4
    unfold zrests at h
    split at h
    · split at h
      · cases h
        have := (zrl_b (l := l) (t := t) (s := s)).1
        omega
      · have hm := List.mem_of_getElem? h
        have := (zrl_b (l := l) (t := t) (s := s)).2 v hm
        omega
    · cases h
theorem zrv_32 (l t s w : Int) : zr32 (zrv l t s w) := by have := zrv_b l t s w; constructor <;> omega
theorem zrv_64 (l t s w : Int) : zr64 (zrv l t s w) := by have := zrv_b l t s w; constructor <;> omega
theorem W_sz {p : Program} {l : Launch} {e : Env} {R : Room} {s : State} {m : MethodId} {args : Array Value} {below : List Frame} {meth : Method} {c : Code} {H : Heap} {locs : List Loc} {cells slots : Nat} {Q : State → Prop} {g : JFrame} (k : H.size ≤ s.heap.size + cells → W p l e R s m args below meth c H locs cells slots Q g) : W p l e R s m args below meth c H locs cells slots Q g := fun T hT X => k (by
  have := X.same.2.2.1
  rw [← hT]
  exact this) T hT X
end ZEMP
