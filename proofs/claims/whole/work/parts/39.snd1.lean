section ZH
theorem zand2 {a b : Bool} (h : (a && b) = true) : a = true ∧ b = true := by simpa using h
theorem zbx {β : Type} {r : β} {b : Bool} {a : Option β} (h : zbm b a none = some r) : b = true ∧ a = some r := by
  cases b with
  | true => exact ⟨rfl, h⟩
  | false => cases h
theorem zemx {β : Type} {r : β} {q : Nat} {a0 a1 a2 a3 a4 a5 a6 : Option β} (h : zem q a0 a1 a2 a3 a4 a5 a6 none = some r) : (q = 0 ∧ a0 = some r) ∨ (q = 1 ∧ a1 = some r) ∨ (q = 2 ∧ a2 = some r) ∨ (q = 3 ∧ a3 = some r) ∨ (q = 4 ∧ a4 = some r) ∨ (q = 5 ∧ a5 = some r) ∨ (q = 6 ∧ a6 = some r) := by
  match q, h with
  | 0, h => exact .inl ⟨rfl, h⟩
  | 1, h => exact .inr (.inl ⟨rfl, h⟩)
  | 2, h => exact .inr (.inr (.inl ⟨rfl, h⟩))
  | 3, h => exact .inr (.inr (.inr (.inl ⟨rfl, h⟩)))
  | 4, h => exact .inr (.inr (.inr (.inr (.inl ⟨rfl, h⟩))))
  | 5, h => exact .inr (.inr (.inr (.inr (.inr (.inl ⟨rfl, h⟩)))))
  | 6, h => exact .inr (.inr (.inr (.inr (.inr (.inr ⟨rfl, h⟩)))))
  | _ + 7, h => cases h
theorem zr32_b {x : Int} (h : zr32b x = true) : zr32 x := by
  obtain ⟨a, b⟩ := zand2 h
  exact ⟨of_decide_eq_true a, of_decide_eq_true b⟩
theorem zr64_b {x : Int} (h : zr64b x = true) : zr64 x := by
  obtain ⟨a, b⟩ := zand2 h
  exact ⟨of_decide_eq_true a, of_decide_eq_true b⟩
theorem zr64_fin (n : Fin 2) : zr64 ((n : Nat) : Int) := ⟨by omega, by omega⟩
theorem zl_0 {x : Int} (hx : zr64 x) : Int64.ofInt x = 0 ↔ x = 0 := zl_eq (y := 0) hx ⟨by decide, by decide⟩
theorem zge2 {x y : Int} (hx : zr32 x) (hy : zr32 y) (z : Int32.ofInt y ≤ Int32.ofInt x) : ¬ x < y := by have := (zn_le hy hx).mp z; omega
theorem znge2 {x y : Int} (hx : zr32 x) (hy : zr32 y) (z : ¬ Int32.ofInt y ≤ Int32.ofInt x) : x < y := by
  have : ¬ y ≤ x := fun w => z ((zn_le hy hx).mpr w)
  omega
theorem zgt2 {x y : Int} (hx : zr32 x) (hy : zr32 y) (z : Int32.ofInt y < Int32.ofInt x) : y < x := (zn_lt hy hx).mp z
theorem zngt2 {x y : Int} (hx : zr32 x) (hy : zr32 y) (z : ¬ Int32.ofInt y < Int32.ofInt x) : ¬ y < x := fun w => z ((zn_lt hy hx).mpr w)
theorem zle2 {x y : Int} (hx : zr32 x) (hy : zr32 y) (z : Int32.ofInt x ≤ Int32.ofInt y) : ¬ y < x := by have := (zn_le hx hy).mp z; omega
theorem znle2 {x y : Int} (hx : zr32 x) (hy : zr32 y) (z : ¬ Int32.ofInt x ≤ Int32.ofInt y) : y < x := by
  have : ¬ x ≤ y := fun w => z ((zn_le hx hy).mpr w)
  omega
theorem zge0 {x : Int} (hx : zr32 x) (z : 0 ≤ Int32.ofInt x) : ¬ x < 0 := zge2 hx zr_0 z
theorem znge0 {x : Int} (hx : zr32 x) (z : ¬ 0 ≤ Int32.ofInt x) : x < 0 := znge2 hx zr_0 z
theorem zgt0 {x : Int} (hx : zr32 x) (z : 0 < Int32.ofInt x) : 0 < x := zgt2 hx zr_0 z
theorem zngt0 {x : Int} (hx : zr32 x) (z : ¬ 0 < Int32.ofInt x) : ¬ 0 < x := zngt2 hx zr_0 z
theorem zle0 {x : Int} (hx : zr32 x) (z : Int32.ofInt x ≤ 0) : ¬ 0 < x := zle2 hx zr_0 z
theorem znle0 {x : Int} (hx : zr32 x) (z : ¬ Int32.ofInt x ≤ 0) : 0 < x := znle2 hx zr_0 z
theorem zacm {ρ : Nat → Nat → Nat} {B sl : Nat} {sx : Nat → Int} {M : ZM} {U : State} {H : Heap} {x y : Option Nat} (hW : zWf ρ B M) (hc : zcs ρ B sl sx U H) (hx : zvl M (.inr (.inr (12, x)))) (hy : zvl M (.inr (.inr (12, y)))) : (x.map (ρ 12) = y.map (ρ 12)) ↔ x = y := by
  have h30 : mC M 12 = 30 := hW.2.2.2.2.2.2.2.1
  have inj := hc.2.2.2.2.2.2.2.2.2.2
  refine ⟨fun h => ?_, fun h => by rw [h]⟩
  cases x with
  | none => cases y with
    | none => rfl
    | some b => cases h
  | some a => cases y with
    | none => cases h
    | some b =>
      have h1 : a < mC M 12 := hx a rfl
      have h2 : b < mC M 12 := hy b rfl
      have e : ρ 12 a = ρ 12 b := Option.some.inj h
      rw [inj a b (by omega) (by omega) e]
theorem zswg {β : Type} {r : β} {x lo : Int} {pc : Nat} {f : Nat → Option β} {d : Option β} : ∀ (os : List Int) (b : Nat) (ts : List Nat), os.map (fun o => (pc : Int) + o) = ts.map (fun t : Nat => (t : Int)) → zsw x ((List.range' b os.length).map (fun k : Nat => lo + (k : Int))) ts f d = some r →
    ((x < lo + (b : Int) ∨ lo + (b : Int) + (os.length : Int) ≤ x) ∧ d = some r) ∨ ∃ (k : Nat) (tgt : Nat) (off : Int), x = lo + ((b + k : Nat) : Int) ∧ os[k]? = some off ∧ (pc : Int) + off = (tgt : Int) ∧ f tgt = some r
  | [], b, ts, ht, h => .inl ⟨by simp; omega, h⟩
  | o :: os, b, [], ht, h => by simp at ht
  | o :: os, b, t :: ts, ht, h => by
    simp only [List.length_cons, List.range'_succ, List.map_cons, zsw] at h
    simp only [List.map_cons, List.cons.injEq] at ht
    by_cases e : x = lo + (b : Int)
    · rw [if_pos e] at h
      exact .inr ⟨0, t, o, by simpa using e, rfl, ht.1, h⟩
    · rw [if_neg e] at h
      rcases zswg os (b + 1) ts ht.2 h with ⟨h1, h2⟩ | ⟨k, tgt, off, h1, h2, h3, h4⟩
      · refine .inl ⟨?_, h2⟩
        simp only [List.length_cons]
        omega
      · exact .inr ⟨k + 1, tgt, off, by rw [h1]; congr 1; omega, by simpa using h2, h3, h4⟩
theorem zswx {β : Type} {r : β} {x lo : Int} {pc d0 : Nat} {offs : Array Int} {cv : List Int} {ts : List Nat} {f : Nat → Option β} {d : Option β} (hcv : cv = (List.range offs.size).map (fun k : Nat => lo + (k : Int))) (htg : offs.toList.map (fun o => (pc : Int) + o) = ((d0 :: ts).drop 1).map (fun t : Nat => (t : Int))) (h : zsw x cv ts f d = some r) :
    ((x < lo ∨ lo + (offs.size : Int) ≤ x) ∧ d = some r) ∨ ∃ (k : Nat) (tgt : Nat) (off : Int), x = lo + (k : Int) ∧ offs[k]? = some off ∧ (pc : Int) + off = (tgt : Int) ∧ f tgt = some r := by
  rw [hcv, List.range_eq_range'] at h
  rw [← Array.length_toList] at h ⊢
  rcases zswg offs.toList 0 ts htg h with ⟨h1, h2⟩ | ⟨k, tgt, off, h1, h2, h3, h4⟩
  · exact .inl ⟨by simpa using h1, h2⟩
  · exact .inr ⟨k, tgt, off, by simpa using h1, by simpa using h2, h3, h4⟩
/-- the plane of a field by its type -/
def zpty (pl : Nat) (ty : FieldType) : Prop := (pl = 0 ∧ ty = .int) ∨ (pl = 1 ∧ ty = .boolean) ∨ (pl = 2 ∧ ty = .long) ∨ ((pl = 3 ∨ pl = 4) ∧ ∀ o : Option Nat, narrow ty (va_rf o) = va_rf o ∧ fits ty (va_rf o) = true ∧ defaultValue ty = .null)
def zptb (pl : Nat) (ty : FieldType) : Bool := match pl, ty with
  | 0, .int => true
  | 1, .boolean => true
  | 2, .long => true
  | 3, .object _ => true
  | 3, .array _ => true
  | 4, .object _ => true
  | _, _ => false
theorem zpt_of {pl : Nat} {ty : FieldType} (h : zptb pl ty = true) : zpty pl ty := by
  unfold zptb at h
  split at h
  · exact .inl ⟨rfl, rfl⟩
  · exact .inr (.inl ⟨rfl, rfl⟩)
  · exact .inr (.inr (.inl ⟨rfl, rfl⟩))
  · exact .inr (.inr (.inr ⟨.inl rfl, fun o => by cases o <;> exact ⟨rfl, rfl, rfl⟩⟩))
  · exact .inr (.inr (.inr ⟨.inl rfl, fun o => by cases o <;> exact ⟨rfl, rfl, rfl⟩⟩))
  · exact .inr (.inr (.inr ⟨.inr rfl, fun o => by cases o <;> exact ⟨rfl, rfl, rfl⟩⟩))
  · cases h
theorem zin_1 : ∀ w ∈ u_ws RX1 TX1 7, w ∈ lw_tz := by decide +kernel
theorem zin_2 : ∀ w ∈ u_ws RX2 TX2 2, w ∈ lw_tz := by decide +kernel
theorem zin_3 : ∀ w ∈ u_ws RX3 TX3 4, w ∈ lw_tz := by decide +kernel
theorem zin_4 : ∀ w ∈ u_ws RX4 TX4 2, w ∈ lw_tz := by decide +kernel
theorem zin_5 : ∀ w ∈ u_ws RX5 TX5 15, w ∈ lw_tz := by decide +kernel
theorem zin_6 : ∀ w ∈ u_ws RX6 TX6 7, w ∈ lw_tz := by decide +kernel
theorem zin_7 : ∀ w ∈ u_ws RX7 TX7 9, w ∈ lw_tz := by decide +kernel
theorem zin_8 : ∀ w ∈ u_ws RX8 TX8 6, w ∈ lw_tz := by decide +kernel
theorem zin_9 : ∀ w ∈ u_ws RX9 TX9 8, w ∈ lw_tz := by decide +kernel
theorem zin_10 : ∀ w ∈ u_ws RX10 TX10 7, w ∈ lw_tz := by decide +kernel
theorem zin_12 : ∀ w ∈ u_ws RX12 TX12 15, w ∈ lw_tz := by decide +kernel
theorem zin_13 : ∀ w ∈ u_ws RX13 TX13 60, w ∈ lw_tz := by decide +kernel
def zplok (t N : Nat) (ty : Nat → FieldType) : Bool := (List.range N).all (fun k => zptb (zfp t k).1 (ty k))
theorem zpl_of {t N : Nat} {ty : Nat → FieldType} (h : zplok t N ty = true) : ∀ k, k < N → zpty (zfp t k).1 (ty k) := fun k hk => zpt_of (List.all_eq_true.mp h k (List.mem_range.mpr hk))
theorem zclT {t : Nat} {q : vw_C} (h : vwCl[t]? = some q) : ∃ ty, zcl3 t q.1 q.2.1 q.2.2 ty ∧ (∀ k, k < q.2.2 → zpty (zfp t k).1 (ty k)) ∧ t < 12 := by
  have ht : t < 12 := (List.getElem?_eq_some_iff.mp h).1
  have e : t = 0 ∨ t = 1 ∨ t = 2 ∨ t = 3 ∨ t = 4 ∨ t = 5 ∨ t = 6 ∨ t = 7 ∨ t = 8 ∨ t = 9 ∨ t = 10 ∨ t = 11 := by omega
  rcases e with rfl | rfl | rfl | rfl | rfl | rfl | rfl | rfl | rfl | rfl | rfl | rfl <;> cases h
  · exact ⟨tyX1, ⟨rfl, zin_1, tyX1_ok, nmX1, rfl⟩, zpl_of (by decide +kernel), ht⟩
  · exact ⟨tyX2, ⟨rfl, zin_2, tyX2_ok, nmX2, rfl⟩, zpl_of (by decide +kernel), ht⟩
  · exact ⟨tyX3, ⟨rfl, zin_3, tyX3_ok, nmX3, rfl⟩, zpl_of (by decide +kernel), ht⟩
  · exact ⟨tyX4, ⟨rfl, zin_4, tyX4_ok, nmX4, rfl⟩, zpl_of (by decide +kernel), ht⟩
  · exact ⟨tyX5, ⟨rfl, zin_5, tyX5_ok, nmX5, rfl⟩, zpl_of (by decide +kernel), ht⟩
  · exact ⟨tyX6, ⟨rfl, zin_6, tyX6_ok, nmX6, rfl⟩, zpl_of (by decide +kernel), ht⟩
  · exact ⟨tyX7, ⟨rfl, zin_7, tyX7_ok, nmX7, rfl⟩, zpl_of (by decide +kernel), ht⟩
  · exact ⟨tyX8, ⟨rfl, zin_8, tyX8_ok, nmX8, rfl⟩, zpl_of (by decide +kernel), ht⟩
  · exact ⟨tyX9, ⟨rfl, zin_9, tyX9_ok, nmX9, rfl⟩, zpl_of (by decide +kernel), ht⟩
  · exact ⟨tyX10, ⟨rfl, zin_10, tyX10_ok, nmX10, rfl⟩, zpl_of (by decide +kernel), ht⟩
  · exact ⟨tyX12, ⟨rfl, zin_12, tyX12_ok, nmX12, rfl⟩, zpl_of (by decide +kernel), ht⟩
  · exact ⟨tyX13, ⟨rfl, zin_13, tyX13_ok, nmX13, rfl⟩, zpl_of (by decide +kernel), ht⟩
theorem zty_of {t : Nat} (h : zek t ≤ 3) : (zek t = 0 → zty t = .int) ∧ (zek t = 1 → zty t = .long) ∧ (zek t = 2 → zty t = .byte) ∧ (zek t = 3 → zty t = .boolean) := by
  unfold zek at h ⊢
  unfold zty
  split <;> simp_all
  all_goals first | omega | (split <;> decide)
def zks (dC : Nat → ClassId) (dI : Nat → Nat → Nat) (aC : Nat → ClassId) (U : State) : Prop := va_K (dC, dI) vwCl ((List.range 104).map (fun t => (aC t, zty t))) U
theorem zks_at {dC : Nat → ClassId} {dI : Nat → Nat → Nat} {aC : Nat → ClassId} {U : State} (h : zks dC dI aC U) {t : Nat} (ht : t < 104) : ArrOfT U (aC t) (zty t) ∧ va_RA U (aC t) (zty t) := h.2 t (aC t, zty t) (by simp [ht])
end ZH
