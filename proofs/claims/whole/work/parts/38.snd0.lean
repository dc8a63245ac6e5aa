section ZSD
def zLR (ρ : Nat → Nat → Nat) (ls : ZL) (lsC : Array Slot) (nl : Nat) : Prop := lsC.size = nl ∧ lv_wf lsC ∧ ∀ i v, znt ls i = some v → lsC[i]? = some (.val (zcv ρ v))
def zal (ρ : Nat → Nat → Nat) : Nat → ZL → List (Nat × Value)
  | _, [] => []
  | i, none :: l => zal ρ (i + 1) l
  | i, some v :: l => (i, zcv ρ v) :: zal ρ (i + 1) l
theorem zal_mem {ρ : Nat → Nat → Nat} : ∀ {l : ZL} {i j : Nat} {v : ZV}, znt l j = some v → (i + j, zcv ρ v) ∈ zal ρ i l
  | [], _, _, _, h => by simp [znt] at h
  | a :: l, i, 0, v, h => by
    have e : a = some v := h
    rw [e]
    exact List.mem_cons_self
  | a :: l, i, j + 1, v, h => by
    have h2 := zal_mem (ρ := ρ) (l := l) (i := i + 1) (j := j) (v := v) h
    have e : i + 1 + j = i + (j + 1) := by omega
    rw [e] at h2
    cases a with
    | none => exact h2
    | some w => exact List.mem_cons_of_mem _ h2
theorem zal_of {ρ : Nat → Nat → Nat} : ∀ {l : ZL} {i : Nat} {q : Nat × Value}, q ∈ zal ρ i l → ∃ j v, q = (i + j, zcv ρ v) ∧ znt l j = some v
  | [], _, _, h => by cases h
  | none :: l, i, q, h => by
    obtain ⟨j, v, e, hv⟩ := zal_of (l := l) (i := i + 1) h
    exact ⟨j + 1, v, by rw [e]; congr 1; omega, hv⟩
  | some w :: l, i, q, h => by
    rcases List.mem_cons.mp h with e | h
    · exact ⟨0, w, e, rfl⟩
    · obtain ⟨j, v, e, hv⟩ := zal_of (l := l) (i := i + 1) h
      exact ⟨j + 1, v, by rw [e]; congr 1; omega, hv⟩
theorem zLR.has {ρ : Nat → Nat → Nat} {ls : ZL} {lsC : Array Slot} {nl : Nat} (h : zLR ρ ls lsC nl) : lv_has lsC nl (zal ρ 0 ls) := by
  refine ⟨h.1, h.2.1, fun q hq => ?_⟩
  obtain ⟨j, v, e, hv⟩ := zal_of hq
  rw [e, Nat.zero_add]
  exact h.2.2 j v hv
theorem znt_se : ∀ (l : ZL) (i j : Nat) (x : Option ZV) (v : ZV), znt (zse l i x) j = some v → (j = i ∧ x = some v) ∨ (j ≠ i ∧ znt l j = some v)
  | [], i, j, x, v, h => by simp [zse, znt] at h
  | a :: l, 0, 0, x, v, h => .inl ⟨rfl, h⟩
  | a :: l, 0, j + 1, x, v, h => .inr ⟨by omega, h⟩
  | a :: l, i + 1, 0, x, v, h => .inr ⟨by omega, h⟩
  | a :: l, i + 1, j + 1, x, v, h => by
    rcases znt_se l i j x v h with ⟨e, h2⟩ | ⟨e, h2⟩
    · exact .inl ⟨by omega, h2⟩
    · exact .inr ⟨by omega, h2⟩
theorem znt_cl {l : ZL} {i j : Nat} {v : ZV} (h : znt (zcl l i) j = some v) : znt l j = some v ∧ (j + 1 = i → (zcv (fun _ _ => 0) v).category ≠ 2) := by
  cases i with
  | zero => exact ⟨h, fun e => by omega⟩
  | succ k =>
    simp only [zcl] at h
    split at h
    · next y e =>
      rcases znt_se l k j none v h with ⟨_, h2⟩ | ⟨e2, h2⟩
      · cases h2
      · exact ⟨h2, fun z => by omega⟩
    · next e =>
      refine ⟨h, fun z => ?_⟩
      have hj : j = k := by omega
      subst hj
      rcases v with x | x | ⟨t, o⟩
      · show (1:Nat) ≠ 2; decide
      · exact absurd h (e x)
      · cases o <;> (show (1:Nat) ≠ 2; decide)
theorem zcv_cat (ρ : Nat → Nat → Nat) (v : ZV) : (zcv ρ v).category = (zcv (fun _ _ => 0) v).category := by
  rcases v with x | x | ⟨t, o⟩
  · rfl
  · rfl
  · cases o <;> rfl
theorem zLR_s1 {ρ : Nat → Nat → Nat} {ls : ZL} {lsC : Array Slot} {nl i : Nat} {x : ZV} (h : lv_has lsC nl ((i, zcv ρ x) :: (zal ρ 0 ls).filter (fun q => !(q.1 == i) && !(q.1 + 1 == i && q.2.category == 2)))) : zLR ρ (zse (zcl ls i) i (some x)) lsC nl := by
  refine ⟨h.1, h.2.1, fun j v hv => ?_⟩
  rcases znt_se _ _ _ _ _ hv with ⟨e, h2⟩ | ⟨e, h2⟩
  · cases h2
    rw [e]
    exact h.2.2 _ List.mem_cons_self
  · obtain ⟨h3, h4⟩ := znt_cl h2
    have hm := zal_mem (ρ := ρ) (i := 0) h3
    rw [Nat.zero_add] at hm
    refine h.2.2 (j, zcv ρ v) (List.mem_cons_of_mem _ (List.mem_filter.mpr ⟨hm, ?_⟩))
    have h5 : (j == i) = false := by simpa using e
    by_cases h6 : j + 1 = i
    · have := h4 h6
      rw [← zcv_cat ρ] at this
      simp [h5, this]
    · simp [h5, h6]
theorem zLR_s2 {ρ : Nat → Nat → Nat} {ls : ZL} {lsC : Array Slot} {nl i : Nat} {x : ZV} (h : lv_has lsC nl ((i, zcv ρ x) :: (zal ρ 0 ls).filter (fun q => !(q.1 == i) && (!(q.1 == i + 1) && !(q.1 + 1 == i && q.2.category == 2))))) : zLR ρ (zse (zse (zcl ls i) i (some x)) (i + 1) none) lsC nl := by
  refine ⟨h.1, h.2.1, fun j v hv => ?_⟩
  rcases znt_se _ _ _ _ _ hv with ⟨_, h2⟩ | ⟨e1, h1⟩
  · cases h2
  · rcases znt_se _ _ _ _ _ h1 with ⟨e, h2⟩ | ⟨e, h2⟩
    · cases h2
      rw [e]
      exact h.2.2 _ List.mem_cons_self
    · obtain ⟨h3, h4⟩ := znt_cl h2
      have hm := zal_mem (ρ := ρ) (i := 0) h3
      rw [Nat.zero_add] at hm
      refine h.2.2 (j, zcv ρ v) (List.mem_cons_of_mem _ (List.mem_filter.mpr ⟨hm, ?_⟩))
      have h5 : (j == i) = false := by simpa using e
      have h7 : (j == i + 1) = false := by simpa using e1
      by_cases h6 : j + 1 = i
      · have := h4 h6
        rw [← zcv_cat ρ] at this
        simp [h5, h7, this]
      · simp [h5, h7, h6]
theorem zLR_inc {ρ : Nat → Nat → Nat} {ls : ZL} {ls0 lsC : Array Slot} {nl i : Nat} {x y : Int} (h0 : zLR ρ ls ls0 nl) (hx : znt ls i = some (.inl y)) (h : lv_has lsC nl ((i, zcv ρ (.inl x)) :: (zal ρ 0 ls).filter (fun q => !(q.1 == i) && !(q.1 + 1 == i && q.2.category == 2)))) : zLR ρ (zse ls i (some (.inl x))) lsC nl := by
  refine ⟨h.1, h.2.1, fun j v hv => ?_⟩
  rcases znt_se _ _ _ _ _ hv with ⟨e, h2⟩ | ⟨e, h2⟩
  · cases h2
    rw [e]
    exact h.2.2 _ List.mem_cons_self
  · have hm := zal_mem (ρ := ρ) (i := 0) h2
    rw [Nat.zero_add] at hm
    refine h.2.2 (j, zcv ρ v) (List.mem_cons_of_mem _ (List.mem_filter.mpr ⟨hm, ?_⟩))
    have h5 : (j == i) = false := by simpa using e
    by_cases h6 : j + 1 = i
    · have hc : (zcv ρ v).category ≠ 2 := by
        intro hc
        have h7 := h0.2.1.1 j _ (h0.2.2 j v h2) hc
        rw [h6, h0.2.2 i _ hx] at h7
        cases h7
      simp [h5, hc]
    · simp [h5, h6]
theorem zen_nt {ρ : Nat → Nat → Nat} : ∀ {as : List ZV} {n i j : Nat} {v : ZV}, znt (zen n as) j = some v → (i + j, zcv ρ v) ∈ lv_args i (as.map (zcv ρ))
  | as, 0, i, j, v, h => by simp [zen, znt] at h
  | [], n + 1, i, j, v, h => by
    exfalso
    have : ∀ n j, znt (zen n []) j = none := by
      intro n
      induction n with
      | zero => intro j; simp [zen, znt]
      | succ n ih =>
        intro j
        cases j with
        | zero => rfl
        | succ j => exact ih j
    rw [this] at h
    cases h
  | .inl x :: l, n + 1, i, 0, v, h => by
    cases h
    exact List.mem_cons_self
  | .inl x :: l, n + 1, i, j + 1, v, h => by
    have h2 := zen_nt (ρ := ρ) (as := l) (n := n) (i := i + 1) (j := j) (v := v) h
    have e : i + 1 + j = i + (j + 1) := by omega
    rw [e] at h2
    exact List.mem_cons_of_mem _ h2
  | .inr (.inr (t, o)) :: l, n + 1, i, 0, v, h => by
    cases h
    exact List.mem_cons_self
  | .inr (.inr (t, o)) :: l, n + 1, i, j + 1, v, h => by
    have h2 := zen_nt (ρ := ρ) (as := l) (n := n) (i := i + 1) (j := j) (v := v) h
    have e : i + 1 + j = i + (j + 1) := by omega
    rw [e] at h2
    refine List.mem_cons_of_mem _ ?_
    have hc : ¬ (zcv ρ (.inr (.inr (t, o)))).category = 2 := by cases o <;> simp [zcv, va_rf, Value.category]
    rw [if_neg hc]
    exact h2
  | .inr (.inl x) :: l, 1, i, j, v, h => by simp [zen, znt] at h
  | .inr (.inl x) :: l, n + 2, i, 0, v, h => by
    cases h
    exact List.mem_cons_self
  | .inr (.inl x) :: l, n + 2, i, 1, v, h => by
    exfalso
    have e : znt (zen (n + 2) (.inr (.inl x) :: l)) 1 = none := rfl
    rw [e] at h
    cases h
  | .inr (.inl x) :: l, n + 2, i, j + 2, v, h => by
    have h2 := zen_nt (ρ := ρ) (as := l) (n := n) (i := i + 2) (j := j) (v := v) h
    have e : i + 2 + j = i + (j + 2) := by omega
    rw [e] at h2
    exact List.mem_cons_of_mem _ h2
theorem zen_in : ∀ {as : List ZV} {n j : Nat} {v : ZV}, znt (zen n as) j = some v → v ∈ as
  | as, 0, j, v, h => by simp [zen, znt] at h
  | [], n + 1, j, v, h => by
    have h2 := zen_nt (ρ := fun _ _ => 0) (i := 0) h
    cases h2
  | .inl x :: l, n + 1, 0, v, h => by cases h; exact List.mem_cons_self
  | .inl x :: l, n + 1, j + 1, v, h => List.mem_cons_of_mem _ (zen_in (as := l) (n := n) (j := j) h)
  | .inr (.inr q) :: l, n + 1, 0, v, h => by cases h; exact List.mem_cons_self
  | .inr (.inr q) :: l, n + 1, j + 1, v, h => List.mem_cons_of_mem _ (zen_in (as := l) (n := n) (j := j) h)
  | .inr (.inl x) :: l, 1, j, v, h => by simp [zen, znt] at h
  | .inr (.inl x) :: l, n + 2, 0, v, h => by cases h; exact List.mem_cons_self
  | .inr (.inl x) :: l, n + 2, 1, v, h => by
    exfalso
    have e : znt (zen (n + 2) (.inr (.inl x) :: l)) 1 = none := rfl
    rw [e] at h
    cases h
  | .inr (.inl x) :: l, n + 2, j + 2, v, h => List.mem_cons_of_mem _ (zen_in (as := l) (n := n) (j := j) h)
theorem zsz_len (ρ : Nat → Nat → Nat) : ∀ as : List ZV, (lg_sl (as.map (zcv ρ))).length = zsz as
  | [] => rfl
  | .inl x :: l => by
    have := zsz_len ρ l
    simp only [lg_sl, List.map_cons, List.flatMap_cons, List.length_append, zsz] at this ⊢
    rw [this]
    simp [zcv, Value.category]
    omega
  | .inr (.inl x) :: l => by
    have := zsz_len ρ l
    simp only [lg_sl, List.map_cons, List.flatMap_cons, List.length_append, zsz] at this ⊢
    rw [this]
    simp [zcv, Value.category]
    omega
  | .inr (.inr (t, o)) :: l => by
    have := zsz_len ρ l
    simp only [lg_sl, List.map_cons, List.flatMap_cons, List.length_append, zsz] at this ⊢
    rw [this]
    cases o <;> simp [zcv, va_rf, Value.category] <;> omega
theorem zpo_spec : ∀ {n : Nat} {acc st as r : List ZV}, zpo n acc st = some (as, r) → ∃ pre, as = pre ++ acc ∧ st = pre.reverse ++ r ∧ pre.length = n
  | 0, acc, st, as, r, h => by
    simp only [zpo, Option.some.injEq, Prod.mk.injEq] at h
    exact ⟨[], by rw [← h.1]; rfl, by rw [← h.2]; rfl, rfl⟩
  | n + 1, acc, [], as, r, h => by simp [zpo] at h
  | n + 1, acc, v :: st, as, r, h => by
    obtain ⟨pre, h1, h2, h3⟩ := zpo_spec (n := n) (acc := v :: acc) (st := st) h
    exact ⟨pre ++ [v], by rw [h1]; simp, by rw [h2]; simp, by simp [h3]⟩
theorem zcat_sum (ρ : Nat → Nat → Nat) : ∀ r : List ZV, ((r.map (zcv ρ)).map fun v => v.category).sum ≤ 2 * r.length
  | [] => by simp
  | v :: l => by
    have := zcat_sum ρ l
    have h2 : (zcv ρ v).category ≤ 2 := by
      rcases v with x | x | ⟨t, o⟩
      · show (1:Nat) ≤ 2; decide
      · show (2:Nat) ≤ 2; decide
      · cases o <;> (show (1:Nat) ≤ 2; decide)
    simp only [List.map_cons, List.sum_cons, List.length_cons]
    omega
end ZSD
