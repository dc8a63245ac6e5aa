theorem zsum_add1 {f g : Nat → Int} {k : Nat} {x : Int} : ∀ {n : Nat}, k < n → (∀ u, u < n → u ≠ k → g u = f u) → g k = f k + x → zsum g n = zsum f n + x := by
  intro n
  induction n with
  | zero => intros; omega
  | succ n ih =>
    intro hk h1 h2
    rw [zsum, zsum]
    by_cases b : k = n
    · subst b
      rw [zsum_cg (fun u hu => h1 u (by omega) (by omega)), h2]
      omega
    · rw [ih (by omega) (fun u hu he => h1 u (by omega) he) h2, h1 n (by omega) (fun e => b e.symm)]
      omega
theorem nd_inj {l : List Nat} (h : l.Nodup) {i j : Nat} (hi : i < l.length) (hj : j < l.length) (e : l[i] = l[j]) : i = j := by
  have := List.pairwise_iff_getElem.1 (List.nodup_iff_pairwise_ne.1 h)
  rcases Nat.lt_trichotomy i j with b | b | b
  · exact absurd e (this i j hi hj b)
  · exact b
  · exact absurd e.symm (this j i hj hi b)
section CABL
variable {P : PK} {pw : Nat → Int} {f : Int}
theorem mBr_out {r : List Nat} {u : Nat} (h : u ∉ r) : (mBr P pw f r).2.1 u = 0 := by
  induction r with
  | nil => rfl
  | cons t r ih =>
    simp only [List.mem_cons, not_or] at h
    simp only [mBr]
    rw [if_neg h.1]
    exact ih h.2
theorem mBr_pre {a r : List Nat} {u : Nat} (h : u ∉ a) : (mBr P pw f (a ++ r)).2.1 u = (mBr P pw f r).2.1 u := by
  induction a with
  | nil => rfl
  | cons t a ih =>
    simp only [List.mem_cons, not_or] at h
    simp only [List.cons_append, mBr]
    rw [if_neg h.1]
    exact ih h.2
theorem mBr_sum {n : Nat} : ∀ {r : List Nat}, r.Nodup → (∀ u, u ∈ r → u < n) → (∀ g : Nat, (mBr P pw f r).1 g = zsum (fun u => if u ∈ r ∧ qT P 4 u ≠ 6 ∧ (g : Int) = qT P 4 u then (mBr P pw f r).2.1 u else 0) n) ∧ (mBr P pw f r).2.2 = zsum (fun u => if u ∈ r ∧ qT P 4 u = 6 then (mBr P pw f r).2.1 u else 0) n := by
  intro r
  induction r with
  | nil =>
    intro _ _
    refine ⟨fun g => ?_, ?_⟩
    · rw [zsum_0 (fun k _ => by simp)]; rfl
    · rw [zsum_0 (fun k _ => by simp)]; rfl
  | cons t r ih =>
    intro hd hn
    rw [List.nodup_cons] at hd
    obtain ⟨i1, i2⟩ := ih hd.2 (fun u hu => hn u (List.mem_cons_of_mem _ hu))
    have htn := hn t List.mem_cons_self
    generalize hy : (if (t : Int) = f then 0 else zmin (pw t + (mBr P pw f r).1 t) (qT P 5 t)) = y
    refine ⟨fun g => ?_, ?_⟩
    · simp only [mBr, hy]
      by_cases b : qT P 4 t ≠ 6 ∧ (g : Int) = qT P 4 t
      · rw [if_pos b, i1 g]
        symm
        refine zsum_add1 (k := t) htn (fun u hu he => ?_) ?_
        · simp only [List.mem_cons, he, false_or, if_false]
        · simp [hd.1, b]
      · rw [if_neg b, i1 g]
        refine zsum_cg fun u hu => ?_
        by_cases he : u = t
        · subst he; rw [if_neg (fun h => hd.1 h.1), if_neg (fun h => b h.2)]
        · simp only [List.mem_cons, he, false_or, if_false]
    · simp only [mBr, hy]
      by_cases b : qT P 4 t = 6
      · rw [if_pos b, i2]
        symm
        refine zsum_add1 (k := t) htn (fun u hu he => ?_) ?_
        · simp only [List.mem_cons, he, false_or, if_false]
        · simp [hd.1, b]
      · rw [if_neg b, i2]
        refine zsum_cg fun u hu => ?_
        by_cases he : u = t
        · subst he; rw [if_neg (fun h => hd.1 h.1), if_neg (fun h => b h.2)]
        · simp only [List.mem_cons, he, false_or, if_false]
theorem VP.ltn (hv : VP P) {u : Nat} (h : u ∈ qO P) : u < qN P := by
  obtain ⟨j, hj, rfl⟩ := List.getElem_of_mem h
  exact (hv.ord j hj).1
/-- the cables' law -/
theorem mLd_eq (hv : VP P) {t : Nat} (ht : t < qN P) (hg : qT P 4 t ≠ -1) : mLd P pw f t = if (t : Int) = f then 0 else zmin (pw t + zsum (fun u => if qT P 4 u = t then mLd P pw f u else 0) (qN P)) (qT P 5 t) := by
  have hm := (hv.mem t ht).2 hg
  have h6 := hv.n
  obtain ⟨a, r, hsp⟩ := List.append_of_mem hm
  have hnd := hv.nd
  rw [hsp] at hnd
  have hdj := (List.nodup_append.1 hnd).2.2
  have hta : t ∉ a := fun h => hdj t h t List.mem_cons_self rfl
  have hnd2 := (List.nodup_append.1 hnd).2.1
  rw [List.nodup_cons] at hnd2
  have e1 : mLd P pw f t = if (t : Int) = f then 0 else zmin (pw t + (mBr P pw f r).1 t) (qT P 5 t) := by
    unfold mLd
    rw [hsp, mBr_pre hta]
    simp [mBr]
  have hrm : ∀ u, u ∈ r → u ∈ qO P := fun u hu => by rw [hsp]; simp [hu]
  have e2 : (mBr P pw f r).1 t = zsum (fun u => if qT P 4 u = t then mLd P pw f u else 0) (qN P) := by
    rw [(mBr_sum (n := qN P) hnd2.2 (fun u hu => hv.ltn (hrm u hu))).1 t]
    refine zsum_cg fun u hu => ?_
    by_cases b : qT P 4 u = t
    · have hur : u ∈ r := by
        have hum := (hv.mem u hu).2 (by omega)
        obtain ⟨j, hj, hju⟩ := List.getElem_of_mem hum
        obtain ⟨o1, o2⟩ := hv.ord j hj
        rw [hju] at o2
        rcases o2 with o2 | ⟨k, hk, o2⟩
        · omega
        · have hkt : (qO P)[k]'(Nat.lt_trans hk hj) = t := by omega
          -- t stands at k, before u at j
          have hal : (qO P)[a.length]'(by rw [hsp]; simp) = t := by simp [hsp]
          have hka : k = a.length := nd_inj hv.nd _ _ (hkt.trans hal.symm)
          have hj2 : j < (a ++ t :: r).length := hsp ▸ hj
          have : (a ++ t :: r)[j]'hj2 = u := by
            have : (qO P)[j]'hj = (a ++ t :: r)[j]'hj2 := by congr 1
            rw [← this]; exact hju
          rw [List.getElem_append_right (by omega)] at this
          have hj4 : j - a.length < (t :: r).length := by simp at hj2 ⊢; omega
          have hmm : ∀ (m : Nat) (hm : m < (t :: r).length), 0 < m → (t :: r)[m]'hm ∈ r := by
            intro m hm h0
            cases m with
            | zero => omega
            | succ m => rw [List.getElem_cons_succ]; exact List.getElem_mem _
          rw [← this]
          exact hmm _ hj4 (by omega)
      rw [if_pos b, if_pos ⟨hur, by omega, b.symm⟩]
      have hua : u ∉ a := fun h => hdj u h u (List.mem_cons_of_mem _ hur) rfl
      have hut : u ≠ t := fun h => hnd2.1 (h ▸ hur)
      unfold mLd
      rw [hsp, mBr_pre hua]
      simp [mBr, hut]
    · rw [if_neg b, if_neg (fun h => b h.2.2.symm)]
  rw [e1, e2]
theorem mHm_eq (hv : VP P) : mHm P pw f = zsum (fun u => if qT P 4 u = 6 then mLd P pw f u else 0) (qN P) := by
  unfold mHm
  rw [(mBr_sum (n := qN P) hv.nd (fun u hu => hv.ltn hu)).2]
  refine zsum_cg fun u hu => ?_
  by_cases b : qT P 4 u = 6
  · rw [if_pos b, if_pos ⟨(hv.mem u hu).2 (by omega), b⟩]; rfl
  · rw [if_neg b, if_neg (fun h => b h.2)]
theorem mLd_b (hv : VP P) (hp : ∀ t, t < qN P → 0 ≤ pw t) {u : Nat} : 0 ≤ mLd P pw f u ∧ mLd P pw f u ≤ 200 :=
  (mBr_b (P := P) (pw := pw) (f := f) hp (fun t ht => hv.h ht) (r := qO P) (fun u hu => ⟨hv.ltn hu, (hv.mem _ (hv.ltn hu)).1 hu⟩)).2.1 u
/-- over how many cables -/
def mHp (P : PK) : Nat → Int → Nat
  | 0, _ => 0
  | n + 1, k => if k = 6 ∨ qT P 4 k.toNat < 0 then 0 else mHp P n (qT P 4 k.toNat) + 1
def mHop (P : PK) (t : Nat) : Nat := mHp P 7 t
theorem mHp_6 {n : Nat} : mHp P n 6 = 0 := by cases n <;> simp [mHp]
theorem mHp_ord (hv : VP P) : ∀ (i : Nat) (hi : i < (qO P).length) (n : Nat), i + 1 ≤ n → mHp P n ((qO P)[i] : Nat) = mHp P (i + 1) ((qO P)[i] : Nat) ∧ 1 ≤ mHp P n ((qO P)[i] : Nat) ∧ mHp P n ((qO P)[i] : Nat) ≤ i + 1 := by
  intro i
  induction i using Nat.strongRecOn with
  | ind i ih =>
    intro hi n hn
    obtain ⟨o1, o2⟩ := hv.ord i hi
    have h6 := hv.n
    cases n with
    | zero => omega
    | succ n =>
      have hun : ∀ m, mHp P (m + 1) ((qO P)[i] : Nat) = mHp P m (qT P 4 (qO P)[i]) + 1 := by
        intro m
        rw [mHp, Int.toNat_natCast, if_neg (by
          rcases o2 with o2 | ⟨j, hj, o2⟩ <;> omega)]
      rw [hun n, hun i]
      rcases o2 with o2 | ⟨j, hj, o2⟩
      · rw [o2, mHp_6, mHp_6]; omega
      · rw [o2]
        have a1 := ih j hj (Nat.lt_trans hj hi) n (by omega)
        have a2 := ih j hj (Nat.lt_trans hj hi) i (by omega)
        omega
theorem mHop_b (hv : VP P) {t : Nat} (ht : t < qN P) : (qT P 4 t = -1 → mHop P t = 0) ∧ (qT P 4 t ≠ -1 → 1 ≤ mHop P t ∧ mHop P t ≤ 6) ∧ (qT P 4 t = 6 → mHop P t = 1) ∧ (∀ g : Nat, g < qN P → qT P 4 t = g → mHop P t = mHop P g + 1 ∧ qT P 4 g ≠ -1) := by
  have h6 := hv.n
  have hlen := zlen6 hv.nd (fun t ht => by have := hv.ltn ht; omega)
  refine ⟨fun h => ?_, fun h => ?_, fun h => ?_, fun g hg h => ?_⟩
  · unfold mHop mHp; rw [Int.toNat_natCast, if_pos (by omega)]
  · obtain ⟨i, hi, e⟩ := List.getElem_of_mem ((hv.mem t ht).2 h)
    have := mHp_ord hv i hi 7 (by omega)
    rw [e] at this
    unfold mHop
    omega
  · unfold mHop
    rw [mHp, Int.toNat_natCast, if_neg (by omega), h, mHp_6]
  · obtain ⟨i, hi, e⟩ := List.getElem_of_mem ((hv.mem t ht).2 (by omega))
    obtain ⟨o1, o2⟩ := hv.ord i hi
    rw [e] at o2
    rcases o2 with o2 | ⟨j, hj, o2⟩
    · omega
    · have ej : (qO P)[j]'(Nat.lt_trans hj hi) = g := by omega
      have a1 := mHp_ord hv j (Nat.lt_trans hj hi) 7 (by omega)
      have a2 := mHp_ord hv j (Nat.lt_trans hj hi) 6 (by omega)
      rw [ej] at a1 a2
      refine ⟨?_, ?_⟩
      · unfold mHop
        rw [mHp, Int.toNat_natCast, if_neg (by omega), h, a2.1, a1.1]
      · exact (hv.mem g hg).1 (ej ▸ List.getElem_mem _)
end CABL
