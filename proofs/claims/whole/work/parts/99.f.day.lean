section DAY
variable {N n b m c : Nat} {x : Nat → Int} {q q' : Nat → Int} {A : AK} {M M' : ZM}
theorem tNx_gt (h : tKi x n b ≠ 0) : b < n ∧ b < tNx x n b := by
  have c0 : b < n := by
    by_cases c0 : b < n
    · exact c0
    · exact absurd (by unfold tKi; rw [if_neg c0]) h
  refine ⟨c0, ?_⟩
  unfold tNx
  rw [if_pos c0]
  by_cases c1 : pLe (x b) = true
  · rw [if_pos c1, tE_y c0 c1]; have := (tE_le (P := pLe) (x := x) (show b + 1 ≤ n by omega)).1; omega
  · rw [if_neg c1]
    by_cases c2 : pDi (x b) = true
    · rw [if_pos c2, tE_y c0 c2]; have := (tE_le (P := pDi) (x := x) (show b + 1 ≤ n by omega)).1; omega
    · rw [if_neg c2]; omega
theorem nb_gt (h : tKi x n b ≠ 0) : b < nb x n b := by
  have h1 := tNx_gt h
  have := (tE_le (P := pBl) (x := x) (tNx_le (x := x) (n := n) (b := b) (by omega))).1
  unfold nb; omega
theorem nb_ge (h : b ≤ n) : b ≤ nb x n b := by
  by_cases e : tKi x n b = 0
  · have e1 : tNx x n b = n := by
      unfold tNx
      by_cases c0 : b < n
      · exfalso
        unfold tKi at e
        rw [if_pos c0] at e
        by_cases c1 : pLe (x b) = true
        · rw [if_pos c1] at e; split at e <;> omega
        · rw [if_neg c1] at e
          by_cases c2 : pDi (x b) = true
          · rw [if_pos c2] at e; split at e <;> omega
          · rw [if_neg c2] at e
            by_cases c3 : pSi (x b) = true
            · rw [if_pos c3] at e; rw [pSi_t] at c3; omega
            · rw [if_neg c3] at e; omega
      · rw [if_neg c0]
    have := (tE_le (P := pBl) (x := x) (tNx_le (x := x) (n := n) (b := b) h)).1
    unfold nb; omega
  · have := nb_gt e; omega
theorem oSign_r {s : Int} {z : Nat × Int} (hs : s ≠ 0) (h : oSign x n b s = .inr z) : b < z.1 ∧ z.1 ≤ n := by
  unfold oSign at h
  by_cases c1 : tKi x n b = s
  · rw [if_pos c1] at h
    cases h
    have hb : tKi x n b ≠ 0 := by omega
    exact ⟨nb_gt hb, nb_le (by have := tNx_gt hb; omega)⟩
  · rw [if_neg c1] at h; cases h
theorem VL_app {l : List Int} {v : Int} (h : VL m l) (h40 : l.length < 40) (hv : 0 ≤ v ∧ v < 500 ∧ (v / 100 ≠ 4 → v / 10 % 10 < m) ∧ (v / 100 = 0 → v % 10 ≤ 4)) : VL m (l ++ [v]) := ⟨by simp; omega, fun y hy => by
  simp at hy
  rcases hy with hy | rfl
  · exact h.2 y hy
  · exact hv⟩
theorem oEnd_r {l : List Int} {v : Int} {z : Nat × List Int} (h : oEnd x n b l v = .inr z) : b < z.1 ∧ z.1 ≤ n ∧ z.2 = l ++ [v] := by
  unfold oEnd at h
  cases ho : oSign x n b 59 with
  | inl e => rw [ho] at h; cases h
  | inr w =>
    rw [ho] at h
    cases h
    have := oSign_r (by decide) ho
    exact ⟨this.1, this.2, rfl⟩
theorem oArg_r {d t : Int} {l : List Int} {z : Nat × List Int} (hb : b ≤ n) (hd : 0 ≤ d ∧ d ≤ 4) (ht : 0 ≤ t ∧ t ≤ 9) (ht' : d ≠ 4 → t < m) (hl : VL m l) (h40 : l.length < 40) (h : oArg x n b d t l = .inr z) : b < z.1 ∧ z.1 ≤ n ∧ VL m z.2 := by
  unfold oArg at h
  by_cases e : d = 0
  · rw [if_pos e] at h
    cases ho : oNum x n b 0 4 with
    | inl e => rw [ho] at h; cases h
    | inr w =>
      rw [ho] at h
      have h' : oEnd x n w.1 l (d * 100 + t * 10 + w.2) = .inr z := h
      have hw : w.1 = nb x n b ∧ 0 ≤ w.2 ∧ w.2 ≤ 4 := by
        unfold oNum at ho
        by_cases c1 : tKi x n b = 2
        · rw [if_pos c1] at ho
          by_cases c2 : 0 ≤ wV x n b ∧ wV x n b ≤ 4
          · rw [if_pos c2] at ho; cases ho; exact ⟨rfl, c2⟩
          · rw [if_neg c2] at ho; cases ho
        · rw [if_neg c1] at ho; cases ho
      have r := oEnd_r h'
      have := nb_ge (x := x) hb
      have := ht' (by omega)
      refine ⟨by omega, r.2.1, ?_⟩
      rw [r.2.2]
      exact VL_app hl h40 (by omega)
  · rw [if_neg e] at h
    have r := oEnd_r h
    refine ⟨r.1, r.2.1, ?_⟩
    rw [r.2.2]
    refine VL_app hl h40 ⟨by omega, by omega, fun hne => ?_, by omega⟩
    have := ht' (by omega)
    omega
theorem oLine_r {l : List Int} {z : Nat × List Int} (hb : b ≤ n) (hm : m ≤ 6) (hl : VL m l) (h : oLine x n b q m l = .inr z) : b < z.1 ∧ z.1 ≤ n ∧ VL m z.2 := by
  have hd := dDeed_b (x := x) (n := n) (b := b)
  have h1 := nb_ge (x := x) hb
  have h2 := nb_le (x := x) hb
  unfold oLine at h
  by_cases c1 : dDeed x n b = -1
  · rw [if_pos c1] at h; cases h
  · rw [if_neg c1] at h
    by_cases c2 : l.length < 40
    · rw [if_pos c2] at h
      by_cases c3 : dDeed x n b = 4
      · rw [if_pos c3] at h
        have := oArg_r h2 (by omega) (by omega) (fun q => absurd rfl q) hl c2 h
        exact ⟨by omega, this.2⟩
      · rw [if_neg c3] at h
        cases ho : oTur x n (nb x n b) q m with
        | inl e => rw [ho] at h; cases h
        | inr w =>
          rw [ho] at h
          have hw : w.1 = nb x n b ∧ 0 ≤ w.2 ∧ w.2 < m := by
            have hf := fNm_b (q := q) (k := wC x n (nb x n b)) m 0
            unfold oTur at ho
            split at ho
            · split at ho
              · cases ho
              · cases ho; exact ⟨rfl, by omega, by omega⟩
            · cases ho
          have h3 := nb_ge (x := x) (n := n) (b := w.1) (by omega)
          have h4 := nb_le (x := x) (n := n) (b := w.1) (by omega)
          have := oArg_r (b := nb x n w.1) h4 (by omega) (by omega) (fun _ => hw.2.2) hl c2 h
          exact ⟨by omega, this.2⟩
    · rw [if_neg c2] at h; cases h
/-- the lines of a day -/
def oDay (x : Nat → Int) (n : Nat) (q : Nat → Int) (m : Nat) : Nat → Nat → List Int → Int ⊕ List Int
  | 0, _, _ => .inl 0
  | f + 1, b, l => if tKi x n b = 0 then .inr l else match oLine x n b q m l with
    | .inl e => .inl e
    | .inr z => oDay x n q m f z.1 z.2
def dDay (A : AK) : Int × AK := match oDay (aX A) (aT A) (fun k => qT (aP A) 12 k) (qN (aP A)) 1001 (tE pBl (aX A) (aT A) 0) [] with
  | .inl e => (e, (aP A, aS A, aL A, aV A, aM A, aH A, 0, aX A))
  | .inr l => (0, (aP A, aS A, l, aV A, aM A, aH A, 0, aX A))
theorem oDay_v (hm : m ≤ 6) {l' : List Int} : ∀ (f b : Nat) (l : List Int), b ≤ n → VL m l → oDay x n q m f b l = .inr l' → VL m l' := by
  intro f
  induction f with
  | zero => intro b l _ _ h; cases h
  | succ f ih =>
    intro b l hb hl h
    rw [oDay] at h
    by_cases c0 : tKi x n b = 0
    · rw [if_pos c0] at h; cases h; exact hl
    · rw [if_neg c0] at h
      cases ho : oLine x n b q m l with
      | inl e => rw [ho] at h; cases h
      | inr z =>
        rw [ho] at h
        have := oLine_r hb hm hl ho
        exact ih z.1 z.2 this.2.1 this.2.2 h
theorem dDay_v (hv : VA c A) : VA (c + 1) (dDay A).2 := by
  obtain ⟨h1, h2, h3, h4, h5, h6, h7, h8⟩ := hv.up (Nat.le_succ c)
  unfold dDay
  cases ho : oDay (aX A) (aT A) (fun k => qT (aP A) 12 k) (qN (aP A)) 1001 (tE pBl (aX A) (aT A) 0) [] with
  | inl e => exact ⟨h1, h2, h3, h4, h5, h6, by show 0 ≤ 1000; omega, fun k hk => absurd hk (by show ¬ k < 0; omega)⟩
  | inr l => exact ⟨h1, h2, oDay_v h1.n 1001 _ [] (tE_le (by omega)).2 ⟨by simp, fun y hy => by simp at hy⟩ ho, h4, h5, h6, by show 0 ≤ 1000; omega, fun k hk => absurd hk (by show ¬ k < 0; omega)⟩
end DAY
