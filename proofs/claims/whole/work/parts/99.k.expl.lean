section EXPL
variable {n b : Nat} {x : Nat → Int}
/-- a reader of parts goes on, and gives no more codes than places -/
def eGood (n : Nat) (pa : Nat → EO) : Prop := ∀ b z, b ≤ n → pa b = .inr z → b + z.2.1.length ≤ z.1 ∧ z.1 ≤ n ∧ b < z.1
theorem eLoop_g {sg : Nat → Option (Int × Int)} {pa : Nat → EO} (hs : ∀ b s, sg b = some s → tKi x n b ≠ 0) (hp : eGood n pa) : ∀ (f b : Nat) (u w : List Int) (z : Nat × List Int × List Int), b ≤ n → eLoop sg pa x n f b u w = .inr z → b + z.2.1.length ≤ z.1 + u.length ∧ z.1 ≤ n ∧ b ≤ z.1 := by
  intro f
  induction f with
  | zero => intro b u w z _ h; cases h
  | succ f ih =>
    intro b u w z hb h
    rw [eLoop] at h
    cases hg : sg b with
    | none => rw [hg] at h; cases h; exact ⟨Nat.le_refl _, hb, Nat.le_refl _⟩
    | some s =>
      rw [hg] at h
      have h1 := nb_gt (hs b s hg)
      have h2 := nb_le (x := x) hb
      cases ha : pa (nb x n b) with
      | inl e => simp only [ha] at h; cases h
      | inr y =>
        simp only [ha] at h
        have r := hp _ y h2 ha
        have t := ih y.1 _ _ z r.2.1 h
        simp only [List.length_append, List.length_cons, List.length_nil] at t
        exact ⟨by omega, t.2.1, by omega⟩
theorem eMany_g {sg : Nat → Option (Int × Int)} {pa : Nat → EO} (hs : ∀ b s, sg b = some s → tKi x n b ≠ 0) (hp : eGood n pa) : eGood n (eMany sg pa x n) := by
  intro b z hb h
  unfold eMany at h
  cases ha : pa b with
  | inl e => rw [ha] at h; cases h
  | inr y =>
    rw [ha] at h
    have r := hp _ y hb ha
    have t := eLoop_g hs hp 1001 y.1 y.2.1 y.2.2 z r.2.1 h
    exact ⟨by omega, t.2.1, by omega⟩
theorem sgP_0 : ∀ b s, sgP x n b = some s → tKi x n b ≠ 0 := fun b s h => by
  unfold sgP at h
  split at h
  · omega
  · cases h
theorem sgS_0 : ∀ b s, sgS x n b = some s → tKi x n b ≠ 0 := fun b s h => by
  unfold sgS at h
  split at h
  · omega
  · split at h
    · omega
    · cases h
theorem sgT_0 : ∀ b s, sgT x n b = some s → tKi x n b ≠ 0 := fun b s h => by
  unfold sgT at h
  split at h
  · omega
  · split at h
    · omega
    · cases h
theorem sgE_0 : ∀ b s, sgE x n b = some s → tKi x n b ≠ 0 := fun b s h => by
  unfold sgE at h
  split at h
  · next q => have := ((tWd_iff (by decide)).1 q).1; omega
  · split at h
    · next q => have := ((tWd_iff (by decide)).1 q).1; omega
    · cases h
theorem eTest_g {su : Nat → EO} (hp : eGood n su) : eGood n (eTest su x n) := by
  intro b z hb h
  unfold eTest at h
  cases ha : su b with
  | inl e => rw [ha] at h; cases h
  | inr y =>
    simp only [ha] at h
    have r := hp _ y hb ha
    cases hg : sgT x n y.1 with
    | none => simp only [hg] at h; cases h; exact r
    | some s =>
      simp only [hg] at h
      have h1 := nb_gt (sgT_0 y.1 s hg)
      have h2 := nb_le (x := x) r.2.1
      cases hc : su (nb x n y.1) with
      | inl e => simp only [hc] at h; cases h
      | inr v =>
        simp only [hc] at h
        have t := hp _ v h2 hc
        cases h
        simp only [List.length_append, List.length_cons, List.length_nil]
        exact ⟨by omega, t.2.1, by omega⟩
theorem eE_g {pa : Nat → EO} (hp : eGood n pa) : eGood n (eE pa x n) := eMany_g sgE_0 (eTest_g (eMany_g sgS_0 (eMany_g sgP_0 hp)))
theorem ePart_g : ∀ (k d : Nat), eGood n (ePart x n k d) := by
  intro k
  induction k with
  | zero => intro d b z _ h; cases h
  | succ k ih =>
    intro d b z hb h
    rw [ePart] at h
    by_cases c0 : tKi x n b = 2 ∨ tKi x n b = 40 ∨ tWd x n b = some 23 ∨ eFact x n b ≠ 0
    · have h0 : tKi x n b ≠ 0 := by
        rcases c0 with c | c | c | c
        · omega
        · omega
        · have := ((tWd_iff (by decide)).1 c).1; omega
        · intro e
          apply c
          have no : ∀ i, i < 30 → tWd x n b ≠ some i := fun i hi q => by have := ((tWd_iff hi).1 q).1; omega
          unfold eFact
          rw [if_neg (no 26 (by decide)), if_neg (no 27 (by decide)), if_neg (no 28 (by decide)), if_neg (no 29 (by decide))]
      have h1 := nb_gt h0
      have h2 := nb_le (x := x) hb
      rw [if_pos c0] at h
      by_cases c1 : d < 5
      · rw [if_pos c1] at h
        by_cases c2 : tKi x n b = 40
        · rw [if_pos c2] at h
          cases ha : eE (ePart x n k (d + 1)) x n (nb x n b) with
          | inl e => simp only [ha] at h; cases h
          | inr y =>
            simp only [ha] at h
            have r := eE_g (x := x) (ih (d + 1)) _ y h2 ha
            by_cases c3 : tKi x n y.1 = 41
            · rw [if_pos c3] at h
              cases h
              have h3 := nb_gt (x := x) (n := n) (b := y.1) (by omega)
              exact ⟨by show b + y.2.1.length ≤ nb x n y.1; omega, nb_le r.2.1, by show b < nb x n y.1; omega⟩
            · rw [if_neg c3] at h; cases h
        · rw [if_neg c2] at h
          by_cases c3 : tWd x n b = some 23
          · rw [if_pos c3] at h
            cases ha : ePart x n k (d + 1) (nb x n b) with
            | inl e => simp only [ha] at h; cases h
            | inr y =>
              simp only [ha] at h
              have r := ih (d + 1) _ y h2 ha
              cases h
              simp only [List.length_append, List.length_cons, List.length_nil]
              exact ⟨by omega, r.2.1, by omega⟩
          · rw [if_neg c3] at h
            by_cases c4 : tKi x n b = 2
            · rw [if_pos c4] at h
              cases h
              exact ⟨by show b + 1 ≤ nb x n b; omega, h2, h1⟩
            · rw [if_neg c4] at h
              cases h
              exact ⟨by show b + 1 ≤ nb x n b; omega, h2, h1⟩
      · rw [if_neg c1] at h; cases h
    · rw [if_neg c0] at h; cases h
end EXPL
