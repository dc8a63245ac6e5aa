section ZNEW
/-- the new cell's address beside the others' -/
def zrn (ρ : Nat → Nat → Nat) (t c h : Nat) : Nat → Nat → Nat := fun t' i' => if t' = t ∧ i' = c then h else ρ t' i'
/-- a memory with one more of kind t -/
def znx (M M1 : ZM) (t : Nat) : Prop :=
  (∀ t' i' k, ¬ (t' = t ∧ i' = mC M t) → mI M1 t' i' k = mI M t' i' k ∧ mL M1 t' i' k = mL M t' i' k ∧ mF M1 t' i' k = mF M t' i' k) ∧
  (∀ k, mI M1 t (mC M t) k = 0 ∧ mL M1 t (mC M t) k = 0 ∧ mF M1 t (mC M t) k = none) ∧
  (∀ t', mC M1 t' = if t' = t then mC M t + 1 else mC M t') ∧ mR M1 = mR M ∧ (∀ t' i', ¬ (t' = t ∧ i' = mC M t) → mN M1 t' i' = mN M t' i') ∧
  (∀ t' i' k, mKI M1 t' i' k = mKI M t' i' k ∧ mKL M1 t' i' k = mKL M t' i' k)
theorem znx_o (M : ZM) (t n : Nat) : znx M (pNew M t n) t := by
  refine ⟨fun t' i' k h => ⟨?_, ?_, ?_⟩, fun k => ⟨?_, ?_, ?_⟩, fun t' => rfl, rfl, fun t' i' _ => rfl, fun _ _ _ => ⟨rfl, rfl⟩⟩
  · show (if t' = t ∧ i' = mC M t then (0 : Int) else mI M t' i' k) = _
    rw [if_neg h]
  · show (if t' = t ∧ i' = mC M t then (0 : Int) else mL M t' i' k) = _
    rw [if_neg h]
  · show (if t' = t ∧ i' = mC M t then none else mF M t' i' k) = _
    rw [if_neg h]
  · show (if t = t ∧ mC M t = mC M t then (0 : Int) else mI M t _ k) = _
    rw [if_pos ⟨rfl, rfl⟩]
  · show (if t = t ∧ mC M t = mC M t then (0 : Int) else mL M t _ k) = _
    rw [if_pos ⟨rfl, rfl⟩]
  · show (if t = t ∧ mC M t = mC M t then none else mF M t _ k) = _
    rw [if_pos ⟨rfl, rfl⟩]
theorem znx_a (M : ZM) (t l n : Nat) : znx M (pNew (pLen M t (mC M t) l) t n) t := by
  obtain ⟨h1, h2, h3, h4, h5, h6⟩ := znx_o (pLen M t (mC M t) l) t n
  refine ⟨h1, h2, h3, h4, fun t' i' h => ?_, h6⟩
  show (if t' = t ∧ i' = mC M t then l else mN M t' i') = _
  rw [if_neg h]
theorem znx_len (M : ZM) (t l n : Nat) : mN (pNew (pLen M t (mC M t) l) t n) t (mC M t) = l := by
  show (if t = t ∧ mC M t = mC M t then l else mN M t _) = _
  rw [if_pos ⟨rfl, rfl⟩]
variable {ρ : Nat → Nat → Nat} {dC : Nat → ClassId} {dI : Nat → Nat → Nat} {aC : Nat → ClassId} {M M1 : ZM} {H H1 : Heap} {t B : Nat}
theorem zHp_lt (hH : zHp ρ dC dI aC M H) {t i : Nat} (ht : zmt t = true) (hi : i < mC M t) : ρ t i < H.size := by
  obtain ⟨a, b⟩ := hH t i ht hi
  by_cases h : t < 12
  · obtain ⟨cell, h1, -⟩ := a h
    exact (Array.getElem?_eq_some_iff.mp h1).1
  · exact (Array.getElem?_eq_some_iff.mp (b h)).1
theorem zHp_new (hH : zHp ρ dC dI aC M H) (hW : zWf ρ B M) (hx : znx M M1 t) (hm : zmt t = true) (hq : ∀ q, q < H.size → H1[q]? = H[q]?) (hnew : zcel (zrn ρ t (mC M t) H.size) dC dI aC M1 H1 t (mC M t)) : zHp (zrn ρ t (mC M t) H.size) dC dI aC M1 H1 := by
  obtain ⟨x1, x2, x3, x4, x5, x6⟩ := hx
  obtain ⟨w1, w2, w3, -⟩ := hW
  have old : ∀ {tg j : Nat}, j < mC M tg → zrn ρ t (mC M t) H.size tg j = ρ tg j := by
    intro tg j hj
    unfold zrn
    rw [if_neg (fun z => by rw [z.1, z.2] at hj; exact absurd hj (Nat.lt_irrefl _))]
  intro t' i' ht' hi'
  by_cases e : t' = t ∧ i' = mC M t
  · rw [e.1, e.2]; exact hnew
  · have hi : i' < mC M t' := by
      rw [x3] at hi'
      split at hi'
      · next z => rw [z]; have : i' ≠ mC M t := fun w => e ⟨z, w⟩; omega
      · exact hi'
    obtain ⟨a, b⟩ := hH t' i' ht' hi
    have hlt := zHp_lt hH ht' hi
    refine ⟨fun h => ?_, fun h => ?_⟩
    · rw [old hi]
      refine ((a h).kept (hq _ hlt)).to (fun k hk => ?_)
      unfold zfv
      rw [(x1 t' i' k e).1, (x1 t' i' k e).2.1, (x1 t' i' k e).2.2, x4]
      split
      · rfl
      · rfl
      · rfl
      · next hp =>
        cases hf : mF M t' i' k with
        | none => rfl
        | some j =>
          have hj : j < mC M (zfp t' k).2.1 := by
            have := w2 t' i' k j hi (.inl ⟨h, hk, hp⟩) hf
            unfold ztf at this
            rw [if_pos h] at this
            exact this
          show va_rf (some _) = va_rf (some _)
          rw [old hj]
      · next hp =>
        cases hf : zrg (mR M) (zfp t' k).2.2 with
        | none => rfl
        | some j =>
          have hj : j < mC M (zfp t' k).2.1 := by
            have := w3 _ j hf
            rcases zfp_4 t' h k hk hp with ⟨-, -, z⟩ | ⟨-, -, z⟩ | ⟨-, -, z⟩ | ⟨-, -, z⟩ <;> rw [z] at this ⊢ <;> exact this
          show va_rf (some _) = va_rf (some _)
          rw [old hj]
      · rfl
    · rw [old hi, hq _ hlt, b h, x5 t' i' e]
      refine congrArg some (arrV_cg fun j hj => ?_)
      unfold zav
      rw [(x1 t' i' j e).1, (x1 t' i' j e).2.1, (x1 t' i' j e).2.2]
      split
      · rfl
      · rfl
      · rfl
      · rfl
      · next hp =>
        cases hf : mF M t' i' j with
        | none => rfl
        | some q =>
          have hj2 : q < mC M (ztg t') := by
            have := w2 t' i' j q hi (.inr ⟨h, hj⟩) hf
            unfold ztf at this
            rw [if_neg h] at this
            exact this
          show va_rf (some _) = va_rf (some _)
          rw [old hj2]
      · rfl
theorem zWf_new (hH : zHp ρ dC dI aC M H) (hW : zWf ρ B M) (hx : znx M M1 t) (hm : zmt t = true) (hB : B ≤ H.size) (hw : znw M t = true) (h104 : t < 104) (hl : ¬ t < 12 → mN M1 t (mC M t) < 2147483648) : zWf (zrn ρ t (mC M t) H.size) B M1 := by
  obtain ⟨x1, x2, x3, x4, x5, x6⟩ := hx
  obtain ⟨w1, w2, w3, w4, w5, w6, w7, w8⟩ := hW
  have hne : t ≠ 12 ∧ t ≠ 100 ∧ t ≠ 101 ∧ t ≠ 102 := by
    refine ⟨?_, ?_, ?_, ?_⟩ <;> (intro z; rw [z] at hm; revert hm; decide)
  have le : ∀ t', mC M t' ≤ mC M1 t' := by
    intro t'
    rw [x3]
    split
    · next z => rw [z]; exact Nat.le_succ _
    · exact Nat.le_refl _
  have inv : ∀ {t' i' : Nat}, i' < mC M1 t' → (t' = t ∧ i' = mC M t) ∨ (¬ (t' = t ∧ i' = mC M t) ∧ i' < mC M t') := by
    intro t' i' hi'
    by_cases e : t' = t ∧ i' = mC M t
    · exact .inl e
    · refine .inr ⟨e, ?_⟩
      rw [x3] at hi'
      split at hi'
      · next z => rw [z]; have : i' ≠ mC M t := fun w => e ⟨z, w⟩; omega
      · exact hi'
  have old : ∀ {tg j : Nat}, ¬ (tg = t ∧ j = mC M t) → zrn ρ t (mC M t) H.size tg j = ρ tg j := by
    intro tg j hj
    unfold zrn
    rw [if_neg hj]
  have cn : ∀ t', t' ≠ t → mC M1 t' = mC M t' := fun t' z => by rw [x3, if_neg z]
  refine ⟨fun t' i' k => ?_, fun t' i' k j hi' hp e => ?_, fun r j e => ?_, fun t1 i1 t2 i2 h1 h2 g1 g2 e => ?_, fun t' i' h1 g1 => ?_, ?_, fun t' i' h12 g1 => ?_, ?_⟩
  · by_cases e : t' = t ∧ i' = mC M t
    · rw [e.1, e.2, (x2 k).1, (x2 k).2.1, (x6 _ _ _).1, (x6 _ _ _).2]
      exact ⟨⟨by decide, by decide⟩, ⟨by decide, by decide⟩, (w1 _ _ _).2.2⟩
    · rw [(x1 t' i' k e).1, (x1 t' i' k e).2.1, (x6 _ _ _).1, (x6 _ _ _).2]
      exact w1 t' i' k
  · rcases inv hi' with z | ⟨z, hi⟩
    · rw [z.1, z.2, (x2 k).2.2] at e; cases e
    · rw [(x1 t' i' k z).2.2] at e
      refine Nat.lt_of_lt_of_le (w2 t' i' k j hi ?_ e) (le _)
      rcases hp with hp | hp
      · exact .inl hp
      · rw [x5 t' i' z] at hp; exact .inr hp
  · rw [x4] at e
    exact Nat.lt_of_lt_of_le (w3 r j e) (le _)
  · rcases inv g1 with z1 | ⟨z1, i1'⟩ <;> rcases inv g2 with z2 | ⟨z2, i2'⟩
    · exact ⟨z1.1.trans z2.1.symm, z1.2.trans z2.2.symm⟩
    · rw [old z2] at e
      unfold zrn at e
      rw [if_pos z1] at e
      have := zHp_lt hH h2 i2'
      omega
    · rw [old z1] at e
      unfold zrn at e
      rw [if_pos z2] at e
      have := zHp_lt hH h1 i1'
      omega
    · rw [old z1, old z2] at e
      exact w4 t1 i1 t2 i2 h1 h2 i1' i2' e
  · rcases inv g1 with z1 | ⟨z1, i1'⟩
    · unfold zrn
      rw [if_pos z1]
      exact hB
    · rw [old z1]
      exact w5 t' i' h1 i1'
  · have one : ∀ q, (q = 5 ∨ q = 8 ∨ q = 10) → mC M q ≤ 1 → mC M1 q ≤ 1 := by
      intro q hq hle
      rw [x3]
      split
      · next z =>
        subst z
        rcases hq with rfl | rfl | rfl <;> (have := Nat.eq_of_beq_eq_true hw; omega)
      · exact hle
    unfold zW6; rw [x4]
    exact ⟨fun z => w6.1 (by have := le 5; omega), fun z => w6.2.1 (by have := le 8; omega), fun z => w6.2.2.1 (by have := le 10; omega), one 5 (.inl rfl) w6.2.2.2.1, one 8 (.inr (.inl rfl)) w6.2.2.2.2.1, one 10 (.inr (.inr rfl)) w6.2.2.2.2.2⟩
  · rcases inv g1 with z1 | ⟨z1, i1'⟩
    · rw [z1.1, z1.2]; exact hl (by rw [← z1.1]; exact h12)
    · rw [x5 t' i' z1]; exact w7 t' i' h12 i1'
  · obtain ⟨v1, v2, v3, v4, v5, v6, v7, v8⟩ := w8
    refine ⟨by rw [cn 12 (Ne.symm hne.1)]; exact v1, by rw [cn 100 (Ne.symm hne.2.1)]; exact v2, by rw [cn 101 (Ne.symm hne.2.2.1)]; exact v3, by rw [cn 102 (Ne.symm hne.2.2.2)]; exact v4, by rw [x5 100 0 (fun z => hne.2.1 z.1.symm)]; exact v5, by rw [x5 101 0 (fun z => hne.2.2.1 z.1.symm)]; exact v6, fun k hk => by rw [(x1 100 0 k (fun z => hne.2.1 z.1.symm)).2.2]; exact v7 k hk, fun q hq => by rw [cn q (by omega)]; exact v8 q hq⟩
end ZNEW
