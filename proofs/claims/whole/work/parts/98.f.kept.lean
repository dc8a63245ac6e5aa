section KEPT
variable {N n b : Nat} {x : Nat → Int} {M M' : ZM}
theorem kept_s {c k : Int} {R : Option (Int × ZM)} {G : Option (Int × ZM) → Prop} (h1 : k = c → G (some (1, M))) (h2 : k ≠ c → G R) : G (if z_lcmp k c = 0 then some (1, M) else R) := by
  by_cases e : k = c
  · rw [if_pos (z_lcmp0.2 e)]; exact h1 e
  · rw [if_neg (fun q => e (z_lcmp0.1 q))]; exact h2 e
/-- the reference asks whether the word is one of its own -/
theorem r_isKept (h : RTok x n b M) : ∃ v, Mo_isKept N 0 M = some (v, M) ∧ ((v = 0 ∧ tNm x n b) ∨ (v = 1 ∧ ¬ tNm x n b)) := by
  unfold Mo_isKept
  by_cases c1 : tKi x n b = 1
  · rw [if_pos (h.w1.2 c1), h.2.2.2.2 c1]
    have ye : ∀ i, i < 26 → wR x n b = zfi 8 (zkey i) → ∃ v, (some (1, M) : Option (Int × ZM)) = some (v, M) ∧ ((v = 0 ∧ tNm x n b) ∨ (v = 1 ∧ ¬ tNm x n b)) := fun i hi e => ⟨1, rfl, .inr ⟨rfl, fun q => q.2 i hi ((tWd_iff (by omega)).2 ⟨c1, e⟩)⟩⟩
    refine kept_s (G := fun R => ∃ v, R = some (v, M) ∧ ((v = 0 ∧ tNm x n b) ∨ (v = 1 ∧ ¬ tNm x n b))) (fun e => ye 0 (by omega) (e.trans (by decide +kernel))) (fun n0 => ?_)
    refine kept_s (G := fun R => ∃ v, R = some (v, M) ∧ ((v = 0 ∧ tNm x n b) ∨ (v = 1 ∧ ¬ tNm x n b))) (fun e => ye 1 (by omega) (e.trans (by decide +kernel))) (fun n1 => ?_)
    refine kept_s (G := fun R => ∃ v, R = some (v, M) ∧ ((v = 0 ∧ tNm x n b) ∨ (v = 1 ∧ ¬ tNm x n b))) (fun e => ye 2 (by omega) (e.trans (by decide +kernel))) (fun n2 => ?_)
    refine kept_s (G := fun R => ∃ v, R = some (v, M) ∧ ((v = 0 ∧ tNm x n b) ∨ (v = 1 ∧ ¬ tNm x n b))) (fun e => ye 3 (by omega) (e.trans (by decide +kernel))) (fun n3 => ?_)
    refine kept_s (G := fun R => ∃ v, R = some (v, M) ∧ ((v = 0 ∧ tNm x n b) ∨ (v = 1 ∧ ¬ tNm x n b))) (fun e => ye 4 (by omega) (e.trans (by decide +kernel))) (fun n4 => ?_)
    refine kept_s (G := fun R => ∃ v, R = some (v, M) ∧ ((v = 0 ∧ tNm x n b) ∨ (v = 1 ∧ ¬ tNm x n b))) (fun e => ye 5 (by omega) (e.trans (by decide +kernel))) (fun n5 => ?_)
    refine kept_s (G := fun R => ∃ v, R = some (v, M) ∧ ((v = 0 ∧ tNm x n b) ∨ (v = 1 ∧ ¬ tNm x n b))) (fun e => ye 6 (by omega) (e.trans (by decide +kernel))) (fun n6 => ?_)
    refine kept_s (G := fun R => ∃ v, R = some (v, M) ∧ ((v = 0 ∧ tNm x n b) ∨ (v = 1 ∧ ¬ tNm x n b))) (fun e => ye 7 (by omega) (e.trans (by decide +kernel))) (fun n7 => ?_)
    refine kept_s (G := fun R => ∃ v, R = some (v, M) ∧ ((v = 0 ∧ tNm x n b) ∨ (v = 1 ∧ ¬ tNm x n b))) (fun e => ye 8 (by omega) (e.trans (by decide +kernel))) (fun n8 => ?_)
    refine kept_s (G := fun R => ∃ v, R = some (v, M) ∧ ((v = 0 ∧ tNm x n b) ∨ (v = 1 ∧ ¬ tNm x n b))) (fun e => ye 9 (by omega) (e.trans (by decide +kernel))) (fun n9 => ?_)
    refine kept_s (G := fun R => ∃ v, R = some (v, M) ∧ ((v = 0 ∧ tNm x n b) ∨ (v = 1 ∧ ¬ tNm x n b))) (fun e => ye 10 (by omega) (e.trans (by decide +kernel))) (fun n10 => ?_)
    refine kept_s (G := fun R => ∃ v, R = some (v, M) ∧ ((v = 0 ∧ tNm x n b) ∨ (v = 1 ∧ ¬ tNm x n b))) (fun e => ye 11 (by omega) (e.trans (by decide +kernel))) (fun n11 => ?_)
    refine kept_s (G := fun R => ∃ v, R = some (v, M) ∧ ((v = 0 ∧ tNm x n b) ∨ (v = 1 ∧ ¬ tNm x n b))) (fun e => ye 12 (by omega) (e.trans (by decide +kernel))) (fun n12 => ?_)
    refine kept_s (G := fun R => ∃ v, R = some (v, M) ∧ ((v = 0 ∧ tNm x n b) ∨ (v = 1 ∧ ¬ tNm x n b))) (fun e => ye 13 (by omega) (e.trans (by decide +kernel))) (fun n13 => ?_)
    refine kept_s (G := fun R => ∃ v, R = some (v, M) ∧ ((v = 0 ∧ tNm x n b) ∨ (v = 1 ∧ ¬ tNm x n b))) (fun e => ye 14 (by omega) (e.trans (by decide +kernel))) (fun n14 => ?_)
    refine kept_s (G := fun R => ∃ v, R = some (v, M) ∧ ((v = 0 ∧ tNm x n b) ∨ (v = 1 ∧ ¬ tNm x n b))) (fun e => ye 15 (by omega) (e.trans (by decide +kernel))) (fun n15 => ?_)
    refine kept_s (G := fun R => ∃ v, R = some (v, M) ∧ ((v = 0 ∧ tNm x n b) ∨ (v = 1 ∧ ¬ tNm x n b))) (fun e => ye 16 (by omega) (e.trans (by decide +kernel))) (fun n16 => ?_)
    refine kept_s (G := fun R => ∃ v, R = some (v, M) ∧ ((v = 0 ∧ tNm x n b) ∨ (v = 1 ∧ ¬ tNm x n b))) (fun e => ye 17 (by omega) (e.trans (by decide +kernel))) (fun n17 => ?_)
    refine kept_s (G := fun R => ∃ v, R = some (v, M) ∧ ((v = 0 ∧ tNm x n b) ∨ (v = 1 ∧ ¬ tNm x n b))) (fun e => ye 18 (by omega) (e.trans (by decide +kernel))) (fun n18 => ?_)
    refine kept_s (G := fun R => ∃ v, R = some (v, M) ∧ ((v = 0 ∧ tNm x n b) ∨ (v = 1 ∧ ¬ tNm x n b))) (fun e => ye 19 (by omega) (e.trans (by decide +kernel))) (fun n19 => ?_)
    refine kept_s (G := fun R => ∃ v, R = some (v, M) ∧ ((v = 0 ∧ tNm x n b) ∨ (v = 1 ∧ ¬ tNm x n b))) (fun e => ye 20 (by omega) (e.trans (by decide +kernel))) (fun n20 => ?_)
    refine kept_s (G := fun R => ∃ v, R = some (v, M) ∧ ((v = 0 ∧ tNm x n b) ∨ (v = 1 ∧ ¬ tNm x n b))) (fun e => ye 21 (by omega) (e.trans (by decide +kernel))) (fun n21 => ?_)
    refine kept_s (G := fun R => ∃ v, R = some (v, M) ∧ ((v = 0 ∧ tNm x n b) ∨ (v = 1 ∧ ¬ tNm x n b))) (fun e => ye 22 (by omega) (e.trans (by decide +kernel))) (fun n22 => ?_)
    refine kept_s (G := fun R => ∃ v, R = some (v, M) ∧ ((v = 0 ∧ tNm x n b) ∨ (v = 1 ∧ ¬ tNm x n b))) (fun e => ye 23 (by omega) (e.trans (by decide +kernel))) (fun n23 => ?_)
    refine kept_s (G := fun R => ∃ v, R = some (v, M) ∧ ((v = 0 ∧ tNm x n b) ∨ (v = 1 ∧ ¬ tNm x n b))) (fun e => ye 24 (by omega) (e.trans (by decide +kernel))) (fun n24 => ?_)
    refine kept_s (G := fun R => ∃ v, R = some (v, M) ∧ ((v = 0 ∧ tNm x n b) ∨ (v = 1 ∧ ¬ tNm x n b))) (fun e => ye 25 (by omega) (e.trans (by decide +kernel))) (fun n25 => ?_)
    refine ⟨0, rfl, .inl ⟨rfl, c1, fun i hi q => ?_⟩⟩
    have e : wR x n b = zfi 8 (zkey i) := ((tWd_iff (by omega)).1 q).2
    have hi' : i = 0 ∨ i = 1 ∨ i = 2 ∨ i = 3 ∨ i = 4 ∨ i = 5 ∨ i = 6 ∨ i = 7 ∨ i = 8 ∨ i = 9 ∨ i = 10 ∨ i = 11 ∨ i = 12 ∨ i = 13 ∨ i = 14 ∨ i = 15 ∨ i = 16 ∨ i = 17 ∨ i = 18 ∨ i = 19 ∨ i = 20 ∨ i = 21 ∨ i = 22 ∨ i = 23 ∨ i = 24 ∨ i = 25 := by omega
    rcases hi' with rfl | rfl | rfl | rfl | rfl | rfl | rfl | rfl | rfl | rfl | rfl | rfl | rfl | rfl | rfl | rfl | rfl | rfl | rfl | rfl | rfl | rfl | rfl | rfl | rfl | rfl
    · exact n0 (e.trans (by decide +kernel))
    · exact n1 (e.trans (by decide +kernel))
    · exact n2 (e.trans (by decide +kernel))
    · exact n3 (e.trans (by decide +kernel))
    · exact n4 (e.trans (by decide +kernel))
    · exact n5 (e.trans (by decide +kernel))
    · exact n6 (e.trans (by decide +kernel))
    · exact n7 (e.trans (by decide +kernel))
    · exact n8 (e.trans (by decide +kernel))
    · exact n9 (e.trans (by decide +kernel))
    · exact n10 (e.trans (by decide +kernel))
    · exact n11 (e.trans (by decide +kernel))
    · exact n12 (e.trans (by decide +kernel))
    · exact n13 (e.trans (by decide +kernel))
    · exact n14 (e.trans (by decide +kernel))
    · exact n15 (e.trans (by decide +kernel))
    · exact n16 (e.trans (by decide +kernel))
    · exact n17 (e.trans (by decide +kernel))
    · exact n18 (e.trans (by decide +kernel))
    · exact n19 (e.trans (by decide +kernel))
    · exact n20 (e.trans (by decide +kernel))
    · exact n21 (e.trans (by decide +kernel))
    · exact n22 (e.trans (by decide +kernel))
    · exact n23 (e.trans (by decide +kernel))
    · exact n24 (e.trans (by decide +kernel))
    · exact n25 (e.trans (by decide +kernel))
  · rw [if_neg (fun q => c1 (h.w1.1 q))]
    exact ⟨1, rfl, .inr ⟨rfl, fun q => c1 q.1⟩⟩
end KEPT
