section INI2
/-- what some cells hold at the beginning -/
def iV : List (Nat × Nat × Nat × Int) := [(4, 0, 0, 0), (3, 0, 1, 0), (3, 1, 1, 1), (3, 2, 1, 1), (3, 3, 1, 1), (26, 1, 0, 10), (26, 2, 0, 0), (26, 3, 0, 10), (3, 4, 1, 3), (26, 4, 0, 5), (26, 4, 1, 3), (26, 4, 2, 1), (4, 0, 13, 20), (4, 0, 14, 6), (3, 5, 1, 1), (26, 5, 0, -1),
  (40, 0, 0, 2), (40, 0, 1, 2), (40, 0, 2, 2), (40, 0, 3, 2), (40, 0, 4, 2), (40, 0, 5, 2), (41, 0, 0, 0), (41, 0, 1, 0), (41, 0, 2, 0), (41, 0, 3, 0), (41, 0, 4, 0), (41, 0, 5, 0), (7, 0, 2, 0), (7, 0, 3, 0), (7, 0, 4, 0), (7, 0, 5, 0), (3, 13, 1, 0), (3, 14, 1, 0), (2, 0, 3, 0), (2, 1, 3, 0), (2, 2, 3, 0), (2, 3, 3, 0), (10, 0, 7, 0), (10, 0, 8, 0),
  (39, 0, 0, 0), (39, 0, 1, 0), (39, 0, 2, 0), (39, 0, 3, 0), (39, 0, 4, 0), (39, 0, 5, 0), (39, 1, 0, 0), (39, 1, 1, 0), (39, 1, 2, 0), (39, 1, 3, 0), (39, 1, 4, 0), (39, 1, 5, 0), (39, 2, 0, 0), (39, 2, 1, 0), (39, 2, 2, 0), (39, 2, 3, 0), (39, 2, 4, 0), (39, 2, 5, 0), (6, 0, 2, 0), (6, 1, 2, 0), (6, 2, 2, 0), (8, 0, 1, 0),
  (51, 0, 0, 0), (51, 0, 1, 0), (51, 0, 2, 0), (51, 0, 3, 0), (51, 0, 4, 20), (51, 0, 5, 6), (51, 0, 6, 5), (51, 0, 7, 3), (51, 0, 8, 1), (59, 0, 0, 0), (60, 0, 0, 0), (81, 0, 0, 0), (81, 0, 1, 0), (81, 0, 2, 0), (81, 0, 3, 0), (81, 0, 4, 2), (81, 0, 5, 2), (81, 0, 6, 2), (81, 0, 7, 2), (81, 0, 8, 2), (81, 0, 9, 2), (81, 0, 10, 0), (81, 0, 11, 0), (81, 0, 12, 0), (81, 0, 13, 0), (81, 0, 14, 0), (81, 0, 15, 0),
  (74, 0, 0, 0), (78, 0, 0, 0), (86, 0, 0, 0), (86, 0, 1, 0), (86, 0, 2, 0), (86, 0, 3, 0), (11, 0, 49, 0), (11, 0, 1, 0)]
theorem i_vals : iV.all (fun q => decide (mI zMe q.1 q.2.1 q.2.2.1 = q.2.2.2)) = true := by decide +kernel
theorem i_regs : zrg (mR zMe) 0 = some 0 ∧ zrg (mR zMe) 1 = some 1 := by decide +kernel
def zSw (M : ZM) (sl : Nat) (sx : Nat → Int) : ZM := (M.1, M.2.1, M.2.2.1, zK0 sl sx, M.2.2.2.2)
variable {sl : Nat} {sx : Nat → Int} {M : ZM}
def iOK (M : ZM) : Prop := (∀ q, q ∈ iV → mI M q.1 q.2.1 q.2.2.1 = q.2.2.2) ∧ zrg (mR M) 0 = some 0 ∧ zrg (mR M) 1 = some 1
theorem i_ok : iOK zMe := ⟨fun q hq => of_decide_eq_true (List.all_eq_true.mp i_vals q hq), i_regs⟩
theorem iG {t i k : Nat} {v : Int} (hM : iOK M) (h : (t, i, k, v) ∈ iV) : mI (zSw M sl sx) t i k = v := hM.1 (t, i, k, v) h
def aI : AK := (pUs, mBeg pUs, [], [], (fun _ => none), [], 0, fun _ => 0)
theorem aI_v : VA 0 aI ∧ VQ aI := ⟨⟨pUs_v, mBeg_v, ⟨by show 0 ≤ 40; omega, fun y hy => (by cases hy)⟩, ⟨by show 0 ≤ 8; omega, fun y hy => (by cases hy)⟩, fun m _ y hy => (by cases hy), ⟨by show 0 ≤ 16; omega, fun y hy => (by cases hy)⟩, by show 0 ≤ 1000; omega, fun k hk => absurd hk (by show ¬ k < 0; omega)⟩, pUs_q⟩
theorem aI_c (hM : iOK M) : CA aI (zSw M sl sx) := by
  refine ⟨⟨sl, sx, rfl⟩, ⟨0, ⟨hM.2.1, hM.2.2⟩, iG hM (by decide), fun k hk => absurd hk (by show ¬ k < 0; omega), ⟨iG hM (by decide), fun i hi => absurd hi (by show ¬ i < 0; omega)⟩, fun j hj => ?_, ⟨iG hM (by decide), fun k hk => ?_⟩, iG hM (by decide), iG hM (by decide), ⟨[-1], iG hM (by decide), by decide, fun i hi => ?_, fun _ _ _ _ _ _ _ _ => rfl⟩, by omega⟩, ⟨fun k hk => ?_, iG hM (by decide), iG hM (by decide), iG hM (by decide), iG hM (by decide)⟩, ⟨iG hM (by decide), fun i hi => (by cases hi)⟩, ⟨iG hM (by decide), fun i hi => (by cases hi)⟩, fun m hm => .inl ⟨rfl, ?_⟩, ⟨0, by omega, iG hM (by decide), iG hM (by decide), fun j hj => (by cases hj)⟩, fun o ho => ⟨fun j hj => ?_, .inl ?_⟩, iG hM (by decide), fun k hk => absurd hk (by show ¬ k < 0; omega)⟩
  · have : j = 0 ∨ j = 1 ∨ j = 2 := by omega
    rcases this with rfl | rfl | rfl
    · exact ⟨iG hM (by decide), fun k hk => by
        have hk' : k = 0 := by have : (k : Int) < 1 := hk; omega
        subst hk'; exact iG hM (by decide)⟩
    · exact ⟨iG hM (by decide), fun k hk => by
        have hk' : k = 0 := by have : (k : Int) < 1 := hk; omega
        subst hk'; exact iG hM (by decide)⟩
    · exact ⟨iG hM (by decide), fun k hk => by
        have hk' : k = 0 := by have : (k : Int) < 1 := hk; omega
        subst hk'; exact iG hM (by decide)⟩
  · have : k = 0 ∨ k = 1 ∨ k = 2 := by omega
    rcases this with rfl | rfl | rfl <;> exact iG hM (by decide)
  · have : i = 0 := by simp at hi; exact hi
    subst this
    show mI (zSw M sl sx) 26 5 0 = -1
    exact iG hM (by decide)
  · have : k = 0 ∨ k = 1 ∨ k = 2 ∨ k = 3 ∨ k = 4 ∨ k = 5 := by omega
    rcases this with rfl | rfl | rfl | rfl | rfl | rfl <;> exact ⟨iG hM (by decide), iG hM (by decide)⟩
  · have : m = 0 ∨ m = 1 ∨ m = 2 ∨ m = 3 := by omega
    rcases this with rfl | rfl | rfl | rfl <;> exact iG hM (by decide)
  · have e1 : o = 0 ∨ o = 1 ∨ o = 2 := by omega
    have e2 : j = 0 ∨ j = 1 ∨ j = 2 ∨ j = 3 ∨ j = 4 ∨ j = 5 := by omega
    rcases e1 with rfl | rfl | rfl <;> rcases e2 with rfl | rfl | rfl | rfl | rfl | rfl <;> exact iG hM (by decide)
  · have e1 : o = 0 ∨ o = 1 ∨ o = 2 := by omega
    rcases e1 with rfl | rfl | rfl <;> exact iG hM (by decide)
theorem aI_r (hM : iOK M) : RA aI (zSw M sl sx) := by
  refine ⟨⟨sl, sx, rfl⟩, ⟨iG hM (by decide), fun k hk => absurd hk (by show ¬ k < 0; omega), fun j hj => .inl ?_, fun k hk => ?_, iG hM (by decide), iG hM (by decide), .inl ⟨iG hM (by decide), iG hM (by decide), rfl⟩⟩, ⟨fun k hk => ?_, iG hM (by decide), iG hM (by decide), iG hM (by decide), iG hM (by decide)⟩, ⟨iG hM (by decide), fun i hi => (by cases hi)⟩, ⟨iG hM (by decide), fun i hi => (by cases hi)⟩, fun m hm => .inl ⟨rfl, ?_⟩, ⟨iG hM (by decide), fun j hj => (by cases hj)⟩, iG hM (by decide), fun k hk => absurd hk (by show ¬ k < 0; omega)⟩
  · have : j = 0 ∨ j = 1 ∨ j = 2 := by omega
    rcases this with rfl | rfl | rfl <;> exact ⟨iG hM (by decide), rfl, rfl⟩
  · have : k = 0 ∨ k = 1 ∨ k = 2 := by omega
    rcases this with rfl | rfl | rfl <;> exact iG hM (by decide)
  · have : k = 0 ∨ k = 1 ∨ k = 2 ∨ k = 3 ∨ k = 4 ∨ k = 5 := by omega
    rcases this with rfl | rfl | rfl | rfl | rfl | rfl <;> exact ⟨iG hM (by decide), iG hM (by decide)⟩
  · have : m = 0 ∨ m = 1 ∨ m = 2 ∨ m = 3 := by omega
    rcases this with rfl | rfl | rfl | rfl <;> exact iG hM (by decide)
end INI2
