section EXPR
/-- what reading a part of E comes to: an error, or the next place, the class's codes, the reference's codes -/
abbrev EO : Type := Int ⊕ (Nat × List Int × List Int)
def eFact (x : Nat → Int) (n b : Nat) : Int := if tWd x n b = some 26 then -1 else if tWd x n b = some 27 then -2 else if tWd x n b = some 28 then -3 else if tWd x n b = some 29 then -4 else 0
/-- parts with a sign between them -/
def eLoop (sg : Nat → Option (Int × Int)) (pa : Nat → EO) (x : Nat → Int) (n : Nat) : Nat → Nat → List Int → List Int → EO
  | 0, _, _, _ => .inl 0
  | f + 1, b, u, w => match sg b with
    | none => .inr (b, u, w)
    | some s => match pa (nb x n b) with
      | .inl e => .inl e
      | .inr z => eLoop sg pa x n f z.1 (u ++ z.2.1 ++ [s.1]) (w ++ s.2 :: z.2.2)
def eMany (sg : Nat → Option (Int × Int)) (pa : Nat → EO) (x : Nat → Int) (n b : Nat) : EO := match pa b with
  | .inl e => .inl e
  | .inr z => eLoop sg pa x n 1001 z.1 z.2.1 z.2.2
def sgP (x : Nat → Int) (n b : Nat) : Option (Int × Int) := if tKi x n b = 42 then some (-12, 22) else none
def sgS (x : Nat → Int) (n b : Nat) : Option (Int × Int) := if tKi x n b = 43 then some (-10, 20) else if tKi x n b = 45 then some (-11, 21) else none
def sgE (x : Nat → Int) (n b : Nat) : Option (Int × Int) := if tWd x n b = some 24 then some (-6, 26) else if tWd x n b = some 25 then some (-7, 27) else none
def sgT (x : Nat → Int) (n b : Nat) : Option (Int × Int) := if tKi x n b = 60 then some (-8, 24) else if tKi x n b = 61 then some (-9, 25) else none
def eTest (su : Nat → EO) (x : Nat → Int) (n b : Nat) : EO := match su b with
  | .inl e => .inl e
  | .inr z => match sgT x n z.1 with
    | none => .inr z
    | some s => match su (nb x n z.1) with
      | .inl e => .inl e
      | .inr y => .inr (y.1, z.2.1 ++ y.2.1 ++ [s.1], z.2.2 ++ s.2 :: y.2.2)
def eE (pa : Nat → EO) (x : Nat → Int) (n b : Nat) : EO := eMany (sgE x n) (eTest (eMany (sgS x n) (eMany (sgP x n) pa x n) x n) x n) x n b
/-- a part at depth d -/
def ePart (x : Nat → Int) (n : Nat) : Nat → Nat → Nat → EO
  | 0, _, _ => .inl 0
  | k + 1, d, b => if tKi x n b = 2 ∨ tKi x n b = 40 ∨ tWd x n b = some 23 ∨ eFact x n b ≠ 0 then (if d < 5 then (
      if tKi x n b = 40 then (match eE (ePart x n k (d + 1)) x n (nb x n b) with
        | .inl e => .inl e
        | .inr z => if tKi x n z.1 = 41 then .inr (nb x n z.1, z.2.1, 28 :: (z.2.2 ++ [29])) else .inl (1 + 16 * (z.1 : Int)))
      else if tWd x n b = some 23 then (match ePart x n k (d + 1) (nb x n b) with
        | .inl e => .inl e
        | .inr z => .inr (z.1, z.2.1 ++ [-5], 30 :: z.2.2))
      else if tKi x n b = 2 then .inr (nb x n b, [wV x n b], [100 + wV x n b])
      else .inr (nb x n b, [eFact x n b], [- eFact x n b]))
    else .inl (5 + 16 * (b : Int))) else .inl (1 + 16 * (b : Int))
variable {N n b : Nat} {x : Nat → Int} {M M' : ZM}
theorem c_factOf : Re_factOf N (tWd x n b) M = some (eFact x n b, M) := by
  unfold Re_factOf eFact
  split
  · rfl
  · split
    · rfl
    · split
      · rfl
      · split <;> rfl
theorem r_fact (h : RTok x n b M) : Mo_fact N 0 M = some (- eFact x n b, M) := by
  unfold Mo_fact eFact
  have w := fun i (hi : i < 30) => tWd_iff (x := x) (n := n) (b := b) hi
  by_cases c1 : tKi x n b = 1
  · rw [if_pos (h.w1.2 c1), h.2.2.2.2 c1]
    show (if z_lcmp (wR x n b) 459652 = 0 then some (1, M) else if z_lcmp (wR x n b) 464144 = 0 then some (2, M) else if z_lcmp (wR x n b) 812435 = 0 then some (3, M) else if z_lcmp (wR x n b) 7622660 = 0 then some (4, M) else some (0, M)) = _
    have k : ∀ (i : Nat) (v : Int), i < 30 → zfi 8 (zkey i) = v → (z_lcmp (wR x n b) v = 0 ↔ tWd x n b = some i) := fun i v hi hv => by
      rw [z_lcmp0, w i hi, hv]
      exact ⟨fun q => ⟨c1, q⟩, fun q => q.2⟩
    have k26 := k 26 459652 (by decide) (by decide +kernel)
    have k27 := k 27 464144 (by decide) (by decide +kernel)
    have k28 := k 28 812435 (by decide) (by decide +kernel)
    have k29 := k 29 7622660 (by decide) (by decide +kernel)
    by_cases d1 : tWd x n b = some 26
    · rw [if_pos (k26.2 d1), if_pos d1]; rfl
    · rw [if_neg (fun q => d1 (k26.1 q)), if_neg d1]
      by_cases d2 : tWd x n b = some 27
      · rw [if_pos (k27.2 d2), if_pos d2]; rfl
      · rw [if_neg (fun q => d2 (k27.1 q)), if_neg d2]
        by_cases d3 : tWd x n b = some 28
        · rw [if_pos (k28.2 d3), if_pos d3]; rfl
        · rw [if_neg (fun q => d3 (k28.1 q)), if_neg d3]
          by_cases d4 : tWd x n b = some 29
          · rw [if_pos (k29.2 d4), if_pos d4]; rfl
          · rw [if_neg (fun q => d4 (k29.1 q)), if_neg d4]; rfl
  · have no : ∀ i, i < 30 → tWd x n b ≠ some i := fun i hi q => c1 ((w i hi).1 q).1
    rw [if_neg (fun q => c1 (h.w1.1 q)), if_neg (no 26 (by decide)), if_neg (no 27 (by decide)), if_neg (no 28 (by decide)), if_neg (no 29 (by decide))]; rfl
end EXPR
