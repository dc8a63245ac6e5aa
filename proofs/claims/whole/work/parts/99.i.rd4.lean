section RD4
variable {N n b m : Nat} {x : Nat → Int} {q q' : Nat → Int} {M M' : ZM}
def oWord (x : Nat → Int) (n b i : Nat) : RO := if tWd x n b = some i then .inr (nb x n b, 0) else eC 1 b
theorem c_passWord {i : Nat} (h : CRd x n b M) (hN : 2000 ≤ N) : CO x n fRd (fun _ M' => zcT M M') M (oWord x n b i) (Re_passWord N 0 (some i) M) := by
  unfold Re_passWord oWord
  rw [h.2.1.2.2.2.2.2]
  by_cases e : tWd x n b = some i
  · rw [if_pos e, if_pos e]
    obtain ⟨M', e1, t, f⟩ := h.pass hN
    rw [e1, zBv_s]
    exact ⟨M', rfl, t, f, f.f⟩
  · rw [if_neg e, if_neg e]
    obtain ⟨M', e1, g⟩ := c_fail (N := N) (e := 1) (by omega) h
    rw [e1, zB_s, zb10]
    exact ⟨M', rfl, g⟩
/-- a word, then a number -/
def oBoth (x : Nat → Int) (n b i : Nat) (lo hi : Int) : RO := match oWord x n b i with
  | .inl e => .inl e
  | .inr z => oNum x n z.1 lo hi
theorem r_needsBoth {c lo hi : Int} (i : Nat) (hi' : i < 30) (hc : zfi 8 (zkey i) = c) (h : RRd x n b M) (hN : 2000 ≤ N) : RO' x n fRr (fun v M' => mI M' 11 0 35 = v) M (oBoth x n b i lo hi) (Mo_needsBoth N 0 c lo hi M) := by
  unfold Mo_needsBoth oBoth oWord
  rw [r_isWord i hi' hc h.2.1, zB_s]
  by_cases e : tWd x n b = some i
  · rw [if_pos e, if_pos e, if_neg (show ¬ (1 : Int) = 0 by decide)]
    obtain ⟨M1, e1, t, f⟩ := h.pass hN
    rw [e1, zBv_s]
    have hs := r_needsNumber (N := N) (lo := lo) (hi := hi) t hN
    show RO' x n fRr (fun v M' => mI M' 11 0 35 = v) M (oNum x n (nb x n b) lo hi) _
    unfold RO' at hs
    cases ho : oNum x n (nb x n b) lo hi with
    | inl e =>
      rw [ho] at hs
      obtain ⟨M', a1, a2, a4, a5⟩ := hs
      rw [a1, zB_s, zb10]
      exact ⟨M', rfl, a2, a4, f.f.tr a5⟩
    | inr z =>
      rw [ho] at hs
      obtain ⟨M', a1, a2, a3, a5⟩ := hs
      rw [a1, zB_s, zb11]
      exact ⟨M', rfl, a2, a3, f.f.tr a5⟩
  · rw [if_neg e, if_neg e, if_pos rfl]
    obtain ⟨M', e1, g⟩ := r_fails (N := N) (e := 1) (by omega) h
    rw [e1, zB_s, zb10]
    exact ⟨M', rfl, g⟩
end RD4
