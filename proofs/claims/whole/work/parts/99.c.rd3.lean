section RD3
variable {N n b m : Nat} {x : Nat → Int} {q q' : Nat → Int} {M M' : ZM}
def tNb (x : Nat → Int) (n b : Nat) : Bool := decide (tKi x n b = 1) && (match tWd x n b with
  | none => true
  | some w => decide (26 ≤ w))
theorem tNb_t : tNb x n b = true ↔ tNm x n b := by
  unfold tNb tNm
  cases hw : tWd x n b with
  | none => simp
  | some w =>
    simp only [Bool.and_eq_true, decide_eq_true_eq]
    constructor
    · rintro ⟨h1, h2⟩; exact ⟨h1, fun i hi e => by cases e; omega⟩
    · rintro ⟨h1, h2⟩
      refine ⟨h1, ?_⟩
      by_cases e : 26 ≤ w
      · exact e
      · exact absurd rfl (h2 w (by omega))
def oTur (x : Nat → Int) (n b : Nat) (q : Nat → Int) (m : Nat) : RO := if tNb x n b then (if fNm q (wC x n b) m 0 = -1 then eC 2 b else .inr (b, fNm q (wC x n b) m 0)) else eC 1 b
def CNm (p m : Nat) (q : Nat → Int) (M : ZM) : Prop := zrg (mR M) 2 = some p ∧ mI M 4 p 0 = (m : Int) ∧ m ≤ 6 ∧ ∀ i, i < m → mL M 27 p i = q i
def RNm (r m : Nat) (q : Nat → Int) (M : ZM) : Prop := r < 2 ∧ mI M 51 0 (9 * r) = (m : Int) ∧ m ≤ 6 ∧ ∀ i, i < m → mL M 52 0 (6 * r + i) = q i
theorem c_isTurbine {p : Nat} (h : CRd x n b M) (hq : CNm p m q M) (hN : 2000 ≤ N) : CO x n fRd (fun v M' => mI M' 5 0 5 = v ∧ ∀ k, k ≠ 5 → mI M' 5 0 k = mI M 5 0 k) M (oTur x n b q m) (Re_isTurbine N 0 M) := by
  unfold Re_isTurbine oTur
  obtain ⟨v, e1, hv⟩ := c_isName (N := N) h.1.2.1 h.2.1
  rw [e1, zB_s]
  rcases hv with ⟨rfl, ht⟩ | ⟨rfl, ht⟩
  · rw [if_pos (tNb_t.2 ht), if_neg (show ¬ (1 : Int) = 0 by decide), hq.1, zO_s, h.2.1.2.2.2.2.1 ht.1]
    have hb : Pa_byName N p (wC x n b) M = some (fNm q (wC x n b) m 0, M) := c_byName hq.2.2.1 hq.2.1 hq.2.2.2 m 0 N (by omega) (by have := hq.2.2.1; omega)
    rw [show tK 32 x b (tE pLe x n b - b) = wC x n b from rfl, hb, zB_s, zW_e, mI_pI_eq]
    have h' := h.p (k := 5) (v := fNm q (wC x n b) m 0) (by decide)
    by_cases e : fNm q (wC x n b) m 0 = -1
    · rw [if_pos e, if_pos e]
      obtain ⟨M', e2, g1, g2, g3, g4⟩ := c_fail (N := N) (e := 2) (by omega) h'
      rw [e2, zB_s, if_pos rfl]
      exact ⟨M', rfl, g1, g2, g3, (zcF.p (.inr (by omega))).tr g4⟩
    · rw [if_neg e, if_neg e]
      exact ⟨_, rfl, h', ⟨mI_pI_eq, fun k hk => mI_pI_ne (by omega)⟩, zcF.p (.inr (by omega))⟩
  · rw [if_neg (fun q => ht (tNb_t.1 q)), if_pos rfl]
    obtain ⟨M', e2, g⟩ := c_fail (N := N) (e := 1) (by omega) h
    rw [e2, zB_s, zb10]
    exact ⟨M', rfl, g⟩
theorem r_needsTurbine {r : Nat} (h : RRd x n b M) (hq : RNm r m q' M) (hz : ∀ i, i < m → zNm (q i) (q' i)) (hN : 2000 ≤ N) : RO' x n fRr (fun v M' => mI M' 11 0 35 = v) M (oTur x n b q m) (Mo_needsTurbine N 0 r M) := by
  unfold Mo_needsTurbine oTur
  obtain ⟨v, e1, hv⟩ := r_isKept (N := N) h.2.1
  rw [e1, zB_s]
  rcases hv with ⟨rfl, ht⟩ | ⟨rfl, ht⟩
  · have hm := hq.2.2.1
    have hb : Mo_turbineNamed N 0 r M = some (fNm q' (mL M 11 0 7) m 0, M) := by
      unfold Mo_turbineNamed
      rw [(zr9 hq.1).2, zW_e]
      exact r_named hq.1 hm hq.2.1 hq.2.2.2 m 0 N (by omega) (by omega)
    have ee : fNm q (wC x n b) m 0 = fNm q' (mL M 11 0 7) m 0 := by
      rw [h.2.1.2.2.2.2 ht.1]
      exact fNm_eq (wCR ht.1) m 0 (fun j _ hj => hz j (by omega))
    have hf := fNm_b (q := q) (k := wC x n b) m 0
    rw [if_pos (tNb_t.2 ht), if_pos rfl, hb, zB_s, zW_e, mI_pI_eq, ← ee]
    have h' := h.p (t := 11) (k := 35) (v := fNm q (wC x n b) m 0) (by decide) (by decide)
    by_cases e : fNm q (wC x n b) m 0 = -1
    · rw [if_pos e, if_pos (by omega)]
      obtain ⟨M', e2, g1, g3, g4⟩ := r_fails (N := N) (e := 2) (by omega) h'
      rw [e2, zB_s, if_pos rfl]
      exact ⟨M', rfl, g1, g3, (zrF.p ⟨rfl, rfl, by omega⟩).tr g4⟩
    · rw [if_neg e, if_neg (by omega)]
      exact ⟨_, rfl, h', mI_pI_eq, zrF.p ⟨rfl, rfl, by omega⟩⟩
  · rw [if_neg (fun q => ht (tNb_t.1 q)), if_neg (by decide)]
    obtain ⟨M', e2, g⟩ := r_fails (N := N) (e := 1) (by omega) h
    rw [e2, zB_s, zb10]
    exact ⟨M', rfl, g⟩
end RD3
