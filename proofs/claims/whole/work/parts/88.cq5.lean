/-- what fits what was seen -/
def mFit (A : AK) (f b : Nat) : Bool := (aV A).all (fun x => decide (mPow (aP A) (aS A) f b (x / 100).toNat = x % 100))
def gF (A : AK) (v : Nat) : Bool := mFit A (v / 31) (v % 31)
def gC (F : Nat → Bool) (v : Nat) : Int := zsum (fun w => if F w then 1 else 0) v
def gL (F : Nat → Bool) (B : Nat → Nat) : Nat → Int
  | 0 => -1
  | v + 1 => if F v then (if gL F B v = -1 ∨ (B v : Int) < gL F B v then (B v : Int) else gL F B v) else gL F B v
def gG (F : Nat → Bool) (B : Nat → Nat) : Nat → Int
  | 0 => -1
  | v + 1 => if F v then zmax (gG F B v) (B v) else gG F B v
def gS (F : Nat → Bool) (D : Nat → Nat) : Nat → Nat
  | 0 => 0
  | v + 1 => if F v then gS F D v ||| 2 ^ D v else gS F D v
theorem gC_b {F : Nat → Bool} {v : Nat} : 0 ≤ gC F v ∧ gC F v ≤ v := by
  have a1 := zsum_ge (f := fun w => if F w then (1 : Int) else 0) (n := v) (a := 0) (fun _ _ => by split <;> omega)
  have a2 := zsum_le (f := fun w => if F w then (1 : Int) else 0) (n := v) (a := 1) (fun _ _ => by split <;> omega)
  unfold gC; omega
theorem gS_lt {F : Nat → Bool} {D : Nat → Nat} : ∀ {v : Nat}, (∀ w, w < v → D w < 4) → gS F D v < 16
  | 0, _ => by simp [gS]
  | v + 1, h => by
    have := gS_lt (F := F) (D := D) (v := v) (fun w hw => h w (by omega))
    have h2 : 2 ^ D v < 2 ^ 4 := Nat.pow_lt_pow_right (by decide) (h v (by omega))
    unfold gS
    split
    · exact Nat.or_lt_two_pow (n := 4) this h2
    · exact this
section CQ5
variable {N c : Nat} {A : AK} {M : ZM}
theorem w_seen2 (hvv : VV (qN (aP A)) (aV A)) (h6 : qN (aP A) ≤ 6) {pw : Nat → Int} : ∀ (l : List Int) (n i : Nat), (aV A).drop i = l → i ≤ (aV A).length → CN 14 (aV A) M → (∀ t, t < qN (aP A) → mI M 22 0 t = pw t) → l.length < n → Wi_isAsSeen_2 N n 0 14 i M = some (if l.all (fun x => decide (pw (x / 100).toNat = x % 100)) then 1 else 0, M) := by
  intro l
  induction l with
  | nil =>
    intro n i hd hi hcn h22 hn
    have hl : (aV A).length ≤ i := List.drop_eq_nil_iff.1 hd
    cases n with
    | zero => simp at hn
    | succ n =>
      unfold Wi_isAsSeen_2
      rw [hcn.1, if_neg (by omega)]
      simp
  | cons x l ih =>
    intro n i hd hi hcn h22 hn
    have hil : i < (aV A).length := by
      rcases Nat.lt_or_ge i (aV A).length with h | h
      · exact h
      · rw [List.drop_eq_nil_iff.2 h] at hd; cases hd
    have hd2 := List.drop_eq_getElem_cons hil
    rw [hd] at hd2
    injection hd2 with hx hd3
    have hxm : x ∈ aV A := by rw [hx]; exact List.getElem_mem _
    have hxv := hvv.2 x hxm
    have hle := hvv.1
    cases n with
    | zero => simp at hn
    | succ n =>
      simp only [List.length_cons] at hn
      unfold Wi_isAsSeen_2
      rw [hcn.1, if_pos (by omega), c_get hcn.1 (by omega) (by show _ ≤ ((8 : Nat) : Int); omega) (hcn.2 i hil), zB_s, ← hx]
      have e1 : z32 (x.tdiv 100) = x / 100 := by rw [Int.tdiv_eq_ediv_of_nonneg hxv.1, zs (by omega)]
      rw [e1, Int.tmod_eq_emod_of_nonneg hxv.1]
      clear e1
      rw [zI_t (by omega), h22 _ (by omega)]
      simp only [zW_e]
      rw [zsucc (by omega)]
      by_cases b : pw (x / 100).toNat = x % 100
      · rw [if_pos b, ih n (i + 1) hd3.symm (by omega) hcn h22 (by omega)]
        simp [b]
      · rw [if_neg b]
        simp [b]
theorem w_note {x1 x2 : Nat} (h1 : x1 < 31) (h2 : x2 < 4) {a0 a1 a2 : Int} {a3 : Nat} (q0 : mI M 9 0 0 = a0) (q1 : mI M 9 0 1 = a1) (q2 : mI M 9 0 2 = a2) (q3 : mI M 9 0 3 = (a3 : Int)) (b0 : 0 ≤ a0 ∧ a0 ≤ 200) (b3 : a3 < 16) : ∃ M', Wi_note N 0 x1 x2 M = some M' ∧ zfr (fun t _ _ => t == 9) M M' ∧ mI M' 9 0 0 = a0 + 1 ∧ mI M' 9 0 1 = (if a1 = -1 ∨ (x1 : Int) < a1 then (x1 : Int) else a1) ∧ mI M' 9 0 2 = zmax a2 x1 ∧ mI M' 9 0 3 = ((a3 ||| 2 ^ x2 : Nat) : Int) := by
  unfold Wi_note
  simp only [zW_e]
  rw [q0, zs (by omega), mI_pI_ne (by omega), q1]
  have k35 : ∀ y : Int, y = (if a1 = -1 ∨ (x1 : Int) < a1 then (x1 : Int) else a1) → ∃ M', Wi_note_35 N 0 x1 x2 0 y (pI M 9 0 0 (a0 + 1)) = some M' ∧ zfr (fun t _ _ => t == 9) M M' ∧ mI M' 9 0 0 = a0 + 1 ∧ mI M' 9 0 1 = (if a1 = -1 ∨ (x1 : Int) < a1 then (x1 : Int) else a1) ∧ mI M' 9 0 2 = zmax a2 x1 ∧ mI M' 9 0 3 = ((a3 ||| 2 ^ x2 : Nat) : Int) := by
    intro y hy
    unfold Wi_note_35
    simp only [zW_e]
    refine ⟨_, rfl, ((((zfr.rf M).pI rfl).pI rfl).pI rfl).pI rfl, ?_, ?_, ?_, ?_⟩
    · simp [mI_pI]
    · simp [mI_pI, hy]
    · simp [mI_pI, q2]
    · rw [mI_pI_eq, mI_pI_ne (by omega), mI_pI_ne (by omega), mI_pI_ne (by omega), q3, zsh_n x2 (by omega), zor_n _ (by omega) _ (p2_64 (by omega))]
  by_cases b1 : a1 = -1
  · rw [if_pos b1]; exact k35 _ (by rw [if_pos (.inl b1)])
  · rw [if_neg b1]
    by_cases b2 : (x1 : Int) < a1
    · rw [if_pos b2]; exact k35 _ (by rw [if_pos (.inr b2)])
    · rw [if_neg b2]; exact k35 _ (by rw [if_neg (fun h => h.elim b1 b2)])
/-- the guesses as far as v -/
def gI (A : AK) (v : Nat) (M : ZM) : Prop := mI M 9 0 0 = gC (gF A) v ∧ mI M 9 0 1 = gL (gF A) (fun w => w % 31) v ∧ mI M 9 0 2 = gG (gF A) (fun w => w % 31) v ∧ mI M 9 0 3 = (gS (gF A) (fun w => w / 31) v : Int) ∧ (∀ w, w < v → mI M 43 0 w = if gF A w then 1 else 0) ∧ (∀ w t, w < v → t < qN (aP A) → mI M 44 0 (6 * w + t) = mPow (aP A) (aS A) ((w / 31 : Nat) : Int) ((w % 31 : Nat) : Int) t)
theorem gI_g {v : Nat} {M M' : ZM} (h : gI A v M) (e : ∀ t k, t = 9 ∨ t = 43 ∨ t = 44 → mI M' t 0 k = mI M t 0 k) : gI A v M' := by
  obtain ⟨h1, h2, h3, h4, h5, h7⟩ := h
  exact ⟨(e _ _ (by omega)).trans h1, (e _ _ (by omega)).trans h2, (e _ _ (by omega)).trans h3, (e _ _ (by omega)).trans h4, fun w hw => (e _ _ (by omega)).trans (h5 w hw), fun w t hw ht => (e _ _ (by omega)).trans (h7 w t hw ht)⟩
/-- all that a guess stands on -/
def gE (p : Nat) (A : AK) (M : ZM) : Prop := KM M ∧ CR p M ∧ CP p (aP A) M ∧ CS 0 (aS A) M ∧ CN 14 (aV A) M
theorem gE_x {p : Nat} {M M' : ZM} (h : gE p A M) (f : zfr fX M M') : gE p A M' := by
  obtain ⟨h1, h2, h3, h4, h5⟩ := h
  exact ⟨h1.e f.1, h2.e f.1, h3.fr f (fun t i k h => by simp [fX, fF, fS]; omega), h4.fr f (fun t k h => by simp [fX, fF, fS]; omega), h5.g (fun t k ht => f.2 _ _ _ (by simp [fX, fF, fS]; omega))⟩
theorem w_gs40 {p : Nat} (hv : VA c A) (hN : 2000 ≤ N) {rec23 : Nat → Nat → Nat → Nat → Nat → Int → ZM → Option ZM} {f : Nat} (hf : f < 4) : ∀ (n b : Nat) (M : ZM), gE p A M → (∀ o, o < qN (aP A) → mI M 20 0 o = mTkn (aP A) (sA (aS A)) (mRun (aS A)) (f : Int) o) → gI A (31 * f + b) M → b ≤ 31 → 31 - b < n → ∃ M', Wi_guess_40 N rec23 n 0 p 0 0 14 f b M = rec23 0 p 0 0 14 ((f + 1 : Nat) : Int) M' ∧ zfr fX M M' ∧ gI A (31 * (f + 1)) M' := by
  intro n
  induction n with
  | zero => intros; omega
  | succ n ih =>
    intro b M hE h20 hI hb hn
    have h6 := hv.p.n
    unfold Wi_guess_40
    by_cases e : b = 31
    · subst e
      rw [if_neg (by omega)]
      simp only [zW_e]
      rw [zsucc (by omega)]
      exact ⟨M, rfl, zfr.rf M, hI⟩
    · have hv31 : 31 * f + b < 124 := by omega
      have hd1 : (31 * f + b) / 31 = f := by omega
      have hd2 : (31 * f + b) % 31 = b := by omega
      have ew : z32 (z32 ((f : Int) * 31) + (b : Int)) = ((31 * f + b : Nat) : Int) := by rw [zs (x := (f : Int) * 31) (by omega), zs (by omega)]; omega
      have e6 : z32 (((31 * f + b : Nat) : Int) * 6) = ((6 * (31 * f + b) : Nat) : Int) := by rw [zs (by omega)]; omega
      rw [if_pos (by omega)]
      rw [zW_e, ew, e6]
      clear ew e6
      generalize hw : 31 * f + b = w at *
      obtain ⟨M1, e1, f1, g1, _, g2⟩ := c_give (N := N) (a := 0) (fr := (f : Int)) (bl := (b : Int)) hv.p hv.s hE.2.2.1 hE.2.2.2.1 hN (by omega) h20
      have hE1 := gE_x hE (f1.mo fF_X)
      rw [e1, zBv_s, zI_t (by omega)]
      simp only [zW_e, Int.toNat_natCast]
      have hI1 := gI_g hI (fun t k ht => f1.2 t 0 k (by simp [fF]; omega))
      generalize hM2 : pCp M1 22 0 0 44 0 (6 * w) 6 = M2
      have f2 : zfr fX M1 M2 := by rw [← hM2]; exact (zfr.rf M1).pC (fun k => by simp [fX])
      have r2 : ∀ t i k, t ≠ 44 → mI M2 t i k = mI M1 t i k := fun t i k ht => by rw [← hM2, mI_pCp, if_neg (by omega)]
      have hE2 := gE_x hE1 f2
      have hsn := w_seen2 (N := N) (M := M2) (A := A) hv.2.2.2.1 h6 (pw := mPow (aP A) (aS A) (f : Int) (b : Int)) (aV A) N 0 rfl (by omega) hE2.2.2.2.2 (fun t ht => by rw [r2 _ _ _ (by omega), (g1 t ht).2]) (by have := hv.2.2.2.1.1; omega)
      have hgF : gF A w = (aV A).all (fun x => decide (mPow (aP A) (aS A) (f : Int) (b : Int) (x / 100).toNat = x % 100)) := by
        unfold gF mFit; rw [hd1, hd2]
      rw [← hgF] at hsn
      unfold Wi_isAsSeen
      rw [show ((0 : Nat) : Int) = 0 from rfl] at hsn
      rw [hsn, zB_s, zI_t (by omega)]
      have eb : z_b1 (if gF A w = true then 1 else 0) = (if gF A w = true then 1 else 0) := by cases gF A w <;> rfl
      rw [eb, zI_t (by omega)]
      clear eb
      generalize hM3 : pI M2 43 0 w (if gF A w = true then 1 else 0) = M3
      have f3 : zfr fX M2 M3 := by rw [← hM3]; exact (zfr.rf M2).pI (by simp [fX])
      have r3 : ∀ t i k, ¬ (t = 43 ∧ i = 0 ∧ k = w) → mI M3 t i k = mI M2 t i k := fun t i k ht => by rw [← hM3, mI_pI_ne ht]
      have h43 : mI M3 43 0 w = (if gF A w = true then 1 else 0) := by rw [← hM3, mI_pI_eq]
      have hE3 := gE_x hE2 f3
      have ff := ((f1.mo fF_X).tr f2).tr f3
      obtain ⟨i1, i2, i3, i4, i5, i7⟩ := hI1
      have r23 : ∀ k, mI M3 9 0 k = mI M1 9 0 k := fun k => by rw [r3 _ _ _ (by omega), r2 _ _ _ (by omega)]
      have n5 : ∀ u, u < w + 1 → mI M3 43 0 u = if gF A u then 1 else 0 := fun u hu => by
        by_cases e : u = w
        · subst e; rw [h43]
        · rw [r3 _ _ _ (by omega), r2 _ _ _ (by omega), i5 u (by omega)]
      have n7 : ∀ u t, u < w + 1 → t < qN (aP A) → mI M3 44 0 (6 * u + t) = mPow (aP A) (aS A) ((u / 31 : Nat) : Int) ((u % 31 : Nat) : Int) t := fun u t hu ht => by
        rw [r3 _ _ _ (by omega), ← hM2, mI_pCp]
        by_cases e : u = w
        · rw [if_pos (by omega), e, hd1, hd2, show 0 + (6 * w + t - 6 * w) = t by omega, (g1 t ht).2]
        · rw [if_neg (by omega), i7 u t (by omega) ht]
      have m20 : ∀ o, o < qN (aP A) → mI M3 20 0 o = mTkn (aP A) (sA (aS A)) (mRun (aS A)) (f : Int) o := fun o ho => by rw [r3 _ _ _ (by omega), r2 _ _ _ (by omega), g2, h20 o ho]
      rw [h43, zsucc (by omega)]
      have hw1 : 31 * f + (b + 1) = w + 1 := by omega
      by_cases bf : gF A w = true
      · rw [if_pos bf, if_neg (by decide)]
        obtain ⟨M4, e4, f4, s0, s1, s2, s3⟩ := w_note (N := N) (M := M3) (x1 := b) (x2 := f) (a0 := gC (gF A) w) (a1 := gL (gF A) (fun w => w % 31) w) (a2 := gG (gF A) (fun w => w % 31) w) (a3 := gS (gF A) (fun w => w / 31) w) (by omega) hf (by rw [r23, i1]) (by rw [r23, i2]) (by rw [r23, i3]) (by rw [r23, i4]) (by have := gC_b (F := gF A) (v := w); omega) (gS_lt (fun u hu => by omega))
        rw [e4, zBv_s]
        have f4x : zfr fX M3 M4 := f4.mo (fun t i k h => by simp [fX] at h; simp; omega)
        have f4r : ∀ t k, t ≠ 9 → mI M4 t 0 k = mI M3 t 0 k := fun t k ht => f4.2 t 0 k (by simp [ht])
        obtain ⟨M', e5, f5, g5⟩ := ih (b + 1) M4 (gE_x hE3 f4x) (fun o ho => by rw [f4r _ _ (by omega), m20 o ho]) (by
          rw [hw1]
          refine ⟨?_, ?_, ?_, ?_, fun u hu => by rw [f4r _ _ (by omega), n5 u hu], fun u t hu ht => by rw [f4r _ _ (by omega), n7 u t hu ht]⟩
          · rw [s0]; unfold gC; rw [zsum, if_pos bf]
          · rw [s1, gL, if_pos bf, hd2]
          · rw [s2, gG, if_pos bf, hd2]
          · rw [s3, gS, if_pos bf, hd1]) (by omega) (by omega)
        exact ⟨M', e5, (ff.tr f4x).tr f5, g5⟩
      · rw [if_neg bf, if_pos rfl]
        obtain ⟨M', e5, f5, g5⟩ := ih (b + 1) M3 hE3 m20 (by
          rw [hw1]
          refine ⟨?_, ?_, ?_, ?_, n5, n7⟩
          · rw [r23, i1]; unfold gC; rw [zsum, if_neg bf]; simp
          · rw [r23, i2, gL, if_neg bf]
          · rw [r23, i3, gG, if_neg bf]
          · rw [r23, i4, gS, if_neg bf]) (by omega) (by omega)
        exact ⟨M', e5, ff.tr f5, g5⟩
theorem w_gs23 {p : Nat} (hv : VA c A) (hN : 2000 ≤ N) : ∀ (n f : Nat) (M : ZM), gE p A M → gI A (31 * f) M → f ≤ 4 → 4 - f < n → ∃ M', Wi_guess_23 N n 0 p 0 0 14 f M = some M' ∧ zfr fX M M' ∧ gI A 124 M' := by
  intro n
  induction n with
  | zero => intros; omega
  | succ n ih =>
    intro f M hE hI hf hn
    unfold Wi_guess_23
    by_cases e : f = 4
    · subst e
      rw [if_neg (by omega)]
      exact ⟨M, rfl, zfr.rf M, hI⟩
    · rw [if_pos (by omega)]
      obtain ⟨M1, e1, f1, g1⟩ := c_take (N := N) (a := 0) hv.p hv.s hE.2.2.1 hE.2.2.2.1 hN (fr := (f : Int)) (by omega)
      rw [e1, zBv_s]
      have hE1 := gE_x hE (f1.mo fF_X)
      obtain ⟨M2, e2, f2, g2⟩ := w_gs40 (N := N) (rec23 := Wi_guess_23 N n) hv hN (f := f) (by omega) N 0 M1 hE1 g1 (gI_g hI (fun t k ht => f1.2 t 0 k (by simp [fF]; omega))) (by omega) (by omega)
      rw [show ((0 : Nat) : Int) = 0 from rfl] at e2
      rw [e2]
      obtain ⟨M', e3, f3, g3⟩ := ih (f + 1) M2 (gE_x hE1 f2) g2 (by omega) (by omega)
      exact ⟨M', e3, ((f1.mo fF_X).tr f2).tr f3, g3⟩
theorem w_guess {p : Nat} (hv : VA c A) (hN : 2000 ≤ N) (hE : gE p A M) : ∃ M', Wi_guess N 0 p 0 0 14 M = some M' ∧ zfr fX M M' ∧ gI A 124 M' := by
  unfold Wi_guess
  simp only [zW_e]
  generalize hM1 : pI (pI (pI (pI M 9 0 0 0) 9 0 1 (-1)) 9 0 2 (-1)) 9 0 3 0 = M1
  have f1 : zfr fX M M1 := by
    rw [← hM1]
    exact ((((zfr.rf M).pI (by simp [fX])).pI (by simp [fX])).pI (by simp [fX])).pI (by simp [fX])
  obtain ⟨M', e3, f3, g3⟩ := w_gs23 (N := N) hv hN N 0 M1 (gE_x hE f1) (by
    refine ⟨?_, ?_, ?_, ?_, fun w hw => absurd hw (by omega), fun w t hw => absurd hw (by omega)⟩
    all_goals rw [← hM1]; simp [mI_pI]; rfl) (by omega) (by omega)
  exact ⟨M', e3, f1.tr f3, g3⟩
def qWinds (A : AK) (x : Int) : Int := if x = 0 then gC (gF A) 124 else if x = 1 then gL (gF A) (fun w => w % 31) 124 else if x = 2 then gG (gF A) (fun w => w % 31) 124 else if x = 3 then (gS (gF A) (fun w => w / 31) 124 : Int) else -1
theorem CA.ge (h : CA A M) : ∃ p, CR p M ∧ gE p A M := by
  obtain ⟨p, hr, hp⟩ := h.2.1
  exact ⟨p, hr, h.k, hr, hp, h.s, h.2.2.2.2.1⟩
theorem w_winds (h : CA A M) (hv : VA c A) (hN : 2000 ≤ N) (x : Int) : ∃ M', Wp_winds N 0 x M = some (qWinds A x, M') ∧ zfr fX M M' := by
  obtain ⟨p, hr, hE⟩ := h.ge
  unfold Wp_winds qWinds
  rw [hr.1, zO_s]
  obtain ⟨M1, e1, f1, i1, i2, i3, i4, _⟩ := w_guess (N := N) hv hN hE
  rw [e1, zBv_s, i1, i2, i3, i4]
  by_cases b0 : x = 0
  · rw [if_pos b0, if_pos b0]; exact ⟨M1, rfl, f1⟩
  rw [if_neg b0, if_neg b0]
  by_cases b1 : x = 1
  · rw [if_pos b1, if_pos b1]; exact ⟨M1, rfl, f1⟩
  rw [if_neg b1, if_neg b1]
  by_cases b2 : x = 2
  · rw [if_pos b2, if_pos b2]; exact ⟨M1, rfl, f1⟩
  rw [if_neg b2, if_neg b2]
  by_cases b3 : x = 3
  · rw [if_pos b3, if_pos b3]; exact ⟨M1, rfl, f1⟩
  rw [if_neg b3, if_neg b3]; exact ⟨M1, rfl, f1⟩
/-- how many of the winds before v fit and give g -/
def gT (F : Nat → Bool) (W : Nat → Nat → Int) (t : Nat) (v : Nat) (g : Nat) : Int := zsum (fun w => if F w = true ∧ W w t = g then 1 else 0) v
def gX (T : Nat → Int) : Nat → Int
  | 0 => 0
  | g + 1 => zmax (gX T g) (T g)
theorem gX_ge {T : Nat → Int} {g : Nat} : ∀ {n : Nat}, g < n → T g ≤ gX T n
  | 0, h => by omega
  | n + 1, h => by
    unfold gX
    have := zmax_ge (x := gX T n) (y := T n)
    by_cases e : g = n
    · subst e; omega
    · have := gX_ge (T := T) (g := g) (n := n) (by omega); omega
theorem gX_up {T T' : Nat → Int} {g : Nat} {x : Int} (hx : T g ≤ x) (h1 : T' g = x) (h2 : ∀ u, u ≠ g → T' u = T u) : ∀ {n : Nat}, g < n → gX T' n = zmax (gX T n) x
  | 0, h => by omega
  | n + 1, h => by
    by_cases e : g = n
    · subst e
      have : gX T' g = gX T g := gX_cg (fun u hu => h2 u (by omega))
      unfold gX
      rw [this, h1]
      unfold zmax
      repeat' split
      all_goals omega
    · have ih := gX_up hx h1 h2 (n := n) (by omega)
      unfold gX
      rw [ih, h2 n (fun e' => e e'.symm)]
      unfold zmax
      repeat' split
      all_goals omega
where gX_cg {T T' : Nat → Int} : ∀ {n : Nat}, (∀ u, u < n → T' u = T u) → gX T' n = gX T n
  | 0, _ => rfl
  | n + 1, h => by unfold gX; rw [gX_cg (fun u hu => h u (by omega)), h n (by omega)]
def aW (A : AK) (w t : Nat) : Int := mPow (aP A) (aS A) ((w / 31 : Nat) : Int) ((w % 31 : Nat) : Int) t
def mMx (A : AK) (t : Nat) : Int := gX (gT (gF A) (aW A) t 124) 100
theorem gT_b {F : Nat → Bool} {W : Nat → Nat → Int} {t v g : Nat} : 0 ≤ gT F W t v g ∧ gT F W t v g ≤ v := by
  have a1 := zsum_ge (f := fun w => if F w = true ∧ W w t = g then (1 : Int) else 0) (n := v) (a := 0) (fun _ _ => by split <;> omega)
  have a2 := zsum_le (f := fun w => if F w = true ∧ W w t = g then (1 : Int) else 0) (n := v) (a := 1) (fun _ _ => by split <;> omega)
  unfold gT; omega
theorem w_most12 (hN : 2000 ≤ N) {t : Nat} (ht : t < qN (aP A)) (h6 : qN (aP A) ≤ 6) : ∀ (n v : Nat) (M : ZM), gI A 124 M → (∀ g, g < 100 → mI M 45 0 g = gT (gF A) (aW A) t v g) → v ≤ 124 → 124 - v < n → ∃ M', Wi_mostAlike_12 N n 0 t (gX (gT (gF A) (aW A) t v) 100) v M = some (mMx A t, M') ∧ zfr (fun t _ _ => t == 45) M M' := by
  intro n
  induction n with
  | zero => intros; omega
  | succ n ih =>
    intro v M hI h45 hvv hn
    unfold Wi_mostAlike_12
    by_cases e : v = 124
    · subst e
      rw [if_neg (by omega)]
      exact ⟨M, rfl, zfr.rf M⟩
    · obtain ⟨_, _, _, _, i5, i7⟩ := id hI
      have e6 : z32 (z32 ((v : Int) * 6) + (t : Int)) = ((6 * v + t : Nat) : Int) := by rw [zs (x := (v : Int) * 6) (by omega), zs (by omega)]; omega
      rw [if_pos (by omega), zI_t (by omega), Int.toNat_natCast, i5 v (by omega), e6]
      clear e6
      simp only [zW_e]
      rw [zsucc (by omega)]
      by_cases bf : gF A v = true
      · rw [if_pos bf, if_neg (by decide), zI_t (by omega), Int.toNat_natCast, i7 v t (by omega) ht]
        have hb := mPow_b (P := aP A) (S := aS A) (fr := ((v / 31 : Nat) : Int)) (bl := ((v % 31 : Nat) : Int)) (t := t)
        have hW : mPow (aP A) (aS A) ((v / 31 : Nat) : Int) ((v % 31 : Nat) : Int) t = aW A v t := rfl
        rw [hW] at hb ⊢
        obtain ⟨g0, hg0⟩ : ∃ g0 : Nat, aW A v t = g0 := ⟨(aW A v t).toNat, by omega⟩
        rw [hg0, zI_t (by omega), zI_t (by omega), zI_t (by omega), Int.toNat_natCast, h45 g0 (by omega), mI_pI_eq]
        have hgt := gT_b (F := gF A) (W := aW A) (t := t) (v := v) (g := g0)
        rw [zs (x := gT (gF A) (aW A) t v g0 + 1) (by omega)]
        have t1 : gT (gF A) (aW A) t (v + 1) g0 = gT (gF A) (aW A) t v g0 + 1 := by unfold gT; rw [zsum, if_pos ⟨bf, hg0⟩]
        have t2 : ∀ u, u ≠ g0 → gT (gF A) (aW A) t (v + 1) u = gT (gF A) (aW A) t v u := fun u hu => by
          unfold gT; rw [zsum, if_neg (fun h => hu (by omega))]; simp
        have t3 := gX_up (T := gT (gF A) (aW A) t v) (T' := gT (gF A) (aW A) t (v + 1)) (g := g0) (x := gT (gF A) (aW A) t v g0 + 1) (by omega) t1 t2 (n := 100) (by omega)
        rw [← t3]
        have f1 : zfr (fun t _ _ => t == 45) M (pI M 45 0 g0 (gT (gF A) (aW A) t v g0 + 1)) := (zfr.rf M).pI rfl
        obtain ⟨M', e2, f2⟩ := ih (v + 1) _ (gI_g hI (fun t k ht => f1.2 t 0 k (by simp; omega))) (fun g hg => by
          rw [mI_pI]
          by_cases e : g = g0
          · rw [if_pos ⟨rfl, rfl, e⟩, e, t1]
          · rw [if_neg (by omega), h45 g hg, t2 g e]) (by omega) (by omega)
        exact ⟨M', e2, f1.tr f2⟩
      · rw [if_neg bf, if_pos rfl]
        have t2 : ∀ u, gT (gF A) (aW A) t (v + 1) u = gT (gF A) (aW A) t v u := fun u => by
          unfold gT; rw [zsum, if_neg (fun h => bf h.1)]; simp
        have t3 : gT (gF A) (aW A) t (v + 1) = gT (gF A) (aW A) t v := funext t2
        have hh := ih (v + 1) M hI (fun g hg => by rw [t2, h45 g hg]) (by omega) (by omega)
        rw [t3] at hh
        exact hh
def mAk (A : AK) : Nat → Int × Int
  | 0 => (-1, gC (gF A) 124)
  | k + 1 => if mMx A k < (mAk A k).2 then ((k : Int), mMx A k) else mAk A k
def qAsk (A : AK) : Int := (mAk A (qN (aP A))).1
theorem gX_0 : ∀ n, gX (fun _ => 0) n = 0
  | 0 => rfl
  | n + 1 => by unfold gX; rw [gX_0 n]; rfl
theorem w_most (hN : 2000 ≤ N) (hk : KM M) {t : Nat} (ht : t < qN (aP A)) (h6 : qN (aP A) ≤ 6) (hI : gI A 124 M) : ∃ M', Wi_mostAlike N 0 t M = some (mMx A t, M') ∧ zfr (fun t _ _ => t == 45) M M' := by
  unfold Wi_mostAlike
  obtain ⟨M1, e1, k1, a1, b1⟩ := c_fill (N := N) (M := M) (t := 45) (a := 0) (x := 0) (m := 100) (by omega) hN (hk.n 100 (fun _ => rfl))
  rw [e1, zBv_s]
  have f1 : zfr (fun t _ _ => t == 45) M M1 := ⟨k1, fun t i k h => b1 t i k (by simp at h; omega)⟩
  have hz : gT (gF A) (aW A) t 0 = fun _ => 0 := by funext g; rfl
  obtain ⟨M', e2, f2⟩ := w_most12 (N := N) hN ht h6 N 0 M1 (gI_g hI (fun t k ht => f1.2 t 0 k (by simp; omega))) (fun g hg => by rw [a1 g hg, hz]) (by omega) (by omega)
  rw [hz, gX_0] at e2
  exact ⟨M', e2, f1.tr f2⟩
theorem w_ask35 {p : Nat} (hv : VA c A) (hN : 2000 ≤ N) : ∀ (n k : Nat) (M : ZM), gE p A M → gI A 124 M → k ≤ qN (aP A) → qN (aP A) - k < n → ∃ M', Wp_ask_35 N n 0 (mAk A k).1 (mAk A k).2 k M = some (qAsk A, M') ∧ zfr fX M M' := by
  intro n
  induction n with
  | zero => intros; omega
  | succ n ih =>
    intro k M hE hI hk hn
    have h6 := hv.p.n
    have hi := ih (k + 1)
    unfold Wp_ask_35
    rw [hE.2.1.1, zO_s, hE.2.2.1.n]
    by_cases b : k = qN (aP A)
    · subst b
      rw [if_neg (by omega)]
      exact ⟨M, rfl, zfr.rf M⟩
    · rw [if_pos (by omega)]
      obtain ⟨M1, e1, f1⟩ := w_most (N := N) hN hE.1 (t := k) (by omega) h6 hI
      rw [e1, zB_s]
      simp only [zW_e]
      rw [zsucc (by omega)]
      have f1x : zfr fX M M1 := f1.mo (fun t i k h => by simp [fX] at h; simp; omega)
      have hh := hi M1 (gE_x hE f1x) (gI_g hI (fun t k ht => f1.2 t 0 k (by simp; omega))) (by omega) (by omega)
      clear hi ih
      obtain ⟨M', e2, f2⟩ := hh
      refine ⟨M', ?_, f1x.tr f2⟩
      by_cases b2 : mMx A k < (mAk A k).2
      · have hm : mAk A (k + 1) = ((k : Int), mMx A k) := by rw [mAk, if_pos b2]
        rw [hm] at e2
        dsimp only at e2
        rw [if_pos b2]
        exact e2
      · have hm : mAk A (k + 1) = mAk A k := by rw [mAk, if_neg b2]
        rw [hm] at e2
        rw [if_neg b2, e2]
theorem w_ask (h : CA A M) (hv : VA c A) (hN : 2000 ≤ N) : ∃ M', Wp_ask N 0 M = some (qAsk A, M') ∧ zfr fX M M' := by
  obtain ⟨p, hr, hE⟩ := h.ge
  have h6 := hv.p.n
  unfold Wp_ask
  rw [hr.1, zO_s]
  obtain ⟨M1, e1, f1, hI⟩ := w_guess (N := N) hv hN hE
  rw [e1, zBv_s]
  simp only [zW_e]
  rw [hI.1]
  obtain ⟨M', e2, f2⟩ := w_ask35 (N := N) hv hN N 0 M1 (gE_x hE f1) hI (by omega) (by omega)
  exact ⟨M', e2, f1.tr f2⟩
end CQ5
