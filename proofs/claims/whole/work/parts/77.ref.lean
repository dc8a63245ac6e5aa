/-! The reference's memory. -/
/-- its nine rows of seven by depth -/
abbrev RT : Type := Nat → Nat → Int
def rU (ρ : RT) (t d : Nat) (x : Int) : RT := fun t' d' => if t' = t ∧ d' = d then x else ρ t' d'
def rOp (ρ : RT) (d : Nat) : RT := rU (rU (rU (rU (rU ρ 65 d 0) 67 d 0) 68 d 0) 69 d 20) 71 d 0
def rSm (ρ : RT) (d : Nat) : RT := rU (rU ρ 68 d (if ρ 69 d = 21 then z32 (ρ 68 d - ρ 70 d) else z32 (ρ 68 d + ρ 70 d))) 71 d 0
def rV1 (ρ : RT) (d : Nat) : Int := if ρ 67 d = 24 then (if ρ 66 d < ρ 68 d then 1 else 0) else if ρ 67 d = 25 then (if ρ 66 d = ρ 68 d then 1 else 0) else ρ 68 d
def rV2 (ρ : RT) (d : Nat) (v : Int) : Int := if ρ 65 d = 26 then (if ρ 64 d = 0 then 0 else if v = 0 then 0 else 1) else if ρ 65 d = 27 then (if ρ 64 d = 0 then (if v = 0 then 0 else 1) else 1) else v
def rTs (ρ : RT) (d : Nat) : RT := rU (rU (rU (rU (rSm ρ d) 64 d (rV2 (rSm ρ d) d (rV1 (rSm ρ d) d))) 67 d 0) 68 d 0) 69 d 20
def rNt (v : Int) : Int := if v = 0 then 1 else 0
def rPp (ρ : RT) : Nat → Int → Nat × Int
  | 0, v => (0, v)
  | d + 1, v => if ρ 72 (d + 1) = 1 then rPp ρ d (rNt v) else (d + 1, v)
def rPt (ρ : RT) (d : Nat) (v : Int) : RT := rU ρ 70 d (if ρ 71 d = 0 then v else z32 (ρ 70 d * v))
/-- a value comes -/
def rVl (ρ : RT) (d : Nat) (v : Int) : Nat × RT := ((rPp ρ d v).1, rPt ρ (rPp ρ d v).1 (rPp ρ d v).2)
def rFc (x a b c d : Int) : Int := if x = 1 then a else if x = 2 then b else if x = 3 then c else d
/-- one code -/
def rS1 (a b c e : Int) (x : Int) (q : Nat × RT) : Option (Nat × RT) :=
  if x = 28 ∨ x = 30 then (if q.1 < 6 then some (q.1 + 1, rOp (rU q.2 72 (q.1 + 1) (if x = 30 then 1 else 0)) (q.1 + 1)) else none)
  else if x = 20 ∨ x = 21 then some (q.1, rU (rSm q.2 q.1) 69 q.1 x)
  else if x = 22 then some (q.1, rU q.2 71 q.1 22)
  else if x = 24 ∨ x = 25 then some (q.1, rU (rU (rU (rU (rSm q.2 q.1) 66 q.1 (rSm q.2 q.1 68 q.1)) 67 q.1 x) 68 q.1 0) 69 q.1 20)
  else if x = 26 ∨ x = 27 then some (q.1, rU (rTs q.2 q.1) 65 q.1 x)
  else if x = 29 then (match q.1 with
    | 0 => none
    | d + 1 => some (rVl (rTs q.2 (d + 1)) d (rTs q.2 (d + 1) 64 (d + 1))))
  else if 100 ≤ x then some (rVl q.2 q.1 (z32 (x - 100)))
  else if 1 ≤ x ∧ x ≤ 4 then some (rVl q.2 q.1 (rFc x a b c e))
  else none
def rRn (a b c e : Int) : List Int → Nat × RT → Option (Nat × RT)
  | [], q => some q
  | x :: u, q => (rS1 a b c e x q).bind (rRn a b c e u)
theorem rRn_ap {a b c e : Int} : ∀ {u v : List Int} {q : Nat × RT}, rRn a b c e (u ++ v) q = (rRn a b c e u q).bind (rRn a b c e v)
  | [], v, q => rfl
  | x :: u, v, q => by
    simp only [List.cons_append, rRn]
    cases rS1 a b c e x q with
    | none => rfl
    | some q' => exact rRn_ap
/-- what the reference's codes say -/
def rLw (u : List Int) (L : Int → Int → Int → Int → Int) : Prop := ∀ a b c e, zr32 a → zr32 b → zr32 c → zr32 e → ∀ (ρ : RT), ∃ ρ', rRn a b c e u (0, rOp ρ 0) = some (0, ρ') ∧ rTs ρ' 0 64 0 = L a b c e
def RLw (L : Int → Int → Int → Int → Int) (M : ZM) : Prop := (mI M 59 0 0 = 0 ∧ mI M 60 0 0 = 0 ∧ L = fun w _ _ _ => w) ∨ (∃ u : List Int, mI M 59 0 0 = 0 ∧ mI M 60 0 0 = (u.length : Int) ∧ u ≠ [] ∧ u.length ≤ 1000 ∧ (∀ i, (h : i < u.length) → mI M 61 0 i = u[i]) ∧ rLw u L)
def RP (P : PK) (M : ZM) : Prop :=
  mI M 51 0 0 = qN P
  ∧ (∀ k, k < qN P → mI M 53 0 k = qT P 1 k ∧ mI M 54 0 k = qT P 2 k ∧ mI M 55 0 k = qT P 3 k ∧ mI M 56 0 k = qT P 4 k ∧ mI M 57 0 k = qT P 5 k ∧ mL M 52 0 k = qT P 13 k)
  ∧ (∀ j, j < 3 → (mI M 51 0 (1 + j) = 0 ∧ qT P 7 j = 1 ∧ qT P (8 + j) 0 = (if j = 1 then 0 else 10)) ∨ (mI M 51 0 (1 + j) = qT P 7 j ∧ ∀ k : Nat, (k : Int) < qT P 7 j → mI M 58 0 (8 * j + k) = qT P (8 + j) k))
  ∧ (∀ k, k < 3 → mI M 51 0 (6 + k) = qT P 6 k)
  ∧ mI M 51 0 4 = qT P 11 0 ∧ mI M 51 0 5 = qT P 11 1
  ∧ RLw (qL P) M
def zshu (n o : Nat) : Nat := zbts (fun t => !zbt o t) n
def RS (t b n : Nat) (S : SK) (M : ZM) : Prop := (∀ k, k < 6 → mI M t 0 (b + 4 + k) = sA S k ∧ mI M t 0 (b + 10 + k) = sW S k) ∧ mI M t 0 b = sT S ∧ mI M t 0 (b + 1) = sS S ∧ mI M t 0 (b + 2) = (zshu n (sO S) : Int) ∧ mI M t 0 (b + 3) = (sB S : Int)
section RPx
variable {P : PK} {M : ZM}
theorem RP.n (h : RP P M) : mI M 51 0 0 = (qN P : Int) := h.1
theorem RP.k (h : RP P M) {k : Nat} (hk : k < qN P) : mI M 53 0 k = qT P 1 k := (h.2.1 k hk).1
theorem RP.o (h : RP P M) {k : Nat} (hk : k < qN P) : mI M 54 0 k = qT P 2 k := (h.2.1 k hk).2.1
theorem RP.c (h : RP P M) {k : Nat} (hk : k < qN P) : mI M 55 0 k = qT P 3 k := (h.2.1 k hk).2.2.1
theorem RP.g (h : RP P M) {k : Nat} (hk : k < qN P) : mI M 56 0 k = qT P 4 k := (h.2.1 k hk).2.2.2.1
theorem RP.h (h : RP P M) {k : Nat} (hk : k < qN P) : mI M 57 0 k = qT P 5 k := (h.2.1 k hk).2.2.2.2.1
theorem RP.nm (h : RP P M) {k : Nat} (hk : k < qN P) : mL M 52 0 k = qT P 13 k := (h.2.1 k hk).2.2.2.2.2
theorem RP.r (h : RP P M) {j : Nat} (hj : j < 3) : (mI M 51 0 (1 + j) = 0 ∧ qT P 7 j = 1 ∧ qT P (8 + j) 0 = (if j = 1 then 0 else 10)) ∨ (mI M 51 0 (1 + j) = qT P 7 j ∧ ∀ k : Nat, (k : Int) < qT P 7 j → mI M 58 0 (8 * j + k) = qT P (8 + j) k) := h.2.2.1 j hj
theorem RP.w (h : RP P M) {k : Nat} (hk : k < 3) : mI M 51 0 (6 + k) = qT P 6 k := h.2.2.2.1 k hk
theorem RP.we (h : RP P M) : mI M 51 0 4 = qT P 11 0 := h.2.2.2.2.1
theorem RP.sl (h : RP P M) : mI M 51 0 5 = qT P 11 1 := h.2.2.2.2.2.1
theorem RP.lw (h : RP P M) : RLw (qL P) M := h.2.2.2.2.2.2
theorem RP.fr {M' : ZM} {F : Nat → Nat → Nat → Bool} (h : RP P M) (hf : zfr F M M') (hF : ∀ t k, t = 51 ∨ (53 ≤ t ∧ t ≤ 61) → F t 0 k = false) : RP P M' := by
  have e : ∀ t k, t = 51 ∨ (53 ≤ t ∧ t ≤ 61) → mI M' t 0 k = mI M t 0 k := fun t k ht => hf.2 t 0 k (hF t k ht)
  obtain ⟨h1, h2, h3, h4, h5, h6, h7⟩ := h
  refine ⟨(e _ _ (by omega)).trans h1, fun k hk => ?_, fun j hj => ?_, fun k hk => (e _ _ (by omega)).trans (h4 k hk), (e _ _ (by omega)).trans h5, (e _ _ (by omega)).trans h6, ?_⟩
  · obtain ⟨a1, a2, a3, a4, a5, a6⟩ := h2 k hk
    exact ⟨(e _ _ (by omega)).trans a1, (e _ _ (by omega)).trans a2, (e _ _ (by omega)).trans a3, (e _ _ (by omega)).trans a4, (e _ _ (by omega)).trans a5, (mL_2 hf.1 _ _ _).trans a6⟩
  · rcases h3 j hj with a | a
    · exact .inl ⟨(e _ _ (by omega)).trans a.1, a.2⟩
    · exact .inr ⟨(e _ _ (by omega)).trans a.1, fun k hk => (e _ _ (by omega)).trans (a.2 k hk)⟩
  · rcases h7 with a | ⟨u, a⟩
    · exact .inl ⟨(e _ _ (by omega)).trans a.1, (e _ _ (by omega)).trans a.2.1, a.2.2⟩
    · exact .inr ⟨u, (e _ _ (by omega)).trans a.1, (e _ _ (by omega)).trans a.2.1, a.2.2.1, a.2.2.2.1, fun i hi => (e _ _ (by omega)).trans (a.2.2.2.2.1 i hi), a.2.2.2.2.2⟩
end RPx
section RSx
variable {t b n : Nat} {S : SK} {M : ZM}
theorem RS.fr {M' : ZM} {F : Nat → Nat → Nat → Bool} (h : RS t b n S M) (hf : zfr F M M') (hF : ∀ k, b ≤ k → k < b + 16 → F t 0 k = false) : RS t b n S M' := by
  have e : ∀ k, b ≤ k → k < b + 16 → mI M' t 0 k = mI M t 0 k := fun k h1 h2 => hf.2 t 0 k (hF k h1 h2)
  obtain ⟨h1, h2, h3, h4, h5⟩ := h
  exact ⟨fun k hk => ⟨(e _ (by omega) (by omega)).trans (h1 k hk).1, (e _ (by omega) (by omega)).trans (h1 k hk).2⟩, (e _ (by omega) (by omega)).trans h2, (e _ (by omega) (by omega)).trans h3, (e _ (by omega) (by omega)).trans h4, (e _ (by omega) (by omega)).trans h5⟩
end RSx
abbrev R0 (n : Nat) (S : SK) (M : ZM) : Prop := RS 81 0 n S M
theorem RS.a {n : Nat} {S : SK} {M : ZM} (h : R0 n S M) {k : Nat} (hk : k < 6) : mI M 81 0 (4 + k) = sA S k := by have := (h.1 k hk).1; rwa [Nat.zero_add] at this
theorem RS.w {n : Nat} {S : SK} {M : ZM} (h : R0 n S M) {k : Nat} (hk : k < 6) : mI M 81 0 (10 + k) = sW S k := by have := (h.1 k hk).2; rwa [Nat.zero_add] at this
theorem RS.t {n : Nat} {S : SK} {M : ZM} (h : R0 n S M) : mI M 81 0 0 = sT S := h.2.1
theorem RS.s {n : Nat} {S : SK} {M : ZM} (h : R0 n S M) : mI M 81 0 1 = sS S := h.2.2.1
theorem RS.o {n : Nat} {S : SK} {M : ZM} (h : R0 n S M) : mI M 81 0 2 = (zshu n (sO S) : Int) := h.2.2.2.1
theorem RS.b {n : Nat} {S : SK} {M : ZM} (h : R0 n S M) : mI M 81 0 3 = (sB S : Int) := h.2.2.2.2
/-- of the reference: what is written while it is measured -/
def fr (t _i k : Nat) : Bool := (t == 11 && (k == 50 || k == 51)) || (64 ≤ t && t ≤ 73) || t == 87 || t == 88
/-- the law's rows alone -/
def fw (t _i _k : Nat) : Bool := 64 ≤ t && t ≤ 73
theorem fw_n {t i k : Nat} (h : ¬ (64 ≤ t ∧ t ≤ 73)) : fw t i k = false := by simp [fw]; omega
theorem fw_r : ∀ t i k, fr t i k = false → fw t i k = false := by
  intro t i k h; simp [fr] at h; simp [fw]; omega
theorem fr_p : ∀ t k, t = 51 ∨ (53 ≤ t ∧ t ≤ 61) → fr t 0 k = false := by
  intro t k h; simp [fr]; omega
theorem fw_p : ∀ t k, t = 51 ∨ (53 ≤ t ∧ t ≤ 61) → fw t 0 k = false := by
  intro t k h; simp [fw]; omega
theorem fr_s {t : Nat} (ht : 81 ≤ t ∧ t ≤ 86) : ∀ k, fr t 0 k = false := by
  intro k; simp [fr]; omega
theorem fw_s {t : Nat} (ht : 81 ≤ t ∧ t ≤ 86) : ∀ k, fw t 0 k = false := by
  intro k; simp [fw]; omega
section REF
variable {N : Nat} {P : PK} {S : SK} {M : ZM} {c : Nat}
theorem zshu_t {n o t : Nat} (h : t < n) : zbt (zshu n o) t = !zbt o t := by
  unfold zshu; rw [zbts_t]; simp [h]
theorem zshu_lt {n o : Nat} (h : n ≤ 6) : zshu n o < 64 := pow64 h zbts_lt
theorem r_isShut (hv : VP P) (hs : R0 (qN P) S M) {t : Nat} (ht : t < qN P) : Mo_isShut N 0 t M = some (if zbt (sO S) t then 0 else 1, M) := by
  have h6 := hv.n
  unfold Mo_isShut
  rw [hs.o, zan_b _ (zshu_lt h6) _ (by omega), zshu_t ht]
  cases zbt (sO S) t <;> simp
theorem r_isBroken (hs : R0 (qN P) S M) (hb : sB S < 64) {t : Nat} (ht : t < 6) : Mo_isBroken N 0 t M = some (if zbt (sB S) t then 1 else 0, M) := by
  unfold Mo_isBroken
  rw [hs.b, zan_b _ hb _ ht]
  cases zbt (sB S) t <;> simp
theorem r_runs (hv : VP P) (hs : R0 (qN P) S M) (hb : sB S < 64) {t : Nat} (ht : t < qN P) : Mo_runs N 0 t M = some (if mRun S t then 1 else 0, M) := by
  have h6 := hv.n
  unfold Mo_runs mRun
  rw [r_isShut hv hs ht, zB_s]
  cases zbt (sO S) t
  · simp
  · rw [r_isBroken hs hb (by omega)]
    cases zbt (sB S) t <;> simp [zB_s]
theorem r_turnedOf (hs : R0 (qN P) S M) (hv : VS c P S) {t : Nat} (ht : t < 6) : Mo_turnedOf N 0 t M = some (mTb (sA S t), M) := by
  have ha := hv.a ht
  unfold Mo_turnedOf
  have e : z32 (4 + (t : Int)) = ((4 + t : Nat) : Int) := by rw [zs (by omega)]; omega
  simp only [e]
  rw [zI_t (by omega), Int.toNat_natCast, hs.a ht, zs (by omega)]
  rfl
theorem r_rowOf (hv : VP P) (h : RP P M) (hs : R0 (qN P) S M) {x u : Int} {j : Nat} (hj : j < 3) (hx : x = ((1 + j : Nat) : Int)) (hu : u = if j = 1 then 0 else 10) (ht : 0 ≤ sT S) : Mo_rowOf N 0 x u M = some (mRow P j (sT S), M) := by
  have hl := hv.l hj
  have hm := tmod_in ht hl.1
  subst hx
  unfold Mo_rowOf mRow
  rw [zI_t (by omega), Int.toNat_natCast]
  rcases h.r hj with ⟨a1, a2, a3⟩ | ⟨a1, a2⟩
  · rw [if_pos a1, hu, ← a3, a2]
    have : (sT S).tmod 1 = 0 := by
      rw [Int.tmod_eq_emod_of_nonneg ht]; omega
    rw [this]; rfl
  · rw [if_neg (by omega), zI_t (by omega), if_neg (by omega), hs.t, a1]
    have e1 : z32 (((1 + j : Nat) : Int) - 1) = (j : Int) := by rw [zs (by omega)]; omega
    have e2 : z32 (8 * (j : Int)) = 8 * (j : Int) := zs (by omega)
    have e3 : z32 (8 * (j : Int) + (sT S).tmod (qT P 7 j)) = 8 * (j : Int) + (sT S).tmod (qT P 7 j) := zs (by omega)
    simp only [e1, e2, e3]
    rw [zI_t (by omega)]
    have := a2 ((sT S).tmod (qT P 7 j)).toNat (by omega)
    have e4 : (8 * (j : Int) + (sT S).tmod (qT P 7 j)).toNat = 8 * j + ((sT S).tmod (qT P 7 j)).toNat := by omega
    rw [e4, this]
theorem r_priceNow (hv : VP P) (h : RP P M) (hs : R0 (qN P) S M) (ht : 0 ≤ sT S) : Mo_priceNow N 0 M = some (mPr P S, M) := by
  unfold Mo_priceNow
  have := hv.pr ht
  rw [r_rowOf (j := 2) hv h hs (by omega) (by decide) (by decide) ht, zB_s, zs (by omega)]
  rfl
theorem r_looks (hv : VP P) (h : RP P M) (hs : R0 (qN P) S M) (ht : 0 ≤ sT S) : ∃ M', Mo_looks N 0 M = some M' ∧ zfr fr M M' ∧ mI M' 11 0 50 = mBl P S ∧ mI M' 11 0 51 = mFr P S := by
  unfold Mo_looks
  rw [r_rowOf (j := 0) hv h hs (by omega) (by decide) (by decide) ht, zB_s]
  dsimp only [zW]
  have hf : zfr fr M (pI M 11 0 50 (mRow P 0 (sT S))) := (zfr.rf M).pI (by simp [fr])
  rw [r_rowOf (j := 1) hv (h.fr hf fr_p) (hs.fr hf (fun k _ _ => fr_s (by omega) k)) (by omega) (by decide) (by decide) ht, zB_s]
  refine ⟨_, rfl, hf.pI (by simp [fr]), ?_, ?_⟩
  · rw [mI_pI_ne (by omega), mI_pI_eq]; rfl
  · rw [mI_pI_eq]; rfl
theorem r_behind (hv : VP P) (h : RP P M) (hs : R0 (qN P) S M) (hz : VS c P S) {fw : Int} (hfr : mI M 11 0 51 = fw) (hf : 0 ≤ fw ∧ fw ≤ 3) {t o : Nat} (ht : t < qN P) (ho : o < qN P) {far : Int} (hfar : 1 ≤ far ∧ far ≤ 3) : ∃ v, Mo_behind N 0 t far M = some (v, M) ∧ (v = qT P 3 o ↔ mOff P t o fw = far ∧ mAsd P t o fw = mDr (sA S t) far) := by
  have h6 := hv.n
  have hc1 := hv.c ht
  have hc2 := hv.c ho
  have ha := hz.a (k := t) (by omega)
  have key : ∀ sd : Int, (-1 ≤ sd ∧ sd ≤ 1) → ∃ v, Mo_behind_42 N 0 t far sd M = some (v, M) ∧ (v = qT P 3 o ↔ mOff P t o fw = far ∧ mAsd P t o fw = sd) := by
    intro sd hsd
    have k120 : ∀ x y1 y2 : Int, (-10 ≤ x ∧ x ≤ 10) → (-20 ≤ y1 + y2 ∧ y1 + y2 ≤ 20) → ∃ v, Mo_behind_120 N x y1 y2 M = some (v, M) ∧ (v = qT P 3 o ↔ x = qT P 3 o % 6 ∧ y1 + y2 = qT P 3 o / 6) := by
      intro x y1 y2 hx hy
      unfold Mo_behind_120
      dsimp only [zW]
      rw [zs (x := y1 + y2) (by omega)]
      generalize y1 + y2 = y at *
      unfold Mo_within
      by_cases b1 : x < 0
      · refine ⟨-1, by simp [b1, zB_s], by omega⟩
      · by_cases b2 : 5 < x
        · refine ⟨-1, by simp [b1, b2, zB_s], by omega⟩
        · by_cases b3 : y < 0
          · refine ⟨-1, by simp [b1, b2, b3, zB_s], by omega⟩
          · by_cases b4 : 5 < y
            · refine ⟨-1, by simp [b1, b2, b3, b4, zB_s], by omega⟩
            · refine ⟨6 * y + x, by
                simp only [b1, b2, b3, b4, zB_s, if_false]
                rw [if_neg (by decide), if_neg (by decide), zs (x := 6 * y) (by omega), zs (by omega)], by omega⟩
    have k65 : ∀ ah : Int, (-3 ≤ ah ∧ ah ≤ 3) → ∃ v, Mo_behind_65 N 0 t sd ah M = some (v, M) ∧ (v = qT P 3 o ↔ (if fw = 0 ∨ fw = 2 then qT P 3 t % 6 + sd = qT P 3 o % 6 ∧ qT P 3 t / 6 + ah = qT P 3 o / 6 else qT P 3 t % 6 + ah = qT P 3 o % 6 ∧ qT P 3 t / 6 + sd = qT P 3 o / 6)) := by
      intro ah hah
      unfold Mo_behind_65
      rw [zI_t (by omega), Int.toNat_natCast, hfr, h.c ht, Int.tmod_eq_emod_of_nonneg hc1.1]
      unfold Mo_behind_92
      simp only [zW]
      rw [zI_t (by omega), zI_t (by omega)]
      simp only [Int.toNat_natCast, hfr, h.c ht]
      rw [Int.tdiv_eq_ediv_of_nonneg hc1.1, zs (x := qT P 3 t / 6) (by omega)]
      have cc : fw = 0 ∨ fw = 1 ∨ fw = 2 ∨ fw = 3 := by omega
      rcases cc with rfl | rfl | rfl | rfl
      · obtain ⟨v, e, hq⟩ := k120 (qT P 3 t % 6 + sd) (qT P 3 t / 6) ah (by omega) (by omega)
        refine ⟨v, ?_, by simpa using hq⟩
        rw [zs (x := qT P 3 t % 6 + sd) (by omega)]
        simpa using e
      · obtain ⟨v, e, hq⟩ := k120 (qT P 3 t % 6 + ah) (qT P 3 t / 6) sd (by omega) (by omega)
        refine ⟨v, ?_, by simpa using hq⟩
        rw [zs (x := qT P 3 t % 6 + ah) (by omega)]
        simpa using e
      · obtain ⟨v, e, hq⟩ := k120 (qT P 3 t % 6 + sd) (qT P 3 t / 6) ah (by omega) (by omega)
        refine ⟨v, ?_, by simpa using hq⟩
        rw [zs (x := qT P 3 t % 6 + sd) (by omega)]
        simpa using e
      · obtain ⟨v, e, hq⟩ := k120 (qT P 3 t % 6 + ah) (qT P 3 t / 6) sd (by omega) (by omega)
        refine ⟨v, ?_, by simpa using hq⟩
        rw [zs (x := qT P 3 t % 6 + ah) (by omega)]
        simpa using e
    unfold Mo_behind_42 mOff mAsd
    rw [hfr]
    have cc : fw = 0 ∨ fw = 1 ∨ fw = 2 ∨ fw = 3 := by omega
    rcases cc with rfl | rfl | rfl | rfl
    · obtain ⟨v, e, hq⟩ := k65 far (by omega)
      exact ⟨v, by simpa using e, by simp at hq ⊢; omega⟩
    · rw [zs (x := -far) (by omega)]
      obtain ⟨v, e, hq⟩ := k65 (-far) (by omega)
      exact ⟨v, by simpa using e, by simp at hq ⊢; omega⟩
    · rw [zs (x := -far) (by omega)]
      obtain ⟨v, e, hq⟩ := k65 (-far) (by omega)
      exact ⟨v, by simpa using e, by simp at hq ⊢; omega⟩
    · obtain ⟨v, e, hq⟩ := k65 far (by omega)
      exact ⟨v, by simpa using e, by simp at hq ⊢; omega⟩
  unfold Mo_behind
  rw [r_turnedOf hs hz (by omega), zB_s]
  have h21 : Mo_behind_21 N 0 t far M = Mo_behind_42 N 0 t far (if sA S t < 2 then -1 else 1) M := by
    unfold Mo_behind_21
    have e : z32 (4 + (t : Int)) = ((4 + t : Nat) : Int) := by rw [zs (by omega)]; omega
    simp only [e]
    rw [zI_t (by omega), Int.toNat_natCast, hs.a (by omega)]
    split <;> rfl
  have hd : (if mTb (sA S t) = 2 then Mo_behind_21 N 0 t far M else if mTb (sA S t) = 1 then if 1 < far then Mo_behind_21 N 0 t far M else Mo_behind_42 N 0 t far 0 M else Mo_behind_42 N 0 t far 0 M) = Mo_behind_42 N 0 t far (mDr (sA S t) far) M := by
    rw [h21]
    unfold mDr
    have h5 : sA S t = 0 ∨ sA S t = 1 ∨ sA S t = 2 ∨ sA S t = 3 ∨ sA S t = 4 := by omega
    have m0 : mTb 0 = 2 := by decide
    have m1 : mTb 1 = 1 := by decide
    have m2 : mTb 2 = 0 := by decide
    have m3 : mTb 3 = 1 := by decide
    have m4 : mTb 4 = 2 := by decide
    by_cases b : far = 1
    · rcases h5 with q | q | q | q | q <;> rw [q] <;> simp [m0, m1, m2, m3, m4, b]
    · have b' : 1 < far := by omega
      rcases h5 with q | q | q | q | q <;> rw [q] <;> simp [m0, m1, m2, m3, m4, b, b']
  rw [hd]
  refine key _ ?_
  unfold mDr
  split <;> (try split) <;> (try split) <;> omega
end REF
