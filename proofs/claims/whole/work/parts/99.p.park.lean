section PARK
/-! A park as it is told, line by line. -/
abbrev PO : Type := Int ⊕ (Nat × PK × Nat)
def pRow (P : PK) (j : Nat) (l : List Int) : PK := (qN P, (fun t k => if t = 7 ∧ k = j then (l.length : Int) else if t = 8 + j then l.getD k 0 else qT P t k), qL P, qO P)
def pWk (P : PK) (a b c : Int) : PK := (qN P, (fun t k => if t = 6 then (if k = 0 then a else if k = 1 then b else c) else qT P t k), qL P, qO P)
def pOne (P : PK) (i : Nat) (v : Int) : PK := (qN P, rU (qT P) 11 i v, qL P, qO P)
def pLaw (P : PK) (V : Int → Int → Int → Int → Int) : PK := (qN P, qT P, V, qO P)
def pTur (P : PK) (k o c a a' : Int) : PK := (qN P + 1, (fun t i => if i = qN P then (if t = 1 then k else if t = 2 then o else if t = 3 then c else if t = 4 then -1 else if t = 5 then 0 else if t = 12 then a else if t = 13 then a' else qT P t i) else qT P t i), qL P, qO P)
def pCab (P : PK) (t : Nat) (g v : Int) : PK := (qN P, rU (rU (qT P) 4 t g) 5 t v, qL P, qO P ++ [t])
/-- and then -/
def uB {α β : Type} (o : Int ⊕ α) (K : α → Int ⊕ β) : Int ⊕ β := match o with
  | .inl e => .inl e
  | .inr z => K z
theorem uB_l {α β : Type} {e : Int} {K : α → Int ⊕ β} : uB (.inl e) K = .inl e := rfl
theorem uB_r {α β : Type} {z : α} {K : α → Int ⊕ β} : uB (.inr z) K = K z := rfl
def oFin (x : Nat → Int) (n b : Nat) (P : PK) (T : Nat) : PO := uB (oSign x n b 59) fun z => .inr (z.1, P, T)
def oOnce (x : Nat → Int) (n b T j : Nat) : Int ⊕ (Nat × Nat) := if zbt T j then .inl (3 + 16 * (b : Int)) else .inr (nb x n b, T ||| 2 ^ j)
def oList (x : Nat → Int) (n : Nat) (hi : Int) : Nat → Nat → List Int → Int ⊕ (Nat × List Int)
  | 0, _, _ => .inl 0
  | f + 1, b, l => if l = [] ∨ tKi x n b = 2 then (if tKi x n b = 2 then (if wV x n b ≤ hi then (if l.length < 8 then oList x n hi f (nb x n b) (l ++ [wV x n b]) else .inl (5 + 16 * (b : Int))) else .inl (4 + 16 * (b : Int))) else .inl (1 + 16 * (b : Int))) else .inr (b, l)
def oRw (x : Nat → Int) (n b j : Nat) (hi : Int) (P : PK) (T : Nat) : PO := uB (oOnce x n b T j) fun z => uB (oList x n hi 1001 z.1 []) fun y => oFin x n y.1 (pRow P j y.2) z.2
def oWk (x : Nat → Int) (n b : Nat) (P : PK) (T : Nat) : PO := uB (oOnce x n b T 3) fun z => uB (oNum x n z.1 0 9) fun y1 => uB (oNum x n y1.1 0 9) fun y2 => uB (oNum x n y2.1 0 9) fun y3 => oFin x n y3.1 (pWk P y1.2 y2.2 y3.2) z.2
def oOn (x : Nat → Int) (n b i : Nat) (hi : Int) (P : PK) (T : Nat) : PO := uB (oOnce x n b T (4 + i)) fun z => uB (oNum x n z.1 1 hi) fun y => oFin x n y.1 (pOne P i y.2) z.2
def eLw (u : List Int) : Int → Int → Int → Int → Int := fun a b c e => match cEs a b c e u [] with
  | some (v :: _) => v
  | _ => 0
def oGv (x : Nat → Int) (n b : Nat) (P : PK) (T : Nat) : PO := uB (oOnce x n b T 6) fun z => uB (oGiv x n z.1) fun y => .inr (y.1, pLaw P (eLw y.2.1), z.2)
def oKi (x : Nat → Int) (n b : Nat) : Int := if tWd x n b = some 19 then 0 else if tWd x n b = some 20 then 1 else if tWd x n b = some 21 then 2 else if tWd x n b = some 22 then 3 else -1
def pTak (P : PK) (c : Int) : Nat → Bool
  | 0 => false
  | k + 1 => pTak P c k || decide (qT P 3 k = c)
def oTb (x : Nat → Int) (n b : Nat) (P : PK) (T : Nat) : PO := if qN P < 6 then (if tNb x n (nb x n b) then (if fNm (qT P 12) (wC x n (nb x n b)) (qN P) 0 = -1 then (if oKi x n (nb x n (nb x n b)) = -1 then .inl (1 + 16 * (nb x n (nb x n b) : Int)) else uB (oWord x n (nb x n (nb x n (nb x n b))) 1) fun z0 => uB (oNum x n z0.1 1 2) fun z => uB (oWord x n z.1 2) fun y => uB (oNum x n y.1 0 35) fun c => if pTak P c.2 (qN P) then .inl (3 + 16 * (y.1 : Int)) else oFin x n c.1 (pTur P (oKi x n (nb x n (nb x n b))) z.2 c.2 (wC x n (nb x n b)) (wR x n (nb x n b))) T) else .inl (3 + 16 * (nb x n b : Int))) else .inl (1 + 16 * (nb x n b : Int))) else .inl (5 + 16 * (b : Int))
def oGl (x : Nat → Int) (n b : Nat) (P : PK) : RO := if tWd x n b = some 5 then .inr (nb x n b, 6) else if tWd x n b = some 4 then (uB (oTur x n (nb x n b) (qT P 12) (qN P)) fun g => if qT P 4 g.2.toNat = -1 then eC 2 g.1 else .inr (nb x n g.1, g.2)) else eC 1 b
def oCb (x : Nat → Int) (n b : Nat) (P : PK) (T : Nat) : PO := uB (oTur x n (nb x n b) (qT P 12) (qN P)) fun t => if qT P 4 t.2.toNat = -1 then (uB (oGl x n (nb x n t.1) P) fun g => uB (oWord x n g.1 6) fun y => uB (oNum x n y.1 1 200) fun v => oFin x n v.1 (pCab P t.2.toNat g.2 v.2) T) else .inl (3 + 16 * (t.1 : Int))
/-- a line of a park -/
def oPl (x : Nat → Int) (n b : Nat) (P : PK) (T : Nat) : PO := if tWd x n b = some 0 then oTb x n b P T else if tWd x n b = some 3 then oCb x n b P T else if tWd x n b = some 7 then oRw x n b 0 30 P T else if tWd x n b = some 8 then oRw x n b 1 3 P T else if tWd x n b = some 9 then oRw x n b 2 20 P T else if tWd x n b = some 10 then oWk x n b P T else if tWd x n b = some 11 then oOn x n b 0 99 P T else if tWd x n b = some 12 then oOn x n b 1 12 P T else if tWd x n b = some 13 then oGv x n b P T else .inl (1 + 16 * (b : Int))
variable {n b T : Nat} {x : Nat → Int} {P : PK}
theorem zgetD {l : List Int} {k : Nat} (h : k < l.length) : l.getD k 0 = l[k] := by
  rw [List.getD_eq_getElem?_getD, List.getElem?_eq_getElem h]
  rfl
theorem pRow_n {j t k : Nat} {l : List Int} (h1 : t ≠ 7) (h2 : t ≠ 8 + j) : qT (pRow P j l) t k = qT P t k := by
  show (if t = 7 ∧ k = j then (l.length : Int) else if t = 8 + j then l.getD k 0 else qT P t k) = _
  rw [if_neg (by omega), if_neg h2]
theorem VP.mk2 {T' : Nat → Nat → Int} {L' : Int → Int → Int → Int → Int} (h : VP P) (e3 : ∀ t k, 1 ≤ t → t ≤ 5 → T' t k = qT P t k) (w : ∀ k, k < 3 → 0 ≤ T' 6 k ∧ T' 6 k ≤ 9) (l : ∀ j, j < 3 → 1 ≤ T' 7 j ∧ T' 7 j ≤ 8) (r0 : ∀ k : Nat, (k : Int) < T' 7 0 → 0 ≤ T' 8 k ∧ T' 8 k ≤ 30) (r1 : ∀ k : Nat, (k : Int) < T' 7 1 → 0 ≤ T' 9 k ∧ T' 9 k ≤ 3) (r2 : ∀ k : Nat, (k : Int) < T' 7 2 → 0 ≤ T' 10 k ∧ T' 10 k ≤ 20) (we : 1 ≤ T' 11 0 ∧ T' 11 0 ≤ 99) (sl : 1 ≤ T' 11 1 ∧ T' 11 1 ≤ 12) : VP (qN P, T', L', qO P) := by
  refine ⟨h.1, fun k hk => ?_, w, l, r0, r1, r2, we, sl, fun i hi => ?_, h.nd, fun t ht => ?_⟩
  · show (0 ≤ T' 1 k ∧ T' 1 k ≤ 3) ∧ (1 ≤ T' 2 k ∧ T' 2 k ≤ 2) ∧ (0 ≤ T' 3 k ∧ T' 3 k ≤ 35) ∧ (T' 4 k = -1 ∨ T' 4 k = 6 ∨ (0 ≤ T' 4 k ∧ T' 4 k < qN P)) ∧ (T' 4 k ≠ -1 → 1 ≤ T' 5 k ∧ T' 5 k ≤ 200)
    rw [e3 1 k (by omega) (by omega), e3 2 k (by omega) (by omega), e3 3 k (by omega) (by omega), e3 4 k (by omega) (by omega), e3 5 k (by omega) (by omega)]
    exact h.2.1 k hk
  · show (qO P)[i] < qN P ∧ (T' 4 (qO P)[i] = 6 ∨ ∃ j, ∃ h' : j < i, T' 4 (qO P)[i] = ((qO P)[j]'(Nat.lt_trans h' hi) : Int))
    rw [e3 4 _ (by omega) (by omega)]
    exact h.ord i hi
  · show t ∈ qO P ↔ T' 4 t ≠ -1
    rw [e3 4 _ (by omega) (by omega)]
    exact h.mem t ht
theorem VP.row {j : Nat} {l : List Int} {hi : Int} (h : VP P) (hj : (j = 0 ∧ hi = 30) ∨ (j = 1 ∧ hi = 3) ∨ (j = 2 ∧ hi = 20)) (h1 : 1 ≤ l.length ∧ l.length ≤ 8) (hl : ∀ v, v ∈ l → 0 ≤ v ∧ v ≤ hi) : VP (pRow P j l) := by
  have g : ∀ k : Nat, (k : Int) < (l.length : Int) → 0 ≤ l.getD k 0 ∧ l.getD k 0 ≤ hi := fun k hk => by
    have hk' : k < l.length := by omega
    rw [zgetD hk']
    exact hl _ (List.getElem_mem hk')
  obtain ⟨_, _, b3, b4, b5, b6, b7, b8, b9, _⟩ := id h
  refine h.mk2 (fun t k a1 a2 => ?_) (fun k hk => ?_) (fun i hi => ?_) (fun k hk => ?_) (fun k hk => ?_) (fun k hk => ?_) ?_ ?_
  · show (if t = 7 ∧ k = j then (l.length : Int) else if t = 8 + j then l.getD k 0 else qT P t k) = _
    rw [if_neg (by omega), if_neg (by omega)]
  · rw [if_neg (by omega), if_neg (by omega)]; exact b3 k hk
  · by_cases e : i = j
    · rw [if_pos ⟨rfl, e⟩]; omega
    · rw [if_neg (by omega), if_neg (by omega)]; exact b4 i hi
  · by_cases e : 0 = j
    · rw [if_pos ⟨rfl, e⟩] at hk
      rw [if_neg (by omega), if_pos (by omega)]
      have := g k hk; omega
    · rw [if_neg (by omega), if_neg (by omega)] at hk
      rw [if_neg (by omega), if_neg (by omega)]; exact b5 k hk
  · by_cases e : 1 = j
    · rw [if_pos ⟨rfl, e⟩] at hk
      rw [if_neg (by omega), if_pos (by omega)]
      have := g k hk; omega
    · rw [if_neg (by omega), if_neg (by omega)] at hk
      rw [if_neg (by omega), if_neg (by omega)]; exact b6 k hk
  · by_cases e : 2 = j
    · rw [if_pos ⟨rfl, e⟩] at hk
      rw [if_neg (by omega), if_pos (by omega)]
      have := g k hk; omega
    · rw [if_neg (by omega), if_neg (by omega)] at hk
      rw [if_neg (by omega), if_neg (by omega)]; exact b7 k hk
  · rw [if_neg (by omega), if_neg (by omega)]; exact b8
  · rw [if_neg (by omega), if_neg (by omega)]; exact b9
theorem VP.wk {a b c : Int} (h : VP P) (ha : 0 ≤ a ∧ a ≤ 9) (hb : 0 ≤ b ∧ b ≤ 9) (hc : 0 ≤ c ∧ c ≤ 9) : VP (pWk P a b c) := by
  obtain ⟨_, _, b3, b4, b5, b6, b7, b8, b9, _⟩ := id h
  refine h.mk2 (fun t k a1 a2 => ?_) (fun k hk => ?_) (fun i hi => ?_) (fun k hk => ?_) (fun k hk => ?_) (fun k hk => ?_) ?_ ?_
  · show (if t = 6 then _ else qT P t k) = _
    rw [if_neg (by omega)]
  · rw [if_pos rfl]
    split
    · exact ha
    · split
      · exact hb
      · exact hc
  · exact b4 i hi
  · exact b5 k hk
  · exact b6 k hk
  · exact b7 k hk
  · exact b8
  · exact b9
theorem VP.one {i : Nat} {v : Int} (h : VP P) (hi : (i = 0 ∧ 1 ≤ v ∧ v ≤ 99) ∨ (i = 1 ∧ 1 ≤ v ∧ v ≤ 12)) : VP (pOne P i v) := by
  obtain ⟨_, _, b3, b4, b5, b6, b7, b8, b9, _⟩ := id h
  refine h.mk2 (fun t k a1 a2 => rU_n (by omega)) (fun k hk => ?_) (fun i hi => ?_) (fun k hk => ?_) (fun k hk => ?_) (fun k hk => ?_) ?_ ?_
  · rw [rU_n (by omega)]; exact b3 k hk
  · rw [rU_n (by omega)]; exact b4 i hi
  · rw [rU_n (by omega)] at hk; rw [rU_n (by omega)]; exact b5 k hk
  · rw [rU_n (by omega)] at hk; rw [rU_n (by omega)]; exact b6 k hk
  · rw [rU_n (by omega)] at hk; rw [rU_n (by omega)]; exact b7 k hk
  · by_cases e : i = 0
    · subst e; rw [rU_s]; omega
    · rw [rU_n (by omega)]; exact b8
  · by_cases e : i = 1
    · subst e; rw [rU_s]; omega
    · rw [rU_n (by omega)]; exact b9
theorem VP.law {V : Int → Int → Int → Int → Int} (h : VP P) : VP (pLaw P V) := by
  obtain ⟨_, _, b3, b4, b5, b6, b7, b8, b9, _⟩ := id h
  exact h.mk2 (fun t k a1 a2 => rfl) b3 b4 b5 b6 b7 b8 b9
theorem VP.tur {k o c a a' : Int} (h : VP P) (h6 : qN P < 6) (hk : 0 ≤ k ∧ k ≤ 3) (ho : 1 ≤ o ∧ o ≤ 2) (hc : 0 ≤ c ∧ c ≤ 35) : VP (pTur P k o c a a') := by
  obtain ⟨b1, b2, b3, b4, b5, b6, b7, b8, b9, b10, b11, b12⟩ := id h
  have eT : ∀ t i, i ≠ qN P ∨ (6 ≤ t ∧ t ≤ 11) → qT (pTur P k o c a a') t i = qT P t i := fun t i hh => by
    show (if i = qN P then _ else _) = _
    by_cases e : i = qN P
    · rw [if_pos e, if_neg (by omega), if_neg (by omega), if_neg (by omega), if_neg (by omega), if_neg (by omega), if_neg (by omega), if_neg (by omega)]
    · rw [if_neg e]
  refine ⟨by show qN P + 1 ≤ 6; omega, fun i hi => ?_, fun i hi => ?_, fun i hi => ?_, fun i hi => ?_, fun i hi => ?_, fun i hi => ?_, ?_, ?_, fun i hi => ?_, b11, fun t ht => ?_⟩
  · have hi' : i < qN P + 1 := hi
    by_cases e : i = qN P
    · subst e
      have q1 : qT (pTur P k o c a a') 1 (qN P) = k := if_pos rfl
      have q2 : qT (pTur P k o c a a') 2 (qN P) = o := if_pos rfl
      have q3 : qT (pTur P k o c a a') 3 (qN P) = c := if_pos rfl
      have q4 : qT (pTur P k o c a a') 4 (qN P) = -1 := if_pos rfl
      rw [q1, q2, q3, q4]
      exact ⟨hk, ho, hc, .inl rfl, fun q => absurd rfl q⟩
    · rw [eT 1 i (.inl e), eT 2 i (.inl e), eT 3 i (.inl e), eT 4 i (.inl e), eT 5 i (.inl e)]
      have := b2 i (by omega)
      refine ⟨this.1, this.2.1, this.2.2.1, ?_, this.2.2.2.2⟩
      rcases this.2.2.2.1 with g | g | g
      · exact .inl g
      · exact .inr (.inl g)
      · refine .inr (.inr ⟨g.1, ?_⟩)
        show qT P 4 i < ((qN P + 1 : Nat) : Int)
        omega
  · rw [eT _ _ (.inr (by omega))]; exact b3 i hi
  · rw [eT _ _ (.inr (by omega))]; exact b4 i hi
  · rw [eT _ _ (.inr (by omega))] at hi; rw [eT _ _ (.inr (by omega))]; exact b5 i hi
  · rw [eT _ _ (.inr (by omega))] at hi; rw [eT _ _ (.inr (by omega))]; exact b6 i hi
  · rw [eT _ _ (.inr (by omega))] at hi; rw [eT _ _ (.inr (by omega))]; exact b7 i hi
  · rw [eT _ _ (.inr (by omega))]; exact b8
  · rw [eT _ _ (.inr (by omega))]; exact b9
  · have r := b10 i hi
    have hne : (qO P)[i]'hi ≠ qN P := by omega
    show (qO P)[i]'hi < qN P + 1 ∧ (qT (pTur P k o c a a') 4 ((qO P)[i]'hi) = 6 ∨ ∃ j, ∃ h' : j < i, qT (pTur P k o c a a') 4 ((qO P)[i]'hi) = ((qO P)[j]'(Nat.lt_trans h' hi) : Int))
    rw [eT 4 _ (.inl hne)]
    exact ⟨by omega, r.2⟩
  · have ht' : t < qN P + 1 := ht
    show t ∈ qO P ↔ qT (pTur P k o c a a') 4 t ≠ -1
    by_cases e : t = qN P
    · have q4 : qT (pTur P k o c a a') 4 t = -1 := by rw [e]; exact if_pos rfl
      rw [q4]
      constructor
      · intro hm
        obtain ⟨i, hi, e2⟩ := List.getElem_of_mem hm
        have := (b10 i hi).1
        omega
      · intro q; exact absurd rfl q
    · rw [eT 4 t (.inl e)]
      exact b12 t (by omega)
theorem VP.cab {t : Nat} {g v : Int} (h : VP P) (ht : t < qN P) (h4 : qT P 4 t = -1) (hg : g = 6 ∨ (0 ≤ g ∧ g < qN P ∧ qT P 4 g.toNat ≠ -1)) (hv : 1 ≤ v ∧ v ≤ 200) : VP (pCab P t g v) := by
  obtain ⟨b1, b2, b3, b4, b5, b6, b7, b8, b9, b10, b11, b12⟩ := id h
  have e4 : ∀ i, i ≠ t → qT (pCab P t g v) 4 i = qT P 4 i := fun i hi => by
    show rU (rU (qT P) 4 t g) 5 t v 4 i = _
    rw [rU_n (by omega), rU_n (by omega)]
  have e4t : qT (pCab P t g v) 4 t = g := by
    show rU (rU (qT P) 4 t g) 5 t v 4 t = _
    rw [rU_n (by omega), rU_s]
  have eT : ∀ s i, s ≠ 4 → s ≠ 5 → qT (pCab P t g v) s i = qT P s i := fun s i h1 h2 => by
    show rU (rU (qT P) 4 t g) 5 t v s i = _
    rw [rU_n (by omega), rU_n (by omega)]
  have e5 : ∀ i, i ≠ t → qT (pCab P t g v) 5 i = qT P 5 i := fun i hi => by
    show rU (rU (qT P) 4 t g) 5 t v 5 i = _
    rw [rU_n (by omega), rU_n (by omega)]
  have e5t : qT (pCab P t g v) 5 t = v := rU_s
  have hnt : t ∉ qO P := fun q => (b12 t ht).1 q h4
  refine ⟨b1, fun i hi => ?_, fun i hi => ?_, fun i hi => ?_, fun i hi => ?_, fun i hi => ?_, fun i hi => ?_, ?_, ?_, fun i hi => ?_, ?_, fun s hs => ?_⟩
  · have hi' : i < qN P := hi
    have := b2 i hi'
    rw [eT 1 i (by omega) (by omega), eT 2 i (by omega) (by omega), eT 3 i (by omega) (by omega)]
    refine ⟨this.1, this.2.1, this.2.2.1, ?_, ?_⟩
    · by_cases e : i = t
      · subst e
        rw [e4t]
        rcases hg with hg | hg
        · exact .inr (.inl hg)
        · exact .inr (.inr ⟨hg.1, hg.2.1⟩)
      · rw [e4 i e]; exact this.2.2.2.1
    · by_cases e : i = t
      · subst e
        rw [e5t]; exact fun _ => hv
      · rw [e4 i e, e5 i e]; exact this.2.2.2.2
  · rw [eT _ _ (by omega) (by omega)]; exact b3 i hi
  · rw [eT _ _ (by omega) (by omega)]; exact b4 i hi
  · rw [eT _ _ (by omega) (by omega)] at hi; rw [eT _ _ (by omega) (by omega)]; exact b5 i hi
  · rw [eT _ _ (by omega) (by omega)] at hi; rw [eT _ _ (by omega) (by omega)]; exact b6 i hi
  · rw [eT _ _ (by omega) (by omega)] at hi; rw [eT _ _ (by omega) (by omega)]; exact b7 i hi
  · rw [eT _ _ (by omega) (by omega)]; exact b8
  · rw [eT _ _ (by omega) (by omega)]; exact b9
  · have hO : qO (pCab P t g v) = qO P ++ [t] := rfl
    have hi' : i < (qO P).length + 1 := by have := hi; rw [hO, List.length_append] at this; simpa using this
    by_cases e : i < (qO P).length
    · have a1 : (qO (pCab P t g v))[i]'hi = (qO P)[i]'e := List.getElem_append_left e
      have r := b10 i e
      have hne : (qO P)[i]'e ≠ t := fun q => hnt (q ▸ List.getElem_mem e)
      rw [a1, e4 _ hne]
      refine ⟨r.1, ?_⟩
      rcases r.2 with r | ⟨j, hj, r⟩
      · exact .inl r
      · refine .inr ⟨j, hj, ?_⟩
        rw [r]
        congr 1
        exact (List.getElem_append_left (by omega)).symm
    · have e' : i = (qO P).length := by omega
      have a1 : (qO (pCab P t g v))[i]'hi = t := by
        subst e'
        exact List.getElem_concat_length rfl _
      rw [a1, e4t]
      refine ⟨ht, ?_⟩
      rcases hg with hg | hg
      · exact .inl hg
      · have hm := (b12 g.toNat (by omega)).2 hg.2.2
        obtain ⟨j, hj, ej⟩ := List.getElem_of_mem hm
        refine .inr ⟨j, by omega, ?_⟩
        have a2 : (qO (pCab P t g v))[j]'(by rw [hO, List.length_append]; omega) = (qO P)[j]'hj := List.getElem_append_left hj
        rw [a2, ej]
        omega
  · show (qO P ++ [t]).Nodup
    rw [List.nodup_append]
    refine ⟨b11, by simp, fun a ha b hb => ?_⟩
    simp at hb
    subst hb
    exact fun q => hnt (q ▸ ha)
  · have hs' : s < qN P := hs
    show s ∈ qO P ++ [t] ↔ qT (pCab P t g v) 4 s ≠ -1
    rw [List.mem_append, List.mem_singleton]
    by_cases e : s = t
    · subst e
      rw [e4t]
      constructor
      · intro _; omega
      · intro _; exact .inr rfl
    · rw [e4 s e, ← b12 s hs']
      constructor
      · rintro (q | q)
        · exact q
        · exact absurd q e
      · exact .inl
def VQP (P : PK) : Prop := ∀ k, k < qN P → zNm (qT P 12 k) (qT P 13 k)
theorem oFin_r {T' : Nat} {P' : PK} {z : Nat × PK × Nat} (h : oFin x n b P' T' = .inr z) : b < z.1 ∧ z.1 ≤ n ∧ z.2 = (P', T') := by
  unfold oFin at h
  cases ho : oSign x n b 59 with
  | inl e => rw [ho, uB_l] at h; cases h
  | inr y =>
    rw [ho, uB_r] at h
    cases h
    have := oSign_r (by decide) ho
    exact ⟨this.1, this.2, rfl⟩
theorem oNum_r {lo hi : Int} {z : Nat × Int} (hb : b ≤ n) (h : oNum x n b lo hi = .inr z) : b < z.1 ∧ z.1 ≤ n ∧ lo ≤ z.2 ∧ z.2 ≤ hi ∧ z.1 = nb x n b := by
  unfold oNum at h
  by_cases c : tKi x n b = 2
  · rw [if_pos c] at h
    by_cases c2 : lo ≤ wV x n b ∧ wV x n b ≤ hi
    · rw [if_pos c2] at h
      cases h
      exact ⟨nb_gt (by omega), nb_le hb, c2.1, c2.2, rfl⟩
    · rw [if_neg c2] at h; cases h
  · rw [if_neg c] at h; cases h
theorem oWord_r {i : Nat} {z : Nat × Int} (hb : b ≤ n) (h : oWord x n b i = .inr z) : b ≤ z.1 ∧ z.1 ≤ n ∧ z.1 = nb x n b := by
  unfold oWord at h
  by_cases c : tWd x n b = some i
  · rw [if_pos c] at h; cases h; exact ⟨nb_ge hb, nb_le hb, rfl⟩
  · rw [if_neg c] at h; cases h
theorem oTur_r {q : Nat → Int} {m : Nat} {z : Nat × Int} (h : oTur x n b q m = .inr z) : z.1 = b ∧ 0 ≤ z.2 ∧ z.2 < m := by
  have hf := fNm_b (q := q) (k := wC x n b) m 0
  unfold oTur at h
  split at h
  · split at h
    · cases h
    · cases h; exact ⟨rfl, by omega, by omega⟩
  · cases h
theorem p2_128 {j : Nat} (h : j < 7) : 2 ^ j < 128 := Nat.lt_of_lt_of_le (Nat.pow_lt_pow_right (by decide) h) (by decide)
theorem oOnce_r {j : Nat} {z : Nat × Nat} (hb : b ≤ n) (hT : T < 128) (hj : j < 7) (h : oOnce x n b T j = .inr z) : b ≤ z.1 ∧ z.1 ≤ n ∧ z.2 < 128 ∧ z.2 = T ||| 2 ^ j ∧ z.1 = nb x n b ∧ zbt T j = false := by
  unfold oOnce at h
  split at h
  · cases h
  · next c =>
    cases h
    exact ⟨nb_ge hb, nb_le hb, Nat.or_lt_two_pow (n := 7) hT (p2_128 hj), rfl, rfl, by simpa using c⟩
theorem oList_r {hi : Int} : ∀ (f b : Nat) (l : List Int) (z : Nat × List Int), b ≤ n → l.length ≤ 8 → (∀ v, v ∈ l → 0 ≤ v ∧ v ≤ hi) → oList x n hi f b l = .inr z → b ≤ z.1 ∧ z.1 ≤ n ∧ (1 ≤ z.2.length ∧ z.2.length ≤ 8) ∧ ∀ v, v ∈ z.2 → 0 ≤ v ∧ v ≤ hi := by
  intro f
  induction f with
  | zero => intro b l z _ _ _ h; cases h
  | succ f ih =>
    intro b l z hb h8 hl h
    rw [oList] at h
    by_cases c1 : l = [] ∨ tKi x n b = 2
    · rw [if_pos c1] at h
      by_cases c2 : tKi x n b = 2
      · rw [if_pos c2] at h
        by_cases c3 : wV x n b ≤ hi
        · rw [if_pos c3] at h
          by_cases c4 : l.length < 8
          · rw [if_pos c4] at h
            have h0 := wV_b c2
            have h1 := nb_ge (x := x) hb
            have := ih (nb x n b) (l ++ [wV x n b]) z (nb_le hb) (by simp; omega) (fun v hv => by
              rw [List.mem_append, List.mem_singleton] at hv
              rcases hv with hv | hv
              · exact hl v hv
              · subst hv; exact ⟨h0.1, c3⟩) h
            exact ⟨by omega, this.2⟩
          · rw [if_neg c4] at h; cases h
        · rw [if_neg c3] at h; cases h
      · rw [if_neg c2] at h; cases h
    · rw [if_neg c1] at h
      cases h
      have : l ≠ [] := fun q => c1 (.inl q)
      have := List.length_pos_iff.2 this
      exact ⟨Nat.le_refl _, hb, ⟨by show 1 ≤ l.length; omega, h8⟩, hl⟩
theorem oGiv_r {z : Nat × List Int × List Int} (hb : b ≤ n) (h : oGiv x n b = .inr z) : b < z.1 ∧ z.1 ≤ n ∧ z.2.1.length ≤ 1000 ∨ 1000 < n := by
  unfold oGiv at h
  cases ho : eE (ePart x n 7 0) x n b with
  | inl e => rw [ho] at h; cases h
  | inr y =>
    simp only [ho] at h
    have r := eE_g (ePart_g 7 0) b y hb ho
    by_cases c : tKi x n y.1 = 59
    · rw [if_pos c] at h
      cases h
      have h1 := nb_gt (x := x) (n := n) (b := y.1) (by omega)
      have h2 := nb_le (x := x) r.2.1
      by_cases e : 1000 < n
      · exact .inr e
      · exact .inl ⟨by show b < nb x n y.1; omega, h2, by show y.2.1.length ≤ 1000; omega⟩
    · rw [if_neg c] at h; cases h
theorem oKi_b : oKi x n b = -1 ∨ (0 ≤ oKi x n b ∧ oKi x n b ≤ 3) := by
  unfold oKi
  repeat' split
  all_goals omega
theorem oPl_r {z : Nat × PK × Nat} (hb : b ≤ n) (hn : n ≤ 1000) (hv : VP P) (hq : VQP P) (hT : T < 128) (h : oPl x n b P T = .inr z) : b < z.1 ∧ z.1 ≤ n ∧ VP z.2.1 ∧ VQP z.2.1 ∧ z.2.2 < 128 := by
  have g1 := nb_ge (x := x) hb
  have g2 := nb_le (x := x) hb
  have rw : ∀ (j : Nat) (hi : Int), ((j = 0 ∧ hi = 30) ∨ (j = 1 ∧ hi = 3) ∨ (j = 2 ∧ hi = 20)) → oRw x n b j hi P T = .inr z → b < z.1 ∧ z.1 ≤ n ∧ VP z.2.1 ∧ VQP z.2.1 ∧ z.2.2 < 128 := fun j hi hj h => by
    unfold oRw at h
    cases h1 : oOnce x n b T j with
    | inl e => rw [h1, uB_l] at h; cases h
    | inr y =>
      rw [h1, uB_r] at h
      have r1 := oOnce_r hb hT (by omega) h1
      cases h2 : oList x n hi 1001 y.1 [] with
      | inl e => rw [h2, uB_l] at h; cases h
      | inr w =>
        rw [h2, uB_r] at h
        have r2 := oList_r 1001 y.1 [] w r1.2.1 (by simp) (fun v hv => by simp at hv) h2
        have r3 := oFin_r h
        rw [r3.2.2]
        exact ⟨by omega, r3.2.1, hv.row hj r2.2.2.1 r2.2.2.2, fun k hk => by
          show zNm (qT (pRow P j w.2) 12 k) (qT (pRow P j w.2) 13 k)
          rw [pRow_n (by omega) (by omega), pRow_n (by omega) (by omega)]
          exact hq k hk, r1.2.2.1⟩
  have on : ∀ (i : Nat) (hi : Int), ((i = 0 ∧ hi = 99) ∨ (i = 1 ∧ hi = 12)) → oOn x n b i hi P T = .inr z → b < z.1 ∧ z.1 ≤ n ∧ VP z.2.1 ∧ VQP z.2.1 ∧ z.2.2 < 128 := fun i hi hj h => by
    unfold oOn at h
    cases h1 : oOnce x n b T (4 + i) with
    | inl e => rw [h1, uB_l] at h; cases h
    | inr y =>
      rw [h1, uB_r] at h
      have r1 := oOnce_r hb hT (by omega) h1
      cases h2 : oNum x n y.1 1 hi with
      | inl e => rw [h2, uB_l] at h; cases h
      | inr w =>
        rw [h2, uB_r] at h
        have r2 := oNum_r r1.2.1 h2
        have r3 := oFin_r h
        rw [r3.2.2]
        exact ⟨by omega, r3.2.1, hv.one (by omega), fun k hk => by
          show zNm (rU (qT P) 11 i w.2 12 k) (rU (qT P) 11 i w.2 13 k)
          rw [rU_n (by omega), rU_n (by omega)]
          exact hq k hk, r1.2.2.1⟩
  unfold oPl at h
  split at h
  · -- a turbine
    unfold oTb at h
    split at h
    · next h6 =>
      split at h
      · next hnm =>
        split at h
        · split at h
          · cases h
          · next hk =>
            have g3 := nb_ge (x := x) g2
            have g4 := nb_le (x := x) g2
            have g5 := nb_ge (x := x) g4
            have g6 := nb_le (x := x) g4
            cases h0 : oWord x n (nb x n (nb x n (nb x n b))) 1 with
            | inl e => rw [h0, uB_l] at h; cases h
            | inr z0 =>
              rw [h0, uB_r] at h
              have r0 := oWord_r g6 h0
              cases h1 : oNum x n z0.1 1 2 with
              | inl e => rw [h1, uB_l] at h; cases h
              | inr z1 =>
                rw [h1, uB_r] at h
                have r1 := oNum_r r0.2.1 h1
                cases h2 : oWord x n z1.1 2 with
                | inl e => rw [h2, uB_l] at h; cases h
                | inr z2 =>
                  rw [h2, uB_r] at h
                  have r2 := oWord_r r1.2.1 h2
                  cases h3 : oNum x n z2.1 0 35 with
                  | inl e => rw [h3, uB_l] at h; cases h
                  | inr z3 =>
                    rw [h3, uB_r] at h
                    have r3 := oNum_r r2.2.1 h3
                    split at h
                    · cases h
                    · have r4 := oFin_r h
                      have hki := oKi_b (x := x) (n := n) (b := nb x n (nb x n b))
                      rw [r4.2.2]
                      refine ⟨by omega, r4.2.1, hv.tur h6 (by omega) (by omega) (by omega), fun k hk => ?_, hT⟩
                      have hk' : k < qN P + 1 := hk
                      by_cases e : k = qN P
                      · have q1 : qT (pTur P (oKi x n (nb x n (nb x n b))) z1.2 z3.2 (wC x n (nb x n b)) (wR x n (nb x n b))) 12 k = wC x n (nb x n b) := if_pos e
                        have q2 : qT (pTur P (oKi x n (nb x n (nb x n b))) z1.2 z3.2 (wC x n (nb x n b)) (wR x n (nb x n b))) 13 k = wR x n (nb x n b) := if_pos e
                        show zNm (qT _ 12 k) (qT _ 13 k)
                        rw [q1, q2]
                        exact wCR (tNb_t.1 hnm).1
                      · have q1 : qT (pTur P (oKi x n (nb x n (nb x n b))) z1.2 z3.2 (wC x n (nb x n b)) (wR x n (nb x n b))) 12 k = qT P 12 k := if_neg e
                        have q2 : qT (pTur P (oKi x n (nb x n (nb x n b))) z1.2 z3.2 (wC x n (nb x n b)) (wR x n (nb x n b))) 13 k = qT P 13 k := if_neg e
                        show zNm (qT _ 12 k) (qT _ 13 k)
                        rw [q1, q2]
                        exact hq k (by omega)
        · cases h
      · cases h
    · cases h
  · split at h
    · -- a cable
      unfold oCb at h
      cases h1 : oTur x n (nb x n b) (qT P 12) (qN P) with
      | inl e => rw [h1, uB_l] at h; cases h
      | inr t =>
        rw [h1, uB_r] at h
        have r1 := oTur_r h1
        split at h
        · next h4 =>
          have g3 := nb_ge (x := x) (n := n) (b := t.1) (by omega)
          have g4 := nb_le (x := x) (n := n) (b := t.1) (by omega)
          cases h2 : oGl x n (nb x n t.1) P with
          | inl e => rw [h2, uB_l] at h; cases h
          | inr g =>
            rw [h2, uB_r] at h
            have rg : nb x n t.1 ≤ g.1 ∧ g.1 ≤ n ∧ (g.2 = 6 ∨ (0 ≤ g.2 ∧ g.2 < qN P ∧ qT P 4 g.2.toNat ≠ -1)) := by
              have k1 := nb_ge (x := x) g4
              have k2 := nb_le (x := x) g4
              unfold oGl at h2
              split at h2
              · cases h2; exact ⟨k1, k2, .inl rfl⟩
              · split at h2
                · cases h5 : oTur x n (nb x n (nb x n t.1)) (qT P 12) (qN P) with
                  | inl e => rw [h5, uB_l] at h2; cases h2
                  | inr w =>
                    rw [h5, uB_r] at h2
                    have r5 := oTur_r h5
                    split at h2
                    · cases h2
                    · next h6 =>
                      cases h2
                      have k3 := nb_ge (x := x) (n := n) (b := w.1) (by omega)
                      have k4 := nb_le (x := x) (n := n) (b := w.1) (by omega)
                      exact ⟨by show nb x n t.1 ≤ nb x n w.1; omega, k4, .inr ⟨r5.2.1, r5.2.2, h6⟩⟩
                · cases h2
            cases h3 : oWord x n g.1 6 with
            | inl e => rw [h3, uB_l] at h; cases h
            | inr y =>
              rw [h3, uB_r] at h
              have r3 := oWord_r rg.2.1 h3
              cases h5 : oNum x n y.1 1 200 with
              | inl e => rw [h5, uB_l] at h; cases h
              | inr v =>
                rw [h5, uB_r] at h
                have r5 := oNum_r r3.2.1 h5
                have r6 := oFin_r h
                rw [r6.2.2]
                exact ⟨by omega, r6.2.1, hv.cab (by omega) h4 rg.2.2 ⟨r5.2.2.1, r5.2.2.2.1⟩, fun k hk => by
                  show zNm (rU (rU (qT P) 4 t.2.toNat g.2) 5 t.2.toNat v.2 12 k) (rU (rU (qT P) 4 t.2.toNat g.2) 5 t.2.toNat v.2 13 k)
                  rw [rU_n (by omega), rU_n (by omega), rU_n (by omega), rU_n (by omega)]
                  exact hq k hk, hT⟩
        · cases h
    · split at h
      · exact rw 0 30 (.inl ⟨rfl, rfl⟩) h
      · split at h
        · exact rw 1 3 (.inr (.inl ⟨rfl, rfl⟩)) h
        · split at h
          · exact rw 2 20 (.inr (.inr ⟨rfl, rfl⟩)) h
          · split at h
            · -- wakes
              unfold oWk at h
              cases h1 : oOnce x n b T 3 with
              | inl e => rw [h1, uB_l] at h; cases h
              | inr y =>
                rw [h1, uB_r] at h
                have r1 := oOnce_r hb hT (by omega) h1
                cases h2 : oNum x n y.1 0 9 with
                | inl e => rw [h2, uB_l] at h; cases h
                | inr w1 =>
                  rw [h2, uB_r] at h
                  have r2 := oNum_r r1.2.1 h2
                  cases h3 : oNum x n w1.1 0 9 with
                  | inl e => rw [h3, uB_l] at h; cases h
                  | inr w2 =>
                    rw [h3, uB_r] at h
                    have r3 := oNum_r r2.2.1 h3
                    cases h4 : oNum x n w2.1 0 9 with
                    | inl e => rw [h4, uB_l] at h; cases h
                    | inr w3 =>
                      rw [h4, uB_r] at h
                      have r4 := oNum_r r3.2.1 h4
                      have r5 := oFin_r h
                      rw [r5.2.2]
                      exact ⟨by omega, r5.2.1, hv.wk (by omega) (by omega) (by omega), hq, r1.2.2.1⟩
            · split at h
              · exact on 0 99 (.inl ⟨rfl, rfl⟩) h
              · split at h
                · exact on 1 12 (.inr ⟨rfl, rfl⟩) h
                · split at h
                  · -- a law
                    unfold oGv at h
                    cases h1 : oOnce x n b T 6 with
                    | inl e => rw [h1, uB_l] at h; cases h
                    | inr y =>
                      rw [h1, uB_r] at h
                      have r1 := oOnce_r hb hT (by omega) h1
                      cases h2 : oGiv x n y.1 with
                      | inl e => rw [h2, uB_l] at h; cases h
                      | inr w =>
                        rw [h2, uB_r] at h
                        have r2 := oGiv_r r1.2.1 h2
                        cases h
                        exact ⟨by show b < w.1; omega, by show w.1 ≤ n; omega, hv.law, hq, r1.2.2.1⟩
                  · cases h
end PARK
