section MEAN
abbrev EV : Type := Int → Int → Int → Int → Int
def eRg (a b c e : Int) : Prop := zr32 a ∧ zr32 b ∧ zr32 c ∧ zr32 e
def eR (V : EV) : Prop := ∀ a b c e, eRg a b c e → zr32 (V a b c e)
/-- the class's codes push the value -/
def eC4 (q : Nat) (u : List Int) (V : EV) : Prop := ∀ (a b c e : Int) (st rest : List Int), st.length + q ≤ 32 → cEs a b c e (u ++ rest) st = cEs a b c e rest (V a b c e :: st)
variable {n d q q' : Nat} {x : Nat → Int} {u u' w w' : List Int} {V V' : EV} {s v : Int}
theorem cEs_o {a b c e s u : Int} {w r : List Int} (hx : s < -4) : cEs a b c e (s :: w) (u :: r) = if s = -5 then cEs a b c e w ((if u = 0 then 1 else 0) :: r) else (match r with
    | [] => none
    | u2 :: r2 => cEs a b c e w (cJn s u2 u :: r2)) := if_pos hx
theorem cEs_n {a b c e s : Int} {w st : List Int} (hx : ¬ s < -4) (hl : st.length < 32) : cEs a b c e (s :: w) st = cEs a b c e w ((if s < 0 then cFc s a b c e else s) :: st) := (if_neg hx).trans (if_pos hl)
theorem eC4.mo (h : eC4 q u V) (hq : q ≤ q') : eC4 q' u V := fun a b c e st rest hl => h a b c e st rest (by omega)
theorem eC4.jn (h : eC4 q u V) (h' : eC4 q' u' V') (hq : q' + 1 ≤ q) (hs : s < -5) : eC4 q (u ++ u' ++ [s]) (fun a b c e => cJn s (V a b c e) (V' a b c e)) := by
  intro a b c e st rest hl
  rw [List.append_assoc, List.append_assoc, h a b c e _ _ hl, h' a b c e _ _ (by simp only [List.length_cons]; omega)]
  show cEs a b c e (s :: rest) _ = _
  rw [cEs_o (by omega), if_neg (by omega)]
theorem eC4.nt (h : eC4 q u V) : eC4 q (u ++ [-5]) (fun a b c e => rNt (V a b c e)) := by
  intro a b c e st rest hl
  rw [List.append_assoc, h a b c e _ _ hl]
  show cEs a b c e (-5 :: rest) _ = _
  rw [cEs_o (by decide), if_pos rfl]
  rfl
theorem eC4.nb (hv : 0 ≤ v) : eC4 1 [v] (fun _ _ _ _ => v) := by
  intro a b c e st rest hl
  show cEs a b c e (v :: rest) _ = _
  rw [cEs_n (by omega) (by omega), if_neg (by omega)]
theorem eC4.fc (hv : -4 ≤ v ∧ v ≤ -1) : eC4 1 [v] (fun a b c e => cFc v a b c e) := by
  intro a b c e st rest hl
  show cEs a b c e (v :: rest) _ = _
  rw [cEs_n (by omega) (by omega), if_pos (by omega)]
theorem cJn_r {a b : Int} : zr32 (cJn s a b) := by
  have h0 : zr32 0 := by unfold zr32; omega
  have h1 : zr32 1 := by unfold zr32; omega
  unfold cJn
  repeat' split
  all_goals first | exact z32_r _ | exact h0 | exact h1
theorem rNt_r {a : Int} : zr32 (rNt a) := by
  unfold rNt zr32
  split <;> omega
theorem rU_s {ρ : RT} {t i : Nat} {y : Int} : rU ρ t i y t i = y := if_pos ⟨rfl, rfl⟩
theorem rU_n {ρ : RT} {t i t' i' : Nat} {y : Int} (h : ¬ (t' = t ∧ i' = i)) : rU ρ t i y t' i' = ρ t' i' := if_neg h
def eOpn (d : Nat) (ρ : RT) : Prop := d = 0 ∨ ρ 72 d ≠ 1
theorem eOpn.pp {ρ : RT} {y : Int} (h : eOpn d ρ) : rPp ρ d y = (d, y) := by
  cases d with
  | zero => rfl
  | succ d =>
    rw [rPp, if_neg]
    rcases h with h | h
    · omega
    · exact h
theorem eOpn.vl {ρ : RT} {y : Int} (h : eOpn d ρ) : rVl ρ d y = (d, rPt ρ d y) := by
  unfold rVl
  rw [h.pp]
theorem rSm_68 {ρ : RT} : rSm ρ d 68 d = if ρ 69 d = 21 then z32 (ρ 68 d - ρ 70 d) else z32 (ρ 68 d + ρ 70 d) := by
  unfold rSm
  rw [rU_n (by omega), rU_s]
theorem rSm_71 {ρ : RT} : rSm ρ d 71 d = 0 := by
  unfold rSm
  rw [rU_s]
theorem rSm_n {ρ : RT} {t i : Nat} (h : i = d → t ≠ 68 ∧ t ≠ 71) : rSm ρ d t i = ρ t i := by
  unfold rSm
  rw [rU_n (by omega), rU_n (by omega)]
theorem rTs_64 {ρ : RT} : rTs ρ d 64 d = rV2 (rSm ρ d) d (rV1 (rSm ρ d) d) := by
  unfold rTs
  rw [rU_n (by omega), rU_n (by omega), rU_n (by omega), rU_s]
theorem rTs_n {ρ : RT} {t i : Nat} (h : i = d → t < 64 ∨ 71 < t ∨ t = 65) : rTs ρ d t i = ρ t i := by
  unfold rTs
  rw [rU_n (by omega), rU_n (by omega), rU_n (by omega), rU_n (by omega), rSm_n (by omega)]
theorem rTs_67 {ρ : RT} : rTs ρ d 67 d = 0 := by
  unfold rTs
  rw [rU_n (by omega), rU_n (by omega), rU_s]
theorem rTs_68 {ρ : RT} : rTs ρ d 68 d = 0 := by
  unfold rTs
  rw [rU_n (by omega), rU_s]
theorem rTs_69 {ρ : RT} : rTs ρ d 69 d = 20 := by
  unfold rTs
  rw [rU_s]
theorem rTs_71 {ρ : RT} : rTs ρ d 71 d = 0 := by
  unfold rTs
  rw [rU_n (by omega), rU_n (by omega), rU_n (by omega), rU_n (by omega), rSm_71]
theorem rOp_n {ρ : RT} {t i : Nat} (h : i = d → t ≠ 65 ∧ t ≠ 67 ∧ t ≠ 68 ∧ t ≠ 69 ∧ t ≠ 71) : rOp ρ d t i = ρ t i := by
  unfold rOp
  rw [rU_n (by omega), rU_n (by omega), rU_n (by omega), rU_n (by omega), rU_n (by omega)]
theorem rOp_v {ρ : RT} : rOp ρ d 65 d = 0 ∧ rOp ρ d 67 d = 0 ∧ rOp ρ d 68 d = 0 ∧ rOp ρ d 69 d = 20 ∧ rOp ρ d 71 d = 0 := by
  unfold rOp
  refine ⟨?_, ?_, ?_, ?_, ?_⟩
  · rw [rU_n (by omega), rU_n (by omega), rU_n (by omega), rU_n (by omega), rU_s]
  · rw [rU_n (by omega), rU_n (by omega), rU_n (by omega), rU_s]
  · rw [rU_n (by omega), rU_n (by omega), rU_s]
  · rw [rU_n (by omega), rU_s]
  · rw [rU_s]
def ePt (d : Nat) (w : List Int) (V : EV) : Prop := ∀ a b c e, eRg a b c e → ∀ ρ : RT, ∃ ρ' : RT, (∀ t i, i ≤ d → ρ' t i = ρ t i) ∧ rRn a b c e w (d, ρ) = some (rVl ρ' d (V a b c e))
def ePr (d : Nat) (w : List Int) (V : EV) : Prop := ∀ a b c e, eRg a b c e → ∀ ρ : RT, eOpn d ρ → ρ 71 d = 0 → ∃ ρ' : RT, rRn a b c e w (d, ρ) = some (d, ρ') ∧ ρ' 70 d = V a b c e ∧ ∀ t i, i ≤ d → (i = d → t ≠ 70 ∧ t ≠ 71) → ρ' t i = ρ t i
def eSu (d : Nat) (w : List Int) (V : EV) : Prop := ∀ a b c e, eRg a b c e → ∀ ρ : RT, eOpn d ρ → ρ 71 d = 0 → ρ 68 d = 0 → ρ 69 d = 20 → ∃ ρ' : RT, rRn a b c e w (d, ρ) = some (d, ρ') ∧ rSm ρ' d 68 d = V a b c e ∧ ∀ t i, i ≤ d → (i = d → t < 68 ∨ 71 < t) → ρ' t i = ρ t i
def eTs (d : Nat) (w : List Int) (V : EV) : Prop := ∀ a b c e, eRg a b c e → ∀ ρ : RT, eOpn d ρ → ρ 71 d = 0 → ρ 68 d = 0 → ρ 69 d = 20 → ρ 67 d = 0 → ∃ ρ' : RT, rRn a b c e w (d, ρ) = some (d, ρ') ∧ rV1 (rSm ρ' d) d = V a b c e ∧ ∀ t i, i ≤ d → (i = d → t < 66 ∨ 71 < t) → ρ' t i = ρ t i
def eEx (d : Nat) (w : List Int) (V : EV) : Prop := ∀ a b c e, eRg a b c e → ∀ ρ : RT, eOpn d ρ → ρ 71 d = 0 → ρ 68 d = 0 → ρ 69 d = 20 → ρ 67 d = 0 → ρ 65 d = 0 → ∃ ρ' : RT, rRn a b c e w (d, ρ) = some (d, ρ') ∧ rTs ρ' d 64 d = V a b c e ∧ ∀ t i, i ≤ d → (i = d → t < 64 ∨ 71 < t) → ρ' t i = ρ t i
theorem ePr.of (h : ePt d w V) : ePr d w V := by
  intro a b c e hg ρ ho h71
  obtain ⟨ρ1, k1, r1⟩ := h a b c e hg ρ
  have ho1 : eOpn d ρ1 := by unfold eOpn at ho ⊢; rw [k1 _ _ (Nat.le_refl d)]; exact ho
  rw [ho1.vl] at r1
  refine ⟨_, r1, ?_, fun t i hi hn => ?_⟩
  · unfold rPt
    rw [rU_s, if_pos ((k1 _ _ (Nat.le_refl d)).trans h71)]
  · unfold rPt
    rw [rU_n (by omega), k1 _ _ hi]
theorem ePr.st (h : ePr d w V) (h' : ePt d w' V') : ePr d (w ++ 22 :: w') (fun a b c e => cJn (-12) (V a b c e) (V' a b c e)) := by
  intro a b c e hg ρ ho h71
  obtain ⟨ρ1, r1, v1, k1⟩ := h a b c e hg ρ ho h71
  obtain ⟨ρ3, k3, r3⟩ := h' a b c e hg (rU ρ1 71 d 22)
  have e72 : ρ3 72 d = ρ 72 d := by rw [k3 _ _ (Nat.le_refl d), rU_n (by omega), k1 _ _ (Nat.le_refl d) (by omega)]
  have ho3 : eOpn d ρ3 := by unfold eOpn at ho ⊢; rw [e72]; exact ho
  rw [ho3.vl] at r3
  have e71 : ρ3 71 d = 22 := by rw [k3 _ _ (Nat.le_refl d), rU_s]
  have e70 : ρ3 70 d = V a b c e := by rw [k3 _ _ (Nat.le_refl d), rU_n (by omega), v1]
  refine ⟨rPt ρ3 d (V' a b c e), ?_, ?_, fun t i hi hn => ?_⟩
  · rw [rRn_ap, r1]
    exact r3
  · unfold rPt
    rw [rU_s, if_neg (by rw [e71]; decide), e70]
    rfl
  · unfold rPt
    rw [rU_n (by omega), k3 _ _ hi, rU_n (by omega), k1 _ _ hi hn]
theorem eSu.of (h : ePr d w V) (hr : eR V) : eSu d w V := by
  intro a b c e hg ρ ho h71 h68 h69
  obtain ⟨ρ1, r1, v1, k1⟩ := h a b c e hg ρ ho h71
  refine ⟨ρ1, r1, ?_, fun t i hi hn => k1 t i hi (by omega)⟩
  rw [rSm_68, k1 69 d (Nat.le_refl d) (by omega), k1 68 d (Nat.le_refl d) (by omega), h69, h68, v1, if_neg (by decide), Int.zero_add]
  exact z32_id (hr a b c e hg)
theorem eSu.st {c1 : Int} (hs : (c1 = -10 ∧ s = 20) ∨ (c1 = -11 ∧ s = 21)) (h : eSu d w V) (h' : ePr d w' V') : eSu d (w ++ s :: w') (fun a b c e => cJn c1 (V a b c e) (V' a b c e)) := by
  intro a b c e hg ρ ho h71 h68 h69
  obtain ⟨ρ1, r1, v1, k1⟩ := h a b c e hg ρ ho h71 h68 h69
  have e1 : rS1 a b c e s (d, ρ1) = some (d, rU (rSm ρ1 d) 69 d s) := by
    rcases hs with ⟨_, rfl⟩ | ⟨_, rfl⟩ <;> rfl
  have e72 : rU (rSm ρ1 d) 69 d s 72 d = ρ 72 d := by rw [rU_n (by omega), rSm_n (by omega), k1 _ _ (Nat.le_refl d) (by omega)]
  obtain ⟨ρ2, r2, v2, k2⟩ := h' a b c e hg (rU (rSm ρ1 d) 69 d s) (by unfold eOpn at ho ⊢; rw [e72]; exact ho) (by rw [rU_n (by omega), rSm_71])
  refine ⟨ρ2, ?_, ?_, fun t i hi hn => ?_⟩
  · rw [rRn_ap, r1]
    show (rS1 a b c e s (d, ρ1)).bind _ = _
    rw [e1]
    exact r2
  · rw [rSm_68, k2 69 d (Nat.le_refl d) (by omega), k2 68 d (Nat.le_refl d) (by omega), rU_s, rU_n (by omega), v1, v2]
    rcases hs with ⟨rfl, rfl⟩ | ⟨rfl, rfl⟩ <;> rfl
  · rw [k2 t i hi (by omega), rU_n (by omega), rSm_n (by omega), k1 t i hi hn]
theorem eTs.of (h : eSu d w V) : eTs d w V := by
  intro a b c e hg ρ ho h71 h68 h69 h67
  obtain ⟨ρ1, r1, v1, k1⟩ := h a b c e hg ρ ho h71 h68 h69
  refine ⟨ρ1, r1, ?_, fun t i hi hn => k1 t i hi (by omega)⟩
  unfold rV1
  rw [rSm_n (t := 67) (by omega), k1 67 d (Nat.le_refl d) (by omega), h67, if_neg (by decide), if_neg (by decide), v1]
theorem eTs.st {c1 : Int} (hs : (c1 = -8 ∧ s = 24) ∨ (c1 = -9 ∧ s = 25)) (h : eSu d w V) (h' : eSu d w' V') : eTs d (w ++ s :: w') (fun a b c e => cJn c1 (V a b c e) (V' a b c e)) := by
  intro a b c e hg ρ ho h71 h68 h69 h67
  obtain ⟨ρ1, r1, v1, k1⟩ := h a b c e hg ρ ho h71 h68 h69
  have e1 : rS1 a b c e s (d, ρ1) = some (d, rU (rU (rU (rU (rSm ρ1 d) 66 d (rSm ρ1 d 68 d)) 67 d s) 68 d 0) 69 d 20) := by
    rcases hs with ⟨_, rfl⟩ | ⟨_, rfl⟩ <;> rfl
  rw [v1] at e1
  generalize hρ : rU (rU (rU (rU (rSm ρ1 d) 66 d (V a b c e)) 67 d s) 68 d 0) 69 d 20 = ρ2 at e1
  have f66 : ρ2 66 d = V a b c e := by rw [← hρ, rU_n (by omega), rU_n (by omega), rU_n (by omega), rU_s]
  have f67 : ρ2 67 d = s := by rw [← hρ, rU_n (by omega), rU_n (by omega), rU_s]
  have f68 : ρ2 68 d = 0 := by rw [← hρ, rU_n (by omega), rU_s]
  have f69 : ρ2 69 d = 20 := by rw [← hρ, rU_s]
  have f71 : ρ2 71 d = 0 := by rw [← hρ, rU_n (by omega), rU_n (by omega), rU_n (by omega), rU_n (by omega), rSm_71]
  have f0 : ∀ t i, i ≤ d → (i = d → t < 66 ∨ 71 < t) → ρ2 t i = ρ t i := fun t i hi hn => by rw [← hρ, rU_n (by omega), rU_n (by omega), rU_n (by omega), rU_n (by omega), rSm_n (by omega), k1 t i hi (by omega)]
  obtain ⟨ρ3, r2, v2, k2⟩ := h' a b c e hg ρ2 (by unfold eOpn at ho ⊢; rw [f0 72 d (Nat.le_refl d) (by omega)]; exact ho) f71 f68 f69
  refine ⟨ρ3, ?_, ?_, fun t i hi hn => ?_⟩
  · rw [rRn_ap, r1]
    show (rS1 a b c e s (d, ρ1)).bind _ = _
    rw [e1]
    exact r2
  · unfold rV1
    rw [rSm_n (t := 67) (by omega), rSm_n (t := 66) (by omega), k2 67 d (Nat.le_refl d) (by omega), k2 66 d (Nat.le_refl d) (by omega), f66, f67, v2]
    rcases hs with ⟨rfl, rfl⟩ | ⟨rfl, rfl⟩ <;> rfl
  · rw [k2 t i hi (by omega), f0 t i hi hn]
theorem eEx.of (h : eTs d w V) : eEx d w V := by
  intro a b c e hg ρ ho h71 h68 h69 h67 h65
  obtain ⟨ρ1, r1, v1, k1⟩ := h a b c e hg ρ ho h71 h68 h69 h67
  refine ⟨ρ1, r1, ?_, fun t i hi hn => k1 t i hi (by omega)⟩
  rw [rTs_64, v1]
  unfold rV2
  rw [rSm_n (t := 65) (by omega), k1 65 d (Nat.le_refl d) (by omega), h65, if_neg (by decide), if_neg (by decide)]
theorem eEx.st {c1 : Int} (hs : (c1 = -6 ∧ s = 26) ∨ (c1 = -7 ∧ s = 27)) (h : eEx d w V) (h' : eTs d w' V') : eEx d (w ++ s :: w') (fun a b c e => cJn c1 (V a b c e) (V' a b c e)) := by
  intro a b c e hg ρ ho h71 h68 h69 h67 h65
  obtain ⟨ρ1, r1, v1, k1⟩ := h a b c e hg ρ ho h71 h68 h69 h67 h65
  have e1 : rS1 a b c e s (d, ρ1) = some (d, rU (rTs ρ1 d) 65 d s) := by
    rcases hs with ⟨_, rfl⟩ | ⟨_, rfl⟩ <;> rfl
  generalize hρ : rU (rTs ρ1 d) 65 d s = ρ2 at e1
  have f64 : ρ2 64 d = V a b c e := by rw [← hρ, rU_n (by omega), v1]
  have f65 : ρ2 65 d = s := by rw [← hρ, rU_s]
  have f67 : ρ2 67 d = 0 := by rw [← hρ, rU_n (by omega), rTs_67]
  have f68 : ρ2 68 d = 0 := by rw [← hρ, rU_n (by omega), rTs_68]
  have f69 : ρ2 69 d = 20 := by rw [← hρ, rU_n (by omega), rTs_69]
  have f71 : ρ2 71 d = 0 := by rw [← hρ, rU_n (by omega), rTs_71]
  have f0 : ∀ t i, i ≤ d → (i = d → t < 64 ∨ 71 < t) → ρ2 t i = ρ t i := fun t i hi hn => by rw [← hρ, rU_n (by omega), rTs_n (by omega), k1 t i hi (by omega)]
  obtain ⟨ρ3, r2, v2, k2⟩ := h' a b c e hg ρ2 (by unfold eOpn at ho ⊢; rw [f0 72 d (Nat.le_refl d) (by omega)]; exact ho) f71 f68 f69 f67
  refine ⟨ρ3, ?_, ?_, fun t i hi hn => ?_⟩
  · rw [rRn_ap, r1]
    show (rS1 a b c e s (d, ρ1)).bind _ = _
    rw [e1]
    exact r2
  · rw [rTs_64, v2]
    unfold rV2
    rw [rSm_n (t := 65) (by omega), rSm_n (t := 64) (by omega), k2 65 d (Nat.le_refl d) (by omega), k2 64 d (Nat.le_refl d) (by omega), f64, f65]
    rcases hs with ⟨rfl, rfl⟩ | ⟨rfl, rfl⟩ <;> rfl
  · rw [k2 t i hi (by omega), f0 t i hi hn]
theorem ePt.nb (hv : 0 ≤ v ∧ v ≤ 9999) : ePt d [100 + v] (fun _ _ _ _ => v) := by
  intro a b c e hg ρ
  refine ⟨ρ, fun _ _ _ => rfl, ?_⟩
  show (rS1 a b c e (100 + v) (d, ρ)).bind _ = _
  unfold rS1
  rw [if_neg (by omega), if_neg (by omega), if_neg (by omega), if_neg (by omega), if_neg (by omega), if_neg (by omega), if_pos (by omega), zs (by omega), show 100 + v - 100 = v by omega]
  rfl
theorem ePt.fc (hv : -4 ≤ v ∧ v ≤ -1) : ePt d [-v] (fun a b c e => cFc v a b c e) := by
  intro a b c e hg ρ
  refine ⟨ρ, fun _ _ _ => rfl, ?_⟩
  rcases (show v = -4 ∨ v = -3 ∨ v = -2 ∨ v = -1 by omega) with rfl | rfl | rfl | rfl <;> rfl
theorem ePt.nt (hd : d < 6) (h : ePt (d + 1) w V) : ePt d (30 :: w) (fun a b c e => rNt (V a b c e)) := by
  intro a b c e hg ρ
  obtain ⟨ρ1, k1, r1⟩ := h a b c e hg (rOp (rU ρ 72 (d + 1) 1) (d + 1))
  have e72 : ρ1 72 (d + 1) = 1 := by rw [k1 _ _ (Nat.le_refl _), rOp_n (by omega), rU_s]
  refine ⟨ρ1, fun t i hi => ?_, ?_⟩
  · rw [k1 t i (by omega), rOp_n (by omega), rU_n (by omega)]
  · have e1 : rS1 a b c e 30 (d, ρ) = some (d + 1, rOp (rU ρ 72 (d + 1) 1) (d + 1)) := by
      unfold rS1
      rw [if_pos (.inr rfl), if_pos hd, if_pos rfl]
    show (rS1 a b c e 30 (d, ρ)).bind _ = _
    rw [e1]
    refine r1.trans ?_
    unfold rVl
    rw [rPp, if_pos e72]
theorem ePt.br (hd : d < 6) (h : eEx (d + 1) w V) : ePt d (28 :: (w ++ [29])) V := by
  intro a b c e hg ρ
  have v := rOp_v (ρ := rU ρ 72 (d + 1) 0) (d := d + 1)
  obtain ⟨ρ1, r1, v1, k1⟩ := h a b c e hg (rOp (rU ρ 72 (d + 1) 0) (d + 1)) (.inr (by rw [rOp_n (by omega), rU_s]; decide)) v.2.2.2.2 v.2.2.1 v.2.2.2.1 v.2.1 v.1
  refine ⟨rTs ρ1 (d + 1), fun t i hi => ?_, ?_⟩
  · rw [rTs_n (by omega), k1 t i (by omega) (by omega), rOp_n (by omega), rU_n (by omega)]
  · have e1 : rS1 a b c e 28 (d, ρ) = some (d + 1, rOp (rU ρ 72 (d + 1) 0) (d + 1)) := by
      unfold rS1
      rw [if_pos (.inl rfl), if_pos hd, if_neg (by decide)]
    show (rS1 a b c e 28 (d, ρ)).bind _ = _
    rw [e1]
    show rRn a b c e (w ++ [29]) _ = _
    rw [rRn_ap, r1, ← v1]
    rfl
/-- what a reader of parts reads has a meaning, the same for both -/
def eSem (q : Nat) (R : List Int → EV → Prop) (pa : Nat → EO) : Prop := ∀ b z, pa b = .inr z → ∃ V, eC4 q z.2.1 V ∧ eR V ∧ R z.2.2 V
theorem eLoop_s {sg : Nat → Option (Int × Int)} {pa : Nat → EO} {R R' : List Int → EV → Prop} (hq : q' + 1 ≤ q) (hs : ∀ b s, sg b = some s → s.1 < -5 ∧ ∀ w V w' V', R w V → R' w' V' → eR V' → R (w ++ s.2 :: w') (fun a b c e => cJn s.1 (V a b c e) (V' a b c e))) (hp : eSem q' R' pa) : ∀ (f b : Nat) (u w : List Int) (V : EV) (z : Nat × List Int × List Int), eC4 q u V → eR V → R w V → eLoop sg pa x n f b u w = .inr z → ∃ V, eC4 q z.2.1 V ∧ eR V ∧ R z.2.2 V := by
  intro f
  induction f with
  | zero => intro b u w V z _ _ _ h; cases h
  | succ f ih =>
    intro b u w V z h1 h2 h3 h
    rw [eLoop] at h
    cases hg : sg b with
    | none => rw [hg] at h; cases h; exact ⟨V, h1, h2, h3⟩
    | some s =>
      rw [hg] at h
      cases ha : pa (nb x n b) with
      | inl e => simp only [ha] at h; cases h
      | inr y =>
        simp only [ha] at h
        obtain ⟨V', g1, g2, g3⟩ := hp _ y ha
        obtain ⟨a1, a2⟩ := hs b s hg
        exact ih y.1 _ _ _ z (h1.jn g1 hq a1) (fun a b c e _ => cJn_r) (a2 _ _ _ _ h3 g3 g2) h
theorem eMany_s {sg : Nat → Option (Int × Int)} {pa : Nat → EO} {R R' : List Int → EV → Prop} (hq : q' + 1 ≤ q) (h0 : ∀ w V, eR V → R' w V → R w V) (hs : ∀ b s, sg b = some s → s.1 < -5 ∧ ∀ w V w' V', R w V → R' w' V' → eR V' → R (w ++ s.2 :: w') (fun a b c e => cJn s.1 (V a b c e) (V' a b c e))) (hp : eSem q' R' pa) : eSem q R (eMany sg pa x n) := by
  intro b z h
  unfold eMany at h
  cases ha : pa b with
  | inl e => rw [ha] at h; cases h
  | inr y =>
    rw [ha] at h
    obtain ⟨V', g1, g2, g3⟩ := hp _ y ha
    exact eLoop_s hq hs hp 1001 y.1 y.2.1 y.2.2 V' z (g1.mo (by omega)) g2 (h0 _ _ g2 g3) h
theorem eProd_s {pa : Nat → EO} (hp : eSem q (ePt d) pa) : eSem (q + 1) (ePr d) (eMany (sgP x n) pa x n) :=
  eMany_s (by omega) (fun w V _ h => .of h) (fun b s h => by
    unfold sgP at h
    split at h
    · cases h; exact ⟨by decide, fun w V w' V' h1 h2 _ => h1.st h2⟩
    · cases h) hp
theorem eSum_s {pa : Nat → EO} (hp : eSem q (ePr d) pa) : eSem (q + 1) (eSu d) (eMany (sgS x n) pa x n) :=
  eMany_s (by omega) (fun w V r h => .of h r) (fun b s h => by
    unfold sgS at h
    split at h
    · cases h; exact ⟨by decide, fun w V w' V' h1 h2 _ => h1.st (.inl ⟨rfl, rfl⟩) h2⟩
    · split at h
      · cases h; exact ⟨by decide, fun w V w' V' h1 h2 _ => h1.st (.inr ⟨rfl, rfl⟩) h2⟩
      · cases h) hp
theorem eTest_s {su : Nat → EO} (hp : eSem q (eSu d) su) : eSem (q + 1) (eTs d) (eTest su x n) := by
  intro b z h
  unfold eTest at h
  cases ha : su b with
  | inl e => rw [ha] at h; cases h
  | inr y =>
    simp only [ha] at h
    obtain ⟨V, g1, g2, g3⟩ := hp _ y ha
    cases hg : sgT x n y.1 with
    | none => simp only [hg] at h; cases h; exact ⟨V, g1.mo (by omega), g2, .of g3⟩
    | some s =>
      simp only [hg] at h
      cases hc : su (nb x n y.1) with
      | inl e => simp only [hc] at h; cases h
      | inr v =>
        simp only [hc] at h
        obtain ⟨V', k1, k2, k3⟩ := hp _ v hc
        cases h
        have hs : (s.1 = -8 ∧ s.2 = 24) ∨ (s.1 = -9 ∧ s.2 = 25) := by
          unfold sgT at hg
          split at hg
          · cases hg; exact .inl ⟨rfl, rfl⟩
          · split at hg
            · cases hg; exact .inr ⟨rfl, rfl⟩
            · cases hg
        exact ⟨_, (g1.mo (by omega)).jn k1 (by omega) (by omega), fun a b c e _ => cJn_r, eTs.st hs g3 k3⟩
theorem eE_s {pa : Nat → EO} (hp : eSem q (ePt d) pa) : eSem (q + 4) (eEx d) (eE pa x n) :=
  eMany_s (by omega) (fun w V _ h => .of h) (fun b s h => by
    unfold sgE at h
    split at h
    · cases h; exact ⟨by decide, fun w V w' V' h1 h2 _ => h1.st (.inl ⟨rfl, rfl⟩) h2⟩
    · split at h
      · cases h; exact ⟨by decide, fun w V w' V' h1 h2 _ => h1.st (.inr ⟨rfl, rfl⟩) h2⟩
      · cases h) (eTest_s (eSum_s (eProd_s hp)))
theorem wV_b {b : Nat} (h : tKi x n b = 2) : 0 ≤ wV x n b ∧ wV x n b ≤ 9999 := by
  unfold tKi at h
  unfold wV
  by_cases c0 : b < n
  · rw [if_pos c0] at h
    by_cases c1 : pLe (x b) = true
    · rw [if_pos c1] at h; split at h <;> omega
    · rw [if_neg c1] at h
      by_cases c2 : pDi (x b) = true
      · rw [if_pos c2] at h
        by_cases c3 : 4 < tE pDi x n b - b
        · rw [if_pos c3] at h; omega
        · have hle := tE_le (P := pDi) (x := x) (p := b) (n := n) (by omega)
          have hd : ∀ i, i < tE pDi x n b - b → 48 ≤ x (b + i) ∧ x (b + i) ≤ 57 := fun i hi => by
            have := tE_in (P := pDi) (x := x) (n := n) (n - b) b rfl (by omega) (b + i) (by omega) (by omega)
            simp [pDi] at this
            omega
          have hb := tV_le (x := x) (b := b) (tE pDi x n b - b) (by omega) hd
          generalize tE pDi x n b - b = j at hb c3
          have h4 : j = 0 ∨ j = 1 ∨ j = 2 ∨ j = 3 ∨ j = 4 := by omega
          rcases h4 with rfl | rfl | rfl | rfl | rfl <;> omega
      · rw [if_neg c2] at h
        by_cases c3 : pSi (x b) = true
        · rw [if_pos c3] at h; simp [pSi] at c3; omega
        · rw [if_neg c3] at h; omega
  · rw [if_neg c0] at h; omega
theorem ePart_s : ∀ (k d : Nat), eSem (4 * (5 - d)) (ePt d) (ePart x n k d) := by
  intro k
  induction k with
  | zero => intro d b z h; cases h
  | succ k ih =>
    intro d b z h
    rw [ePart] at h
    by_cases c0 : tKi x n b = 2 ∨ tKi x n b = 40 ∨ tWd x n b = some 23 ∨ eFact x n b ≠ 0
    · rw [if_pos c0] at h
      by_cases c1 : d < 5
      · rw [if_pos c1] at h
        by_cases c2 : tKi x n b = 40
        · rw [if_pos c2] at h
          cases ha : eE (ePart x n k (d + 1)) x n (nb x n b) with
          | inl e => simp only [ha] at h; cases h
          | inr y =>
            simp only [ha] at h
            obtain ⟨V, g1, g2, g3⟩ := eE_s (x := x) (n := n) (ih (d + 1)) _ y ha
            by_cases c3 : tKi x n y.1 = 41
            · rw [if_pos c3] at h
              cases h
              exact ⟨V, g1.mo (by omega), g2, .br (by omega) g3⟩
            · rw [if_neg c3] at h; cases h
        · rw [if_neg c2] at h
          by_cases c3 : tWd x n b = some 23
          · rw [if_pos c3] at h
            cases ha : ePart x n k (d + 1) (nb x n b) with
            | inl e => simp only [ha] at h; cases h
            | inr y =>
              simp only [ha] at h
              obtain ⟨V, g1, g2, g3⟩ := ih (d + 1) _ y ha
              cases h
              exact ⟨_, (g1.mo (by omega)).nt, fun a b c e _ => rNt_r, .nt (by omega) g3⟩
          · rw [if_neg c3] at h
            by_cases c4 : tKi x n b = 2
            · rw [if_pos c4] at h
              cases h
              have hv := wV_b c4
              exact ⟨_, (eC4.nb hv.1).mo (by omega), fun _ _ _ _ _ => by show zr32 (wV x n b); unfold zr32; omega, .nb hv⟩
            · rw [if_neg c4] at h
              cases h
              have hf : eFact x n b ≠ 0 := by
                rcases c0 with c | c | c | c
                · exact absurd c c4
                · exact absurd c c2
                · exact absurd c c3
                · exact c
              have hv : -4 ≤ eFact x n b ∧ eFact x n b ≤ -1 := by
                unfold eFact at hf ⊢
                split
                · omega
                · split
                  · omega
                  · split
                    · omega
                    · split
                      · omega
                      · simp_all
              refine ⟨_, (eC4.fc hv).mo (by omega), fun a b c e hg => ?_, .fc hv⟩
              unfold cFc
              obtain ⟨q1, q2, q3, q4⟩ := hg
              repeat' split
              all_goals assumption
      · rw [if_neg c1] at h; cases h
    · rw [if_neg c0] at h; cases h
theorem eE_law {b : Nat} {z : Nat × List Int × List Int} (h : eE (ePart x n 7 0) x n b = .inr z) : ∃ V : EV, (∀ a b c e, zr32 a → zr32 b → zr32 c → zr32 e → cEs a b c e z.2.1 [] = some [V a b c e]) ∧ rLw z.2.2 V := by
  obtain ⟨V, g1, g2, g3⟩ := eE_s (x := x) (n := n) (ePart_s (x := x) (n := n) 7 0) b z h
  refine ⟨V, fun a b c e _ _ _ _ => ?_, fun a b c e r1 r2 r3 r4 ρ => ?_⟩
  · have := g1 a b c e [] [] (by simp)
    rw [List.append_nil] at this
    rw [this]
    rfl
  · have v := rOp_v (ρ := ρ) (d := 0)
    obtain ⟨ρ', h1, h2, _⟩ := g3 a b c e ⟨r1, r2, r3, r4⟩ (rOp ρ 0) (.inl rfl) v.2.2.2.2 v.2.2.1 v.2.2.2.1 v.2.1 v.1
    exact ⟨ρ', h1, h2⟩
end MEAN
