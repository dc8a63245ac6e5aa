/-! Winds by either order. -/
def rFt (A : AK) (v : Nat) : Bool := mFit A (v % 4) (v / 4)
def rW (A : AK) (w t : Nat) : Int := mPow (aP A) (aS A) ((w % 4 : Nat) : Int) ((w / 4 : Nat) : Int) t
theorem zsum_ap {f : Nat → Int} {a : Nat} : ∀ {b : Nat}, zsum f (a + b) = zsum f a + zsum (fun j => f (a + j)) b
  | 0 => by simp [zsum]
  | b + 1 => by
    rw [← Nat.add_assoc, zsum, zsum_ap, zsum]; omega
theorem zsum_dm {g : Nat → Nat → Int} {b : Nat} (hb : 0 < b) : ∀ {a : Nat}, zsum (fun k => g (k / b) (k % b)) (a * b) = zsum (fun i => zsum (g i) b) a
  | 0 => by simp [zsum]
  | a + 1 => by
    rw [Nat.add_mul, Nat.one_mul, zsum_ap, zsum_dm hb, zsum]
    congr 1
    refine zsum_cg fun j hj => ?_
    have e1 : (a * b + j) / b = a := by rw [Nat.mul_comm, Nat.mul_add_div hb, Nat.div_eq_of_lt hj]; omega
    have e2 : (a * b + j) % b = j := by rw [Nat.mul_comm, Nat.mul_add_mod, Nat.mod_eq_of_lt hj]
    rw [e1, e2]
theorem zsum_pl {f g : Nat → Int} : ∀ {n : Nat}, zsum (fun k => f k + g k) n = zsum f n + zsum g n
  | 0 => rfl
  | n + 1 => by rw [zsum, zsum, zsum, zsum_pl]; omega
theorem zsum_cm {g : Nat → Nat → Int} {a : Nat} : ∀ {b : Nat}, zsum (fun i => zsum (g i) b) a = zsum (fun j => zsum (fun i => g i j) a) b
  | 0 => zsum_0 (f := fun i => zsum (g i) 0) (fun _ _ => rfl)
  | b + 1 => by
    rw [zsum, ← zsum_cm (b := b), ← zsum_pl]
    rfl
/-- class's order and reference's -/
theorem zsum_or {g : Nat → Nat → Int} : zsum (fun k => g (k / 31) (k % 31)) 124 = zsum (fun k => g (k % 4) (k / 4)) 124 := by
  have h1 := zsum_dm (g := g) (b := 31) (by decide) (a := 4)
  have h2 := zsum_dm (g := fun i j => g j i) (b := 4) (by decide) (a := 31)
  rw [show 4 * 31 = 124 from rfl] at h1
  rw [show 31 * 4 = 124 from rfl] at h2
  rw [h1, h2, zsum_cm]
theorem gC_or {A : AK} : gC (gF A) 124 = gC (rFt A) 124 := zsum_or (g := fun f b => if mFit A f b then 1 else 0)
theorem gT_or {A : AK} {t : Nat} : gT (gF A) (aW A) t 124 = gT (rFt A) (rW A) t 124 := by
  funext g
  exact zsum_or (g := fun f b => if mFit A f b = true ∧ mPow (aP A) (aS A) (f : Int) (b : Int) t = g then 1 else 0)
/-- the reference's least and greatest -/
def rLe (F : Nat → Bool) : Nat → Int
  | 0 => -1
  | v + 1 => if F v then (if rLe F v < 0 then ((v / 4 : Nat) : Int) else rLe F v) else rLe F v
def rGr (F : Nat → Bool) : Nat → Int
  | 0 => -1
  | v + 1 => if F v then ((v / 4 : Nat) : Int) else rGr F v
/-- the least, the greatest that fits -/
def isLe (F : Nat → Bool) (B : Nat → Nat) (v : Nat) (x : Int) : Prop := (x = -1 ∧ ∀ w, w < v → F w = false) ∨ ∃ w, w < v ∧ F w = true ∧ x = B w ∧ ∀ u, u < v → F u = true → B w ≤ B u
def isGr (F : Nat → Bool) (B : Nat → Nat) (v : Nat) (x : Int) : Prop := (x = -1 ∧ ∀ w, w < v → F w = false) ∨ ∃ w, w < v ∧ F w = true ∧ x = B w ∧ ∀ u, u < v → F u = true → B u ≤ B w
theorem gL_is {F : Nat → Bool} {B : Nat → Nat} : ∀ {v : Nat}, isLe F B v (gL F B v)
  | 0 => .inl ⟨rfl, fun w h => by omega⟩
  | v + 1 => by
    have ih := gL_is (F := F) (B := B) (v := v)
    unfold gL
    by_cases hF : F v = true
    · rw [if_pos hF]
      rcases ih with ⟨h1, h2⟩ | ⟨w, h1, h2, h3, h4⟩
      · rw [if_pos (.inl h1)]
        refine .inr ⟨v, by omega, hF, rfl, fun u hu hFu => ?_⟩
        by_cases e : u = v
        · subst e; exact Nat.le_refl _
        · rw [h2 u (by omega)] at hFu; cases hFu
      · by_cases b : (B v : Int) < gL F B v
        · rw [if_pos (.inr b)]
          refine .inr ⟨v, by omega, hF, rfl, fun u hu hFu => ?_⟩
          by_cases e : u = v
          · subst e; exact Nat.le_refl _
          · have := h4 u (by omega) hFu; omega
        · rw [if_neg (by omega)]
          refine .inr ⟨w, by omega, h2, h3, fun u hu hFu => ?_⟩
          by_cases e : u = v
          · subst e; omega
          · exact h4 u (by omega) hFu
    · rw [if_neg hF]
      rcases ih with ⟨h1, h2⟩ | ⟨w, h1, h2, h3, h4⟩
      · refine .inl ⟨h1, fun w hw => ?_⟩
        by_cases e : w = v
        · subst e; simpa using hF
        · exact h2 w (by omega)
      · refine .inr ⟨w, by omega, h2, h3, fun u hu hFu => ?_⟩
        by_cases e : u = v
        · subst e; exact absurd hFu hF
        · exact h4 u (by omega) hFu
theorem gG_is {F : Nat → Bool} {B : Nat → Nat} : ∀ {v : Nat}, isGr F B v (gG F B v)
  | 0 => .inl ⟨rfl, fun w h => by omega⟩
  | v + 1 => by
    have ih := gG_is (F := F) (B := B) (v := v)
    unfold gG
    by_cases hF : F v = true
    · rw [if_pos hF]
      unfold zmax
      rcases ih with ⟨h1, h2⟩ | ⟨w, h1, h2, h3, h4⟩
      · rw [if_pos (by omega)]
        refine .inr ⟨v, by omega, hF, rfl, fun u hu hFu => ?_⟩
        by_cases e : u = v
        · subst e; exact Nat.le_refl _
        · rw [h2 u (by omega)] at hFu; cases hFu
      · by_cases b : gG F B v < (B v : Int)
        · rw [if_pos b]
          refine .inr ⟨v, by omega, hF, rfl, fun u hu hFu => ?_⟩
          by_cases e : u = v
          · subst e; exact Nat.le_refl _
          · have := h4 u (by omega) hFu; omega
        · rw [if_neg b]
          refine .inr ⟨w, by omega, h2, h3, fun u hu hFu => ?_⟩
          by_cases e : u = v
          · subst e; omega
          · exact h4 u (by omega) hFu
    · rw [if_neg hF]
      rcases ih with ⟨h1, h2⟩ | ⟨w, h1, h2, h3, h4⟩
      · refine .inl ⟨h1, fun w hw => ?_⟩
        by_cases e : w = v
        · subst e; simpa using hF
        · exact h2 w (by omega)
      · refine .inr ⟨w, by omega, h2, h3, fun u hu hFu => ?_⟩
        by_cases e : u = v
        · subst e; exact absurd hFu hF
        · exact h4 u (by omega) hFu
theorem rLe_is {F : Nat → Bool} : ∀ {v : Nat}, isLe F (fun w => w / 4) v (rLe F v)
  | 0 => .inl ⟨rfl, fun w h => by omega⟩
  | v + 1 => by
    have ih := rLe_is (F := F) (v := v)
    unfold rLe
    by_cases hF : F v = true
    · rw [if_pos hF]
      rcases ih with ⟨h1, h2⟩ | ⟨w, h1, h2, h3, h4⟩
      · rw [if_pos (by omega)]
        refine .inr ⟨v, by omega, hF, rfl, fun u hu hFu => ?_⟩
        by_cases e : u = v
        · subst e; exact Nat.le_refl _
        · rw [h2 u (by omega)] at hFu; cases hFu
      · rw [if_neg (by omega)]
        refine .inr ⟨w, by omega, h2, h3, fun u hu hFu => ?_⟩
        by_cases e : u = v
        · subst e; show w / 4 ≤ u / 4; omega
        · exact h4 u (by omega) hFu
    · rw [if_neg hF]
      rcases ih with ⟨h1, h2⟩ | ⟨w, h1, h2, h3, h4⟩
      · refine .inl ⟨h1, fun w hw => ?_⟩
        by_cases e : w = v
        · subst e; simpa using hF
        · exact h2 w (by omega)
      · refine .inr ⟨w, by omega, h2, h3, fun u hu hFu => ?_⟩
        by_cases e : u = v
        · subst e; exact absurd hFu hF
        · exact h4 u (by omega) hFu
theorem rGr_is {F : Nat → Bool} : ∀ {v : Nat}, isGr F (fun w => w / 4) v (rGr F v)
  | 0 => .inl ⟨rfl, fun w h => by omega⟩
  | v + 1 => by
    have ih := rGr_is (F := F) (v := v)
    unfold rGr
    by_cases hF : F v = true
    · rw [if_pos hF]
      exact .inr ⟨v, by omega, hF, rfl, fun u hu hFu => by show u / 4 ≤ v / 4; omega⟩
    · rw [if_neg hF]
      rcases ih with ⟨h1, h2⟩ | ⟨w, h1, h2, h3, h4⟩
      · refine .inl ⟨h1, fun w hw => ?_⟩
        by_cases e : w = v
        · subst e; simpa using hF
        · exact h2 w (by omega)
      · refine .inr ⟨w, by omega, h2, h3, fun u hu hFu => ?_⟩
        by_cases e : u = v
        · subst e; exact absurd hFu hF
        · exact h4 u (by omega) hFu
theorem rF_g {A : AK} {w : Nat} (hw : w < 124) : rFt A (4 * (w % 31) + w / 31) = gF A w := by
  unfold rFt gF
  rw [show (4 * (w % 31) + w / 31) % 4 = w / 31 by omega, show (4 * (w % 31) + w / 31) / 4 = w % 31 by omega]
theorem gF_r {A : AK} {w : Nat} (hw : w < 124) : gF A (31 * (w % 4) + w / 4) = rFt A w := by
  unfold rFt gF
  rw [show (31 * (w % 4) + w / 4) / 31 = w % 4 by omega, show (31 * (w % 4) + w / 4) % 31 = w / 4 by omega]
theorem gL_or {A : AK} : gL (gF A) (fun w => w % 31) 124 = rLe (rFt A) 124 := by
  have h1 := gL_is (F := gF A) (B := fun w => w % 31) (v := 124)
  have h2 := rLe_is (F := rFt A) (v := 124)
  generalize gL (gF A) (fun w => w % 31) 124 = x at *
  generalize rLe (rFt A) 124 = y at *
  rcases h1 with ⟨a1, a2⟩ | ⟨w, a1, a2, a3, a4⟩
  · rcases h2 with ⟨b1, _⟩ | ⟨u, b1, b2, _⟩
    · omega
    · have := a2 (31 * (u % 4) + u / 4) (by omega)
      rw [gF_r b1, b2] at this; cases this
  · have c1 : rFt A (4 * (w % 31) + w / 31) = true := by rw [rF_g a1, a2]
    rcases h2 with ⟨_, b2⟩ | ⟨u, b1, b2, b3, b4⟩
    · rw [b2 _ (by omega)] at c1; cases c1
    · have d1 := b4 _ (show 4 * (w % 31) + w / 31 < 124 by omega) c1
      have d2 := a4 (31 * (u % 4) + u / 4) (by omega) (by rw [gF_r b1, b2])
      dsimp only at d1 d2 a3 b3
      rw [a3, b3]
      omega
theorem gG_or {A : AK} : gG (gF A) (fun w => w % 31) 124 = rGr (rFt A) 124 := by
  have h1 := gG_is (F := gF A) (B := fun w => w % 31) (v := 124)
  have h2 := rGr_is (F := rFt A) (v := 124)
  generalize gG (gF A) (fun w => w % 31) 124 = x at *
  generalize rGr (rFt A) 124 = y at *
  rcases h1 with ⟨a1, a2⟩ | ⟨w, a1, a2, a3, a4⟩
  · rcases h2 with ⟨b1, _⟩ | ⟨u, b1, b2, _⟩
    · omega
    · have := a2 (31 * (u % 4) + u / 4) (by omega)
      rw [gF_r b1, b2] at this; cases this
  · have c1 : rFt A (4 * (w % 31) + w / 31) = true := by rw [rF_g a1, a2]
    rcases h2 with ⟨_, b2⟩ | ⟨u, b1, b2, b3, b4⟩
    · rw [b2 _ (by omega)] at c1; cases c1
    · have d1 := b4 _ (show 4 * (w % 31) + w / 31 < 124 by omega) c1
      have d2 := a4 (31 * (u % 4) + u / 4) (by omega) (by rw [gF_r b1, b2])
      dsimp only at d1 d2 a3 b3
      rw [a3, b3]
      omega
theorem gS_t {F : Nat → Bool} {D : Nat → Nat} {t : Nat} : ∀ {v : Nat}, zbt (gS F D v) t = true ↔ ∃ w, w < v ∧ F w = true ∧ D w = t
  | 0 => by
    constructor
    · intro h; rw [show zbt (gS F D 0) t = false from Nat.zero_testBit t] at h; cases h
    · rintro ⟨w, h, _⟩; omega
  | v + 1 => by
    have ih := gS_t (F := F) (D := D) (t := t) (v := v)
    unfold gS
    by_cases hF : F v = true
    · rw [if_pos hF, zbt_or, zbt_p2, Bool.or_eq_true, ih, decide_eq_true_eq]
      constructor
      · rintro (⟨w, h1, h2⟩ | h)
        · exact ⟨w, by omega, h2⟩
        · exact ⟨v, by omega, hF, h⟩
      · rintro ⟨w, h1, h2, h3⟩
        by_cases e : w = v
        · subst e; exact .inr h3
        · exact .inl ⟨w, by omega, h2, h3⟩
    · rw [if_neg hF, ih]
      constructor
      · rintro ⟨w, h1, h2⟩; exact ⟨w, by omega, h2⟩
      · rintro ⟨w, h1, h2, h3⟩
        by_cases e : w = v
        · subst e; exact absurd h2 hF
        · exact ⟨w, by omega, h2, h3⟩
theorem gS_or {A : AK} : gS (gF A) (fun w => w / 31) 124 = gS (rFt A) (fun w => w % 4) 124 := by
  have l1 : gS (gF A) (fun w => w / 31) 124 < 16 := gS_lt (fun w hw => by show w / 31 < 4; omega)
  have l2 : gS (rFt A) (fun w => w % 4) 124 < 16 := gS_lt (fun w hw => by show w % 4 < 4; omega)
  refine ext64 (by omega) (by omega) fun t ht => ?_
  rw [Bool.eq_iff_iff, gS_t, gS_t]
  constructor
  · rintro ⟨w, h1, h2, h3⟩
    exact ⟨4 * (w % 31) + w / 31, by omega, by rw [rF_g h1, h2], by show _ = t; omega⟩
  · rintro ⟨w, h1, h2, h3⟩
    exact ⟨31 * (w % 4) + w / 4, by omega, by rw [gF_r h1, h2], by show _ = t; omega⟩
section RQ6
variable {N c : Nat} {A : AK} {M : ZM}
/-- as far as v the reference's winds lie there -/
def rI (A : AK) (v : Nat) (M : ZM) : Prop := (∀ w, w < v → mI M 90 0 w = if rFt A w then 1 else 0) ∧ (∀ w t, w < v → t < qN (aP A) → mI M 89 0 (6 * w + t) = rW A w t)
theorem rI_g {v : Nat} {M M' : ZM} (h : rI A v M) (e : ∀ t k, t = 89 ∨ t = 90 → mI M' t 0 k = mI M t 0 k) : rI A v M' := ⟨fun w hw => (e _ _ (by omega)).trans (h.1 w hw), fun w t hw ht => (e _ _ (by omega)).trans (h.2 w t hw ht)⟩
def fV (t _i k : Nat) : Bool := (t == 11 && (k == 50 || k == 51)) || (64 ≤ t && t ≤ 73) || (89 ≤ t && t ≤ 91)
theorem fV_Q : ∀ t i k, fV t i k = false → fQ t i k = false ∨ t = 11 ∧ False ∨ True := fun _ _ _ _ => .inr (.inr trivial)
theorem fV_q : ∀ t i k, fQ t i k = false → fV t i k = false := by
  intro t i k h; simp [fQ] at h; simp [fV]; omega
theorem fV_p : ∀ t k, t = 51 ∨ (53 ≤ t ∧ t ≤ 61) → fV t 0 k = false := by
  intro t k h; simp [fV]; omega
theorem fw_V : ∀ t i k, fV t i k = false → fw t i k = false := by
  intro t i k h; simp [fV] at h; simp [fw]; omega
/-- what the seen stands on -/
def rG (A : AK) (M : ZM) : Prop := RP (aP A) M ∧ R0 (qN (aP A)) (aS A) M ∧ mI M 78 0 0 = ((aV A).length : Int) ∧ RV 0 (aV A) M
theorem rG_v {M M' : ZM} (h : rG A M) (f : zfr fV M M') : rG A M' := ⟨h.1.fr f fV_p, h.2.1.fr f (fun k _ _ => by simp [fV]), (f.2 _ _ _ (by simp [fV])).trans h.2.2.1, h.2.2.2.g (fun t k ht _ _ => f.2 _ _ _ (by simp [fV]; omega))⟩
theorem m_lw67 (hv : VA c A) (hN : 2000 ≤ N) {rec4 : Nat → Int → Int → ZM → Option (Int × ZM)} {v : Nat} (hvv : v < 124) {x : Int} (hx : 0 ≤ x ∧ x ≤ 124) : ∀ (l : List Int) (n i : Nat) (M : ZM) (b : Bool), (aV A).drop i = l → i ≤ (aV A).length → rG A M → (∀ t, t < qN (aP A) → mI M 89 0 (6 * v + t) = rW A v t) → mI M 90 0 v = (if b then 1 else 0) → l.length < n → ∃ M', Mo_laysWinds_67 N rec4 n 0 x v i M = rec4 0 (x + if (b && l.all (fun s => decide (rW A v (s / 100).toNat = s % 100))) then 1 else 0) ((v + 1 : Nat) : Int) M' ∧ zfr (fun t i k => t == 90 && i == 0 && k == v) M M' ∧ mI M' 90 0 v = if (b && l.all (fun s => decide (rW A v (s / 100).toNat = s % 100))) then 1 else 0 := by
  intro l
  induction l with
  | nil =>
    intro n i M b hd hi hG h89 h90 hn
    have hli : (aV A).length ≤ i := List.drop_eq_nil_iff.1 hd
    cases n with
    | zero => simp at hn
    | succ n =>
      unfold Mo_laysWinds_67
      rw [hG.2.2.1, if_neg (by omega), zI_t (by omega), Int.toNat_natCast, h90]
      simp only [zW_e]
      rw [zsucc (by omega), zs (x := x + 0) (by omega), zs (x := x + 1) (by omega)]
      cases b
      · exact ⟨M, rfl, zfr.rf M, h90⟩
      · exact ⟨M, rfl, zfr.rf M, h90⟩
  | cons s l ih =>
    intro n i M b hd hi hG h89 h90 hn
    have hil : i < (aV A).length := by
      rcases Nat.lt_or_ge i (aV A).length with h | h
      · exact h
      · rw [List.drop_eq_nil_iff.2 h] at hd; cases hd
    have hd2 := List.drop_eq_getElem_cons hil
    rw [hd] at hd2
    injection hd2 with hx2 hd3
    have hxm : s ∈ aV A := by rw [hx2]; exact List.getElem_mem _
    have hxv := hv.2.2.2.1.2 s hxm
    have hle := hv.2.2.2.1.1
    have h6 := hv.p.n
    have hri := hG.2.2.2 i hil
    rw [← hx2, Nat.zero_add] at hri
    cases n with
    | zero => simp at hn
    | succ n =>
      simp only [List.length_cons] at hn
      unfold Mo_laysWinds_67
      have i40 : (0 : Int) ≤ (i : Int) ∧ (i : Int) < 40 := by omega
      have e6 : z32 (z32 (6 * (v : Int)) + s / 100) = ((6 * v + (s / 100).toNat : Nat) : Int) := by rw [zs (x := 6 * (v : Int)) (by omega), zs (by omega)]; omega
      rw [hG.2.2.1, if_pos (by omega), zI_t (by omega), zI_t i40, zI_t i40, Int.toNat_natCast, Int.toNat_natCast, hri.1, hri.2, e6]
      clear e6
      simp only [zW_e, Int.toNat_natCast]
      have i744 : (0 : Int) ≤ ((6 * v + (s / 100).toNat : Nat) : Int) ∧ ((6 * v + (s / 100).toNat : Nat) : Int) < 744 := by omega
      have i124 : (0 : Int) ≤ (v : Int) ∧ (v : Int) < 124 := by omega
      rw [zI_t i744, h89 _ (by omega), zI_t i124, zI_t i124, zsucc (by omega)]
      have fin : ∀ b' : Bool, b' = (b && decide (rW A v (s / 100).toNat = s % 100)) → ∃ M', Mo_laysWinds_67 N rec4 n 0 x v ((i + 1 : Nat) : Int) (pI M 90 0 v (if b' then 1 else 0)) = rec4 0 (x + if (b && (s :: l).all (fun s => decide (rW A v (s / 100).toNat = s % 100))) then 1 else 0) ((v + 1 : Nat) : Int) M' ∧ zfr (fun t i k => t == 90 && i == 0 && k == v) M M' ∧ mI M' 90 0 v = if (b && (s :: l).all (fun s => decide (rW A v (s / 100).toNat = s % 100))) then 1 else 0 := by
        intro b' hb'
        have f1 : zfr (fun t i k => t == 90 && i == 0 && k == v) M (pI M 90 0 v (if b' then 1 else 0)) := (zfr.rf M).pI (by simp)
        have f1v : zfr fV M (pI M 90 0 v (if b' then 1 else 0)) := (zfr.rf M).pI (by simp [fV])
        obtain ⟨M', e2, f2, g2⟩ := ih n (i + 1) _ b' hd3.symm (by omega) (rG_v hG f1v) (fun t ht => by rw [mI_pI_ne (by omega), h89 t ht]) mI_pI_eq (by omega)
        have hal : (b' && l.all (fun s => decide (rW A v (s / 100).toNat = s % 100))) = (b && (s :: l).all (fun s => decide (rW A v (s / 100).toNat = s % 100))) := by
          rw [hb', List.all_cons, Bool.and_assoc]
        rw [hal] at e2 g2
        exact ⟨M', e2, f1.tr f2, g2⟩
      rw [h90]
      have z1 : z_b1 0 = 0 := rfl
      have z2 : z_b1 1 = 1 := rfl
      rw [z1, z2]
      cases b
      · have e1 : (if (false : Bool) = true then (1 : Int) else 0) = 0 := rfl
        rw [e1, if_pos (show (0 : Int) = 0 from rfl)]
        have := fin false (by simp)
        rw [e1] at this
        exact this
      · have e1 : (if (true : Bool) = true then (1 : Int) else 0) = 1 := rfl
        have e0 : (if (false : Bool) = true then (1 : Int) else 0) = 0 := rfl
        rw [e1, if_neg (show ¬ (1 : Int) = 0 by decide)]
        by_cases bp : rW A v (s / 100).toNat = s % 100
        · rw [if_pos bp]
          have := fin true (by simp [bp])
          rw [e1] at this
          exact this
        · rw [if_neg bp]
          have := fin false (by simp [bp])
          rw [e0] at this
          exact this
theorem m_lw33 (hv : VA c A) (hN : 2000 ≤ N) {rec4 : Nat → Int → Int → ZM → Option (Int × ZM)} {v : Nat} (hvv : v < 124) {x : Int} (hx : 0 ≤ x ∧ x ≤ 124) : ∀ (n k : Nat) (M : ZM), rG A M → mI M 11 0 50 = ((v / 4 : Nat) : Int) → mI M 11 0 51 = ((v % 4 : Nat) : Int) → (∀ t, t < k → mI M 89 0 (6 * v + t) = rW A v t) → mI M 90 0 v = 1 → rI A v M → k ≤ qN (aP A) → qN (aP A) - k < n → ∃ M', Mo_laysWinds_33 N rec4 n 0 x v k M = rec4 0 (x + if rFt A v then 1 else 0) ((v + 1 : Nat) : Int) M' ∧ zfr fV M M' ∧ rI A (v + 1) M' := by
  intro n
  induction n with
  | zero => intros; omega
  | succ n ih =>
    intro k M hG h50 h51 h89 h90 hI hk hn
    have h6 := hv.p.n
    unfold Mo_laysWinds_33
    rw [hG.1.n]
    by_cases b : k = qN (aP A)
    · subst b
      rw [if_neg (by omega)]
      obtain ⟨M1, e1, f1, g1⟩ := m_lw67 (N := N) (rec4 := rec4) hv hN hvv hx (aV A) N 0 M true rfl (by omega) hG h89 h90 (by have := hv.2.2.2.1.1; omega)
      have hF : (true && (aV A).all (fun s => decide (rW A v (s / 100).toNat = s % 100))) = rFt A v := by
        rw [Bool.true_and]; rfl
      rw [hF, show ((0 : Nat) : Int) = 0 from rfl] at e1
      rw [hF] at g1
      refine ⟨M1, e1, f1.mo (fun t i k h => by simp [fV] at h; simp; omega), fun w hw => ?_, fun w t hw ht => ?_⟩
      · by_cases e : w = v
        · subst e; exact g1
        · rw [f1.2 _ _ _ (by simp; omega), hI.1 w (by omega)]
      · rw [f1.2 _ _ _ (by simp)]
        by_cases e : w = v
        · subst e; exact h89 t ht
        · exact hI.2 w t (by omega) ht
    · rw [if_pos (by omega)]
      obtain ⟨M1, e1, f1⟩ := r_powerOf (N := N) hv.p hG.1 hG.2.1 hv.s hN h51 (by omega) h50 (by omega) (t := k) (by omega)
      have e6 : z32 (z32 (6 * (v : Int)) + (k : Int)) = ((6 * v + k : Nat) : Int) := by rw [zs (x := 6 * (v : Int)) (by omega), zs (by omega)]; omega
      rw [e1, zB_s, e6]
      clear e6
      simp only [zW_e, Int.toNat_natCast]
      rw [zI_t (by omega), zsucc (by omega)]
      have f2 : zfr fV M (pI M1 89 0 (6 * v + k) (mPow (aP A) (aS A) ((v % 4 : Nat) : Int) ((v / 4 : Nat) : Int) k)) := (f1.mo fw_V).pI (by simp [fV])
      have r1 : ∀ t i j, ¬ (64 ≤ t ∧ t ≤ 73) → mI M1 t i j = mI M t i j := fun t i j h => f1.2 t i j (fw_n h)
      obtain ⟨M', e2, f3, g3⟩ := ih (k + 1) _ (rG_v hG f2) (by rw [mI_pI_ne (by omega), r1 _ _ _ (by omega), h50]) (by rw [mI_pI_ne (by omega), r1 _ _ _ (by omega), h51]) (fun t ht => by
        rw [mI_pI]
        by_cases e : t = k
        · rw [if_pos (by omega), e]; rfl
        · rw [if_neg (by omega), r1 _ _ _ (by omega), h89 t (by omega)]) (by rw [mI_pI_ne (by omega), r1 _ _ _ (by omega), h90]) (by
        refine ⟨fun w hw => ?_, fun w t hw ht => ?_⟩
        · rw [mI_pI_ne (by omega), r1 _ _ _ (by omega), hI.1 w hw]
        · rw [mI_pI_ne (by omega), r1 _ _ _ (by omega), hI.2 w t hw ht]) (by omega) (by omega)
      exact ⟨M', e2, f2.tr f3, g3⟩
theorem m_lw4 (hv : VA c A) (hN : 2000 ≤ N) : ∀ (n v : Nat) (M : ZM), rG A M → rI A v M → v ≤ 124 → 124 - v < n → ∃ M', Mo_laysWinds_4 N n 0 (gC (rFt A) v) v M = some (gC (rFt A) 124, M') ∧ zfr fV M M' ∧ rI A 124 M' := by
  intro n
  induction n with
  | zero => intros; omega
  | succ n ih =>
    intro v M hG hI hv1 hn
    have h6 := hv.p.n
    have hb := gC_b (F := rFt A) (v := v)
    unfold Mo_laysWinds_4
    by_cases e : v = 124
    · subst e
      rw [if_neg (by omega)]
      exact ⟨M, rfl, zfr.rf M, hI⟩
    · have e4 : z32 ((v : Int).tdiv 4) = ((v / 4 : Nat) : Int) := by rw [Int.tdiv_eq_ediv_of_nonneg (by omega), zs (by omega)]; omega
      have e5 : (v : Int).tmod 4 = ((v % 4 : Nat) : Int) := by rw [Int.tmod_eq_emod_of_nonneg (by omega)]; omega
      rw [if_pos (by omega), e4, e5, show z_b1 1 = 1 from rfl]
      clear e4 e5
      simp only [zW_e, Int.toNat_natCast]
      rw [zI_t (by omega)]
      generalize hM1 : pI (pI (pI M 11 0 50 ((v / 4 : Nat) : Int)) 11 0 51 ((v % 4 : Nat) : Int)) 90 0 v 1 = M1
      have f1 : zfr fV M M1 := by
        rw [← hM1]
        exact (((zfr.rf M).pI (by simp [fV])).pI (by simp [fV])).pI (by simp [fV])
      obtain ⟨M2, e2, f2, g2⟩ := m_lw33 (N := N) (rec4 := Mo_laysWinds_4 N n) hv hN (v := v) (by omega) (x := gC (rFt A) v) (by omega) N 0 M1 (rG_v hG f1) (by rw [← hM1]; simp [mI_pI]) (by rw [← hM1]; simp [mI_pI]) (fun t ht => by omega) (by rw [← hM1, mI_pI_eq]) (by
        refine ⟨fun w hw => ?_, fun w t hw ht => ?_⟩
        · rw [← hM1, mI_pI_ne (by omega), mI_pI_ne (by omega), mI_pI_ne (by omega), hI.1 w hw]
        · rw [← hM1, mI_pI_ne (by omega), mI_pI_ne (by omega), mI_pI_ne (by omega), hI.2 w t hw ht]) (by omega) (by omega)
      rw [show ((0 : Nat) : Int) = 0 from rfl] at e2
      rw [e2]
      have hc1 : gC (rFt A) v + (if rFt A v = true then 1 else 0) = gC (rFt A) (v + 1) := rfl
      rw [hc1]
      obtain ⟨M', e3, f3, g3⟩ := ih (v + 1) M2 (rG_v (rG_v hG f1) f2) g2 (by omega) (by omega)
      exact ⟨M', e3, (f1.tr f2).tr f3, g3⟩
theorem m_lays (hv : VA c A) (hN : 2000 ≤ N) (hG : rG A M) : ∃ M', Mo_laysWinds N 0 M = some (gC (rFt A) 124, M') ∧ zfr fV M M' ∧ rI A 124 M' := m_lw4 hv hN N 0 M hG ⟨fun w hw => by omega, fun w t hw => by omega⟩ (by omega) (by omega)
theorem RA.rg (h : RA A M) : rG A M := ⟨h.p, h.s, h.2.2.2.2.1.1, h.2.2.2.2.1.2⟩
theorem m_win32 (hI : rI A 124 M) {w x : Int} (hw : 0 ≤ w ∧ w ≤ 3) : ∀ (n v : Nat), v ≤ 124 → 124 - v < n → Mo_winds_32 N n 0 w x (rLe (rFt A) v) (rGr (rFt A) v) (gS (rFt A) (fun w => w % 4) v : Nat) v M = some (if w = 0 then x else if w = 1 then rLe (rFt A) 124 else if w = 2 then rGr (rFt A) 124 else (gS (rFt A) (fun w => w % 4) 124 : Int), M) := by
  intro n
  induction n with
  | zero => intros; omega
  | succ n ih =>
    intro v hv hn
    unfold Mo_winds_32
    by_cases e : v = 124
    · subst e
      rw [if_neg (by omega)]
      by_cases w0 : w = 0
      · rw [if_pos w0, if_pos w0]
      · rw [if_neg w0, if_neg w0]
        by_cases w1 : w = 1
        · rw [if_pos w1, if_pos w1]
        · rw [if_neg w1, if_neg w1]
          by_cases w2 : w = 2
          · rw [if_pos w2, if_pos w2]
          · rw [if_neg w2, if_neg w2]
    · have e4 : z32 ((v : Int).tdiv 4) = ((v / 4 : Nat) : Int) := by rw [Int.tdiv_eq_ediv_of_nonneg (by omega), zs (by omega)]; omega
      have e5 : (v : Int).tmod 4 = ((v % 4 : Nat) : Int) := by rw [Int.tmod_eq_emod_of_nonneg (by omega)]; omega
      have l16 : gS (rFt A) (fun w => w % 4) v < 16 := gS_lt (fun w hw => by show w % 4 < 4; omega)
      have hi := ih (v + 1) (by omega) (by omega)
      rw [if_pos (by omega), zI_t (by omega), Int.toNat_natCast, hI.1 v (by omega)]
      unfold Mo_winds_61
      simp only [zW_e]
      rw [e4, e5, zsucc (by omega), zsh_n (v % 4) (by omega), zor_n _ (by omega) _ (p2_64 (by omega))]
      clear e4 e5
      by_cases bf : rFt A v = true
      · rw [if_pos bf, if_neg (by decide)]
        have hL : rLe (rFt A) (v + 1) = if rLe (rFt A) v < 0 then ((v / 4 : Nat) : Int) else rLe (rFt A) v := by rw [rLe, if_pos bf]
        have hGr : rGr (rFt A) (v + 1) = ((v / 4 : Nat) : Int) := by rw [rGr, if_pos bf]
        have hS : gS (rFt A) (fun w => w % 4) (v + 1) = gS (rFt A) (fun w => w % 4) v ||| 2 ^ (v % 4) := by rw [gS, if_pos bf]
        rw [hL, hGr, hS] at hi
        by_cases bl : rLe (rFt A) v < 0
        · rw [if_pos bl]
          rw [if_pos bl] at hi
          exact hi
        · rw [if_neg bl]
          rw [if_neg bl] at hi
          exact hi
      · rw [if_neg bf, if_pos rfl]
        have hL : rLe (rFt A) (v + 1) = rLe (rFt A) v := by rw [rLe, if_neg bf]
        have hGr : rGr (rFt A) (v + 1) = rGr (rFt A) v := by rw [rGr, if_neg bf]
        have hS : gS (rFt A) (fun w => w % 4) (v + 1) = gS (rFt A) (fun w => w % 4) v := by rw [gS, if_neg bf]
        rw [hL, hGr, hS] at hi
        exact hi
theorem m_winds (h : RA A M) (hv : VA c A) (hN : 2000 ≤ N) (x : Int) : ∃ M', Mo_winds N 0 x M = some (qWinds A x, M') ∧ RA A M' ∧ zRl M M' := by
  have h0 := h.z 0
  unfold Mo_winds qWinds
  simp only [zW_e]
  rw [r_within, zB_s]
  by_cases b : 0 ≤ x ∧ x ≤ 3
  · rw [if_pos b, if_neg (by decide)]
    obtain ⟨M1, e1, f1, g1⟩ := m_lays (N := N) hv hN h0.rg
    rw [e1, zB_s]
    have := m_win32 (N := N) g1 (w := x) (x := gC (rFt A) 124) b N 0 (by omega) (by omega)
    rw [show ((0 : Nat) : Int) = 0 from rfl, show rLe (rFt A) 0 = -1 from rfl, show rGr (rFt A) 0 = -1 from rfl, show ((gS (rFt A) (fun w => w % 4) 0 : Nat) : Int) = 0 from rfl] at this
    rw [this]
    refine h.e2 (f1.mo fV_q) (h0.s.fr f1 (fun k _ _ => by simp [fV])) ?_
    rw [gC_or, gL_or, gG_or, gS_or]
    by_cases w0 : x = 0
    · rw [if_pos w0, if_pos w0]
    · rw [if_neg w0, if_neg w0]
      by_cases w1 : x = 1
      · rw [if_pos w1, if_pos w1]
      · rw [if_neg w1, if_neg w1]
        by_cases w2 : x = 2
        · rw [if_pos w2, if_pos w2]
        · rw [if_neg w2, if_neg w2, if_pos (by omega)]
  · rw [if_neg b, if_pos rfl, if_neg (by omega), if_neg (by omega), if_neg (by omega), if_neg (by omega)]
    exact h.e0 rfl
theorem m_ask54 (hv : VP (aP A)) (hN : 2000 ≤ N) {rec14 : Nat → Int → Int → Int → ZM → Option (Int × ZM)} {t : Nat} (ht : t < qN (aP A)) {x y : Int} : ∀ (n v : Nat) (M : ZM), rI A 124 M → (∀ g, g < 100 → mI M 91 0 g = gT (rFt A) (rW A) t v g) → v ≤ 124 → 124 - v < n → ∃ M', Mo_ask_54 N rec14 n 0 x y t (gX (gT (rFt A) (rW A) t v) 100) v M = (if mMx A t < x then rec14 0 (mMx A t) t ((t + 1 : Nat) : Int) M' else rec14 0 x y ((t + 1 : Nat) : Int) M') ∧ zfr (fun t _ _ => t == 91) M M' := by
  intro n
  induction n with
  | zero => intros; omega
  | succ n ih =>
    intro v M hI h91 hvv hn
    have h6 := hv.n
    unfold Mo_ask_54
    by_cases e : v = 124
    · subst e
      rw [if_neg (by omega), ← gT_or]
      simp only [zW_e]
      rw [zsucc (by omega)]
      exact ⟨M, rfl, zfr.rf M⟩
    · have e6 : z32 (z32 (6 * (v : Int)) + (t : Int)) = ((6 * v + t : Nat) : Int) := by rw [zs (x := 6 * (v : Int)) (by omega), zs (by omega)]; omega
      rw [if_pos (by omega), zI_t (by omega), Int.toNat_natCast, hI.1 v (by omega), e6]
      clear e6
      simp only [zW_e, Int.toNat_natCast]
      rw [zsucc (by omega)]
      by_cases bf : rFt A v = true
      · have hb := mPow_b (P := aP A) (S := aS A) (fr := ((v % 4 : Nat) : Int)) (bl := ((v / 4 : Nat) : Int)) (t := t)
        have hW : mPow (aP A) (aS A) ((v % 4 : Nat) : Int) ((v / 4 : Nat) : Int) t = rW A v t := rfl
        rw [hW] at hb
        obtain ⟨g0, hg0⟩ : ∃ g0 : Nat, rW A v t = g0 := ⟨(rW A v t).toNat, by omega⟩
        have h89 : mI M 89 0 (6 * v + t) = (g0 : Int) := by rw [hI.2 v t (by omega) ht, hg0]
        have i744 : (0 : Int) ≤ ((6 * v + t : Nat) : Int) ∧ ((6 * v + t : Nat) : Int) < 744 := by omega
        have i100 : (0 : Int) ≤ (g0 : Int) ∧ (g0 : Int) < 100 := by omega
        rw [if_pos bf, if_neg (by decide), zI_t i744, h89, zI_t i100, zI_t i100, Int.toNat_natCast, h91 g0 (by omega)]
        have hgt := gT_b (F := rFt A) (W := rW A) (t := t) (v := v) (g := g0)
        rw [zs (x := gT (rFt A) (rW A) t v g0 + 1) (by omega), zI_t i744]
        have f1 : zfr (fun t _ _ => t == 91) M (pI M 91 0 g0 (gT (rFt A) (rW A) t v g0 + 1)) := (zfr.rf M).pI rfl
        have h89' : mI (pI M 91 0 g0 (gT (rFt A) (rW A) t v g0 + 1)) 89 0 (6 * v + t) = (g0 : Int) := by rw [mI_pI_ne (by omega), h89]
        rw [h89', zI_t i100, Int.toNat_natCast, mI_pI_eq]
        have t1 : gT (rFt A) (rW A) t (v + 1) g0 = gT (rFt A) (rW A) t v g0 + 1 := by unfold gT; rw [zsum, if_pos ⟨bf, hg0⟩]
        have t2 : ∀ u, u ≠ g0 → gT (rFt A) (rW A) t (v + 1) u = gT (rFt A) (rW A) t v u := fun u hu => by
          unfold gT; rw [zsum, if_neg (fun h => hu (by omega))]; simp
        have t3 := gX_up (T := gT (rFt A) (rW A) t v) (T' := gT (rFt A) (rW A) t (v + 1)) (g := g0) (x := gT (rFt A) (rW A) t v g0 + 1) (by omega) t1 t2 (n := 100) (by omega)
        rw [← t3]
        obtain ⟨M', e2, f2⟩ := ih (v + 1) _ (rI_g hI (fun t k ht => f1.2 t 0 k (by simp; omega))) (fun g hg => by
          rw [mI_pI]
          by_cases e : g = g0
          · rw [if_pos ⟨rfl, rfl, e⟩, e, t1]
          · rw [if_neg (by omega), h91 g hg, t2 g e]) (by omega) (by omega)
        exact ⟨M', e2, f1.tr f2⟩
      · rw [if_neg bf, if_pos rfl]
        have t2 : ∀ u, gT (rFt A) (rW A) t (v + 1) u = gT (rFt A) (rW A) t v u := fun u => by
          unfold gT; rw [zsum, if_neg (fun h => bf h.1)]; simp
        have t3 : gT (rFt A) (rW A) t (v + 1) = gT (rFt A) (rW A) t v := funext t2
        have hh := ih (v + 1) M hI (fun g hg => by rw [t2, h91 g hg]) (by omega) (by omega)
        rw [t3] at hh
        exact hh
theorem m_ask30 (hv : VP (aP A)) (hN : 2000 ≤ N) {rec14 : Nat → Int → Int → Int → ZM → Option (Int × ZM)} {t : Nat} (ht : t < qN (aP A)) {x y : Int} : ∀ (n k : Nat) (M : ZM), rI A 124 M → (∀ g, g < k → mI M 91 0 g = 0) → k ≤ 100 → 100 - k < n → ∃ M', Mo_ask_30 N rec14 n 0 x y t 0 k M = (if mMx A t < x then rec14 0 (mMx A t) t ((t + 1 : Nat) : Int) M' else rec14 0 x y ((t + 1 : Nat) : Int) M') ∧ zfr (fun t _ _ => t == 91) M M' := by
  intro n
  induction n with
  | zero => intros; omega
  | succ n ih =>
    intro k M hI h0 hk hn
    unfold Mo_ask_30
    by_cases e : k = 100
    · subst e
      rw [if_neg (by omega)]
      have hz : gT (rFt A) (rW A) t 0 = fun _ => 0 := by funext g; rfl
      obtain ⟨M', e2, f2⟩ := m_ask54 (N := N) (rec14 := rec14) hv hN ht (x := x) (y := y) N 0 M hI (fun g hg => by rw [h0 g hg, hz]) (by omega) (by omega)
      rw [hz, gX_0, show ((0 : Nat) : Int) = 0 from rfl] at e2
      exact ⟨M', e2, f2⟩
    · rw [if_pos (by omega), zI_t (by omega)]
      simp only [zW_e, Int.toNat_natCast]
      rw [zsucc (by omega)]
      have f1 : zfr (fun t _ _ => t == 91) M (pI M 91 0 k 0) := (zfr.rf M).pI rfl
      obtain ⟨M', e2, f2⟩ := ih (k + 1) _ (rI_g hI (fun t k ht => f1.2 t 0 k (by simp; omega))) (fun g hg => by
        rw [mI_pI]
        by_cases e : g = k
        · rw [if_pos ⟨rfl, rfl, e⟩]
        · rw [if_neg (by omega), h0 g (by omega)]) (by omega) (by omega)
      exact ⟨M', e2, f1.tr f2⟩
theorem m_ask14 (hv : VA c A) (hN : 2000 ≤ N) : ∀ (n k : Nat) (M : ZM), RP (aP A) M → rI A 124 M → k ≤ qN (aP A) → qN (aP A) - k < n → ∃ M', Mo_ask_14 N n 0 (mAk A k).2 (mAk A k).1 k M = some (qAsk A, M') ∧ zfr (fun t _ _ => t == 91) M M' := by
  intro n
  induction n with
  | zero => intros; omega
  | succ n ih =>
    intro k M hp hI hk hn
    have h6 := hv.p.n
    unfold Mo_ask_14
    rw [hp.n]
    by_cases b : k = qN (aP A)
    · subst b
      rw [if_neg (by omega)]
      exact ⟨M, rfl, zfr.rf M⟩
    · rw [if_pos (by omega)]
      obtain ⟨M1, e1, f1⟩ := m_ask30 (N := N) (rec14 := Mo_ask_14 N n) hv.p hN (t := k) (by omega) (x := (mAk A k).2) (y := (mAk A k).1) N 0 M hI (fun g hg => by omega) (by omega) (by omega)
      rw [show ((0 : Nat) : Int) = 0 from rfl] at e1
      rw [e1]
      obtain ⟨M', e2, f2⟩ := ih (k + 1) M1 (hp.fr f1 (fun t k h => by simp; omega)) (rI_g hI (fun t k ht => f1.2 t 0 k (by simp; omega))) (by omega) (by omega)
      refine ⟨M', ?_, f1.tr f2⟩
      by_cases b2 : mMx A k < (mAk A k).2
      · have hm : mAk A (k + 1) = ((k : Int), mMx A k) := by rw [mAk, if_pos b2]
        rw [hm] at e2
        dsimp only at e2
        rw [if_pos b2]
        exact e2
      · have hm : mAk A (k + 1) = mAk A k := by rw [mAk, if_neg b2]
        rw [hm] at e2
        rw [if_neg b2, e2]
theorem m_ask (h : RA A M) (hv : VA c A) (hN : 2000 ≤ N) : ∃ M', Mo_ask N 0 M = some (qAsk A, M') ∧ RA A M' ∧ zRl M M' := by
  have h0 := h.z 0
  have h6 := hv.p.n
  unfold Mo_ask
  simp only [zW_e]
  obtain ⟨M1, e1, f1, g1⟩ := m_lays (N := N) hv hN h0.rg
  rw [e1, zB_s]
  obtain ⟨M2, e2, f2⟩ := m_ask14 (N := N) hv hN N 0 M1 (h0.p.fr f1 fV_p) g1 (by omega) (by omega)
  rw [show ((0 : Nat) : Int) = 0 from rfl, show (mAk A 0).1 = -1 from rfl, show (mAk A 0).2 = gC (gF A) 124 from rfl, gC_or] at e2
  rw [e2]
  have f2q : zfr fQ M1 M2 := f2.mo (fun t i k h => by simp [fQ] at h; simp; omega)
  exact h.e2 ((f1.mo fV_q).tr f2q) ((h0.s.fr f1 (fun k _ _ => by simp [fV])).fr f2 (fun k _ _ => by simp)) rfl
end RQ6
