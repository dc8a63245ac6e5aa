section ZSW
variable {dC : Nat → ClassId} {dI : Nat → Nat → Nat} {aC : Nat → ClassId} {ρ : Nat → Nat → Nat} {B sl b t i k : Nat} {sx : Nat → Int} {M : ZM} {H : Heap}
def zrw (ρ : Nat → Nat → Nat) (b : Nat) : Nat → Nat → Nat := fun t i => if t = 102 then b else ρ t i
theorem zrw_ne (h : t ≠ 102) : zrw ρ b t i = ρ t i := if_neg h
theorem zrw_f (h : t ≠ 102) : zrw ρ b t = ρ t := funext fun _ => if_neg h
theorem zcn_o (h : 104 ≤ t) : zcn t = 0 := by
  unfold zcn
  split <;> first | rfl | (exfalso; omega)
theorem zlen_ne (h : t ≠ 102) : zlen sl t i = zlen 0 t i := by
  unfold zlen
  split <;> first | rfl | exact absurd rfl h
theorem zlN_b : zlN i ≤ 1000 := by
  unfold zlN
  split <;> omega
theorem zlen_b : zlen 0 t i ≤ 100000 := by
  unfold zlen
  split <;> first | omega | exact Nat.le_trans zlN_b (by omega)
theorem zFc_n (h : ¬ t < 12) (h1 : t ≠ 46) (h2 : t ≠ 47) (h3 : t ≠ 48) (h4 : t ≠ 100) : zFc t i k = none := by
  unfold zFc
  split <;> first | rfl | (exfalso; omega)
theorem zKL_r : zr64 (zKL t i k) := by
  unfold zKL zkey zr64
  split <;> omega
theorem zKI_r (hsx : ∀ k, zr32 (sx k)) (h : t = 12 → i < 30) : zr32 (zKI sx t i k) := by
  unfold zKI
  split
  · have := h rfl
    unfold zr32
    split
    · split <;> omega
    · omega
  · unfold zswm zr32
    split <;> omega
  · exact hsx _
  · unfold zr32; omega
theorem zswm_r (j : Nat) : zr32 (zswm j) := by
  unfold zswm zr32
  split <;> omega
theorem m102 (h : zmt t = true) : t ≠ 102 ∧ t ≠ 13 := ⟨fun z => by subst z; revert h; decide, fun z => by subst z; revert h; decide⟩
theorem ag_t (h : zagr M = true) (ht : t < 104) : ((Nat.beq t 13 || Nat.beq t 102 || decide (mC M t = zcn t)) && (if t < 12 then (List.range (zcn t)).all (zagF M t) else !(zmt t) || (List.range (zcn t)).all (zagA M t))) = true := List.all_eq_true.mp h t (List.mem_range.mpr ht)
theorem ag_c (h : zagr M = true) (ht : t < 104) (h13 : t ≠ 13) (h102 : t ≠ 102) : mC M t = zcn t := by
  have := (zand2 (ag_t h ht)).1
  rcases zor2 this with z | z
  · rcases zor2 z with z | z
    · exact absurd (Nat.eq_of_beq_eq_true z) h13
    · exact absurd (Nat.eq_of_beq_eq_true z) h102
  · exact of_decide_eq_true z
theorem ag_F (h : zagr M = true) (h12 : t < 12) (hi : i < zcn t) (hk : k < znf t) (h3 : (zfp t k).1 = 3) : mF M t i k = zFc t i k := by
  have z := (zand2 (ag_t h (t := t) (by omega))).2
  rw [if_pos h12] at z
  replace z := List.all_eq_true.mp z i (List.mem_range.mpr hi)
  unfold zagF at z
  replace z := List.all_eq_true.mp z k (List.mem_range.mpr hk)
  rcases zor2 z with z | z
  · rw [h3] at z; cases z
  · exact of_decide_eq_true z
theorem ag_A (h : zagr M = true) (ht : t < 104) (h12 : ¬ t < 12) (hm : zmt t = true) (hi : i < zcn t) : mN M t i = zlen 0 t i ∧ (zek t = 4 → ∀ k, k < zlen 0 t i → mF M t i k = zFc t i k) := by
  have z := (zand2 (ag_t h ht)).2
  rw [if_neg h12] at z
  rcases zor2 z with z | z
  · rw [hm] at z; cases z
  · replace z := List.all_eq_true.mp z i (List.mem_range.mpr hi)
    unfold zagA at z
    obtain ⟨z1, z2⟩ := zand2 z
    refine ⟨of_decide_eq_true z1, fun h4 k hk => ?_⟩
    rcases zor2 z2 with z | z
    · rw [h4] at z; cases z
    · exact of_decide_eq_true (List.all_eq_true.mp z k (List.mem_range.mpr hk))
theorem tg_F : (List.range 12).all (fun t => (List.range (znf t)).all (fun k => decide ((zfp t k).2.1 ≠ 102))) = true := by decide +kernel
theorem tg_f (ht : t < 12) (hk : k < znf t) : (zfp t k).2.1 ≠ 102 := of_decide_eq_true (List.all_eq_true.mp (List.all_eq_true.mp tg_F t (List.mem_range.mpr ht)) k (List.mem_range.mpr hk))
theorem tg_a (h : zek t = 4) : ztg t ≠ 102 := by rcases zek_4 h with rfl | rfl | rfl <;> decide
theorem sw_i (hg : zagr M = true) (ht : zmt t = true) (hi : i < zcn t) : t < 104 ∧ i < mC M t := by
  have h104 : t < 104 := by
    rcases Nat.lt_or_ge t 104 with z | z
    · exact z
    · rw [zcn_o z] at hi; omega
  exact ⟨h104, by rw [ag_c hg h104 (m102 ht).2 (m102 ht).1]; exact hi⟩
theorem sw_hp (hg : zagr M = true) (hH : zHp ρ dC dI aC M H) : zHp (zrw ρ b) dC dI aC (zSw M sl sx) H := by
  intro t i ht hi
  replace hi : i < zcn t := hi
  have hne := (m102 ht).1
  obtain ⟨h104, hi'⟩ := sw_i hg ht hi
  have hcel := hH t i ht hi'
  refine ⟨fun h12 => ?_, fun h12 => ?_⟩
  · rw [zrw_ne hne]
    refine (hcel.1 h12).to (fun k hk => ?_)
    have hρ : zrw ρ b (zfp t k).2.1 = ρ (zfp t k).2.1 := zrw_f (tg_f h12 hk)
    unfold zfv
    rw [hρ]
    rcases hz : (zfp t k).1 with _ | _ | _ | _ | _ | z
    · rfl
    · rfl
    · rfl
    · show va_rf ((mF M t i k).map _) = va_rf ((zFc t i k).map _)
      rw [ag_F hg h12 hi hk hz]
    · rfl
    · rfl
  · rw [zrw_ne hne, hcel.2 h12]
    obtain ⟨e1, e2⟩ := ag_A hg h104 h12 ht hi
    show some (arrV (aC t) (mN M t i) _) = some (arrV (aC t) (zlen sl t i) _)
    rw [zlen_ne hne, e1]
    refine congrArg some (arrV_cg fun j hj => ?_)
    unfold zav
    rcases hz : zek t with _ | _ | _ | _ | _ | z
    · rfl
    · rfl
    · rfl
    · rfl
    · show va_rf ((mF M t i j).map _) = va_rf ((zFc t i j).map _)
      rw [e2 hz j hj, zrw_f (tg_a hz)]
    · rfl
def zw2b : Bool := ((List.range 12).all fun t => (List.range (zcn t)).all fun i => (List.range (znf t)).all fun k => !(Nat.beq (zfp t k).1 3) || (match zFc t i k with | none => true | some j => decide (j < zcn (ztf t k)))) && ([46, 47, 48, 100].all fun t => (List.range (zcn t)).all fun i => (List.range (zlen 0 t i)).all fun k => (match zFc t i k with | none => true | some j => decide (j < zcn (ztf t k))))
theorem zw2_ok : zw2b = true := by decide +kernel
theorem zw2_a {t i k j : Nat} (h12 : t < 12) (hi : i < zcn t) (hk : k < znf t) (h3 : (zfp t k).1 = 3) (hf : zFc t i k = some j) : j < zcn (ztf t k) := by
  have z := (zand2 zw2_ok).1
  replace z := List.all_eq_true.mp (List.all_eq_true.mp (List.all_eq_true.mp z t (List.mem_range.mpr h12)) i (List.mem_range.mpr hi)) k (List.mem_range.mpr hk)
  rcases zor2 z with z | z
  · rw [h3] at z; cases z
  · rw [hf] at z
    exact of_decide_eq_true z
theorem zw2_b {t i k j : Nat} (ht : t ∈ [46, 47, 48, 100]) (hi : i < zcn t) (hk : k < zlen 0 t i) (hf : zFc t i k = some j) : j < zcn (ztf t k) := by
  have z := (zand2 zw2_ok).2
  replace z := List.all_eq_true.mp (List.all_eq_true.mp (List.all_eq_true.mp z t ht) i (List.mem_range.mpr hi)) k (List.mem_range.mpr hk)
  rw [hf] at z
  exact of_decide_eq_true z
theorem sw_wf (hg : zagr M = true) (hsl : sl < 2147483648) (hsx : ∀ k, zr32 (sx k)) (hW : zWf ρ B M) : zWf (zrw ρ b) B (zSw M sl sx) := by
  refine ⟨fun t i k => ⟨(hW.1 t i k).1, (hW.1 t i k).2.1, fun z => zKI_r hsx z, zKL_r (t := t) (k := k)⟩, fun t i k j hi hp hf => ?_, fun r j hr => ?_, fun t i t' i' ht ht' hi hi' e => ?_, fun t i ht hi => ?_, ⟨fun z => absurd z (show ¬ zcn 5 = 0 by decide), fun z => absurd z (show ¬ zcn 8 = 0 by decide), fun z => absurd z (show ¬ zcn 10 = 0 by decide), show zcn 5 ≤ 1 by decide, show zcn 8 ≤ 1 by decide, show zcn 10 ≤ 1 by decide⟩, fun t i h12 hi => ?_, ⟨rfl, rfl, rfl, show zcn 102 ≤ 1 by decide, rfl, rfl, fun k _ => rfl, fun t ht => zcn_o ht⟩⟩
  · replace hf : zFc t i k = some j := hf
    replace hi : i < zcn t := hi
    show j < zcn (ztf t k)
    rcases hp with ⟨h12, hk, h3⟩ | ⟨h12, hk⟩
    · exact zw2_a h12 hi hk h3 hf
    · replace hk : k < zlen sl t i := hk
      by_cases h1 : t ∈ [46, 47, 48, 100]
      · refine zw2_b h1 hi ?_ hf
        rw [zlen_ne (fun z => by subst z; revert h1; decide)] at hk
        exact hk
      · simp only [List.mem_cons, List.not_mem_nil, or_false, not_or] at h1
        rw [zFc_n h12 h1.1 h1.2.1 h1.2.2.1 h1.2.2.2] at hf
        cases hf
  · have z := hW.2.2.1 r j hr
    show j < zcn (if r < 3 then 4 else 12)
    by_cases h : r < 3
    · rw [if_pos h] at z ⊢
      rw [ag_c hg (by omega) (by omega) (by omega)] at z
      exact z
    · rw [if_neg h] at z ⊢
      rw [ag_c hg (by omega) (by omega) (by omega)] at z
      exact z
  · rw [zrw_ne (m102 ht).1, zrw_ne (m102 ht').1] at e
    exact hW.2.2.2.1 t i t' i' ht ht' (sw_i hg ht hi).2 (sw_i hg ht' hi').2 e
  · rw [zrw_ne (m102 ht).1]
    exact hW.2.2.2.2.1 t i ht (sw_i hg ht hi).2
  · show zlen sl t i < 2147483648
    by_cases h : t = 102
    · subst h; exact hsl
    · rw [zlen_ne h]
      have := zlen_b (t := t) (i := i)
      omega
theorem sw_kc : zkc sl sx (zSw M sl sx) := ⟨fun _ _ _ => rfl, fun _ _ _ => rfl, fun _ => rfl⟩
theorem sw_cs {U : State} (h : zcs ρ B 30 zswm U H) (hb : va_T .int b sl (fun j => .int (Int32.ofInt (sx j))) (zA B) U H) : zcs (zrw ρ b) B sl sx U H := by
  obtain ⟨a1, a2, a3, a4, a5, a6, a7, a8, a9, a10, a11⟩ := h
  exact ⟨a1, a2, a3, a4, a5, a6, a7, a8, a9, hb, a11⟩
def lsL : ZL := [some (vR 102 (some 0)), some (vR 10 (some 0)), some (vR 11 (some 0)), some (vR 103 (some 0)), some (vI 0), none, none]
theorem sw_ctx {s : State} {lsC : Array Slot} {locs : List Loc} (hg : zagr M = true) (hsl : sl < 2147483648) (hsx : ∀ k, zr32 (sx k)) (hC : zctx dC dI aC B 30 zswm ρ M H s lsE lsC 7 [] locs) (h13 : ρ 13 0 = b) (hb : va_T .int b sl (fun j => .int (Int32.ofInt (sx j))) (zA B) s s.heap) : zctx dC dI aC B sl sx (zrw ρ b) (zSw M sl sx) H s lsL lsC 7 [] locs := by
  obtain ⟨hH, hW, hk, hc, hs, hL, hlv, hsv, hB, hS⟩ := hC
  refine ⟨sw_hp hg hH, sw_wf hg hsl hsx hW, sw_kc, sw_cs hc hb, hs, ⟨hL.1, hL.2.1, fun i v hi => ?_⟩, fun i v hi => ?_, (fun v hv => by cases hv), hB, hS⟩
  · rcases i with _ | _ | _ | _ | _ | i
    · cases hi
      have z := hL.2.2 0 (vR 13 (some 0)) rfl
      show lsC[0]? = some (.val (.ref b))
      rw [← h13]
      exact z
    · cases hi; exact hL.2.2 1 (vR 10 (some 0)) rfl
    · cases hi; exact hL.2.2 2 (vR 11 (some 0)) rfl
    · cases hi; exact hL.2.2 3 (vR 103 (some 0)) rfl
    · cases hi; exact hL.2.2 4 (vI 0) rfl
    · rcases i with _ | _ | i <;> cases hi
  · rcases i with _ | _ | _ | _ | _ | i
    · cases hi; intro i hi; cases hi; show 0 < zcn 102; decide
    · cases hi; intro i hi; cases hi; show 0 < zcn 10; decide
    · cases hi; intro i hi; cases hi; show 0 < zcn 11; decide
    · cases hi; intro i hi; cases hi; show 0 < zcn 103; decide
    · cases hi; exact ⟨by decide, by decide⟩
    · rcases i with _ | _ | i <;> cases hi
end ZSW
