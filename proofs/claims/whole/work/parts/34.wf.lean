section ZWF
theorem arrV_cg {c : ClassId} {n : Nat} {f g : Nat → Value} (h : ∀ j, j < n → f j = g j) : arrV c n f = arrV c n g := by
  unfold arrV
  congr 2
  funext j
  exact h j.1 j.2
variable {ρ : Nat → Nat → Nat} {dC : Nat → ClassId} {dI : Nat → Nat → Nat} {aC : Nat → ClassId} {M M1 : ZM} {H H1 : Heap} {t i k B : Nat}
theorem zHp_set (hH : zHp ρ dC dI aC M H) (h4 : zW4 ρ M) (ht : zmt t = true) (hi : i < mC M t) (hc : ∀ t', mC M1 t' = mC M t') (hq : ∀ q, q ≠ ρ t i → H1[q]? = H[q]?) (hnew : zcel ρ dC dI aC M1 H1 t i)
    (hs : ∀ t' i', zmt t' = true → i' < mC M t' → ¬ (t' = t ∧ i' = i) → (∀ k, k < znf t' → zfv ρ M1 t' i' k = zfv ρ M t' i' k) ∧ mN M1 t' i' = mN M t' i' ∧ (∀ j, j < mN M t' i' → zav ρ M1 t' i' j = zav ρ M t' i' j)) : zHp ρ dC dI aC M1 H1 := by
  intro t' i' ht' hi'
  rw [hc] at hi'
  by_cases e : t' = t ∧ i' = i
  · rw [e.1, e.2]; exact hnew
  · have hne : ρ t' i' ≠ ρ t i := fun q => e (h4 t' i' t i ht' ht hi' hi q)
    obtain ⟨a, b⟩ := hH t' i' ht' hi'
    obtain ⟨s1, s2, s3⟩ := hs t' i' ht' hi' e
    refine ⟨fun h => ((a h).kept (hq _ hne)).to (fun k hk => (s1 k hk).symm), fun h => ?_⟩
    rw [hq _ hne, b h, s2]
    exact congrArg some (arrV_cg (fun j hj => (s3 j hj).symm))
theorem mI_pI {t' i' k' : Nat} {x : Int} : mI (pI M t i k x) t' i' k' = if t' = t ∧ i' = i ∧ k' = k then x else mI M t' i' k' := rfl
theorem mL_pL {t' i' k' : Nat} {x : Int} : mL (pL M t i k x) t' i' k' = if t' = t ∧ i' = i ∧ k' = k then x else mL M t' i' k' := rfl
theorem mF_pF {t' i' k' : Nat} {x : Option Nat} : mF (pF M t i k x) t' i' k' = if t' = t ∧ i' = i ∧ k' = k then x else mF M t' i' k' := rfl
theorem zfv_pI {t' i' k' : Nat} {x : Int} (h : ¬ (t' = t ∧ i' = i ∧ k' = k)) : zfv ρ (pI M t i k x) t' i' k' = zfv ρ M t' i' k' := by
  have e : mI (pI M t i k x) t' i' k' = mI M t' i' k' := by rw [mI_pI, if_neg h]
  unfold zfv
  rw [e]
  rfl
theorem zav_pI {t' i' k' : Nat} {x : Int} (h : ¬ (t' = t ∧ i' = i ∧ k' = k)) : zav ρ (pI M t i k x) t' i' k' = zav ρ M t' i' k' := by
  have e : mI (pI M t i k x) t' i' k' = mI M t' i' k' := by rw [mI_pI, if_neg h]
  unfold zav
  rw [e]
  rfl
theorem zfv_pL {t' i' k' : Nat} {x : Int} (h : ¬ (t' = t ∧ i' = i ∧ k' = k)) : zfv ρ (pL M t i k x) t' i' k' = zfv ρ M t' i' k' := by
  have e : mL (pL M t i k x) t' i' k' = mL M t' i' k' := by rw [mL_pL, if_neg h]
  unfold zfv
  rw [e]
  rfl
theorem zav_pL {t' i' k' : Nat} {x : Int} (h : ¬ (t' = t ∧ i' = i ∧ k' = k)) : zav ρ (pL M t i k x) t' i' k' = zav ρ M t' i' k' := by
  have e : mL (pL M t i k x) t' i' k' = mL M t' i' k' := by rw [mL_pL, if_neg h]
  unfold zav
  rw [e]
  rfl
theorem zfv_pF {t' i' k' : Nat} {x : Option Nat} (h : ¬ (t' = t ∧ i' = i ∧ k' = k)) : zfv ρ (pF M t i k x) t' i' k' = zfv ρ M t' i' k' := by
  have e : mF (pF M t i k x) t' i' k' = mF M t' i' k' := by rw [mF_pF, if_neg h]
  unfold zfv
  rw [e]
  rfl
theorem zav_pF {t' i' k' : Nat} {x : Option Nat} (h : ¬ (t' = t ∧ i' = i ∧ k' = k)) : zav ρ (pF M t i k x) t' i' k' = zav ρ M t' i' k' := by
  have e : mF (pF M t i k x) t' i' k' = mF M t' i' k' := by rw [mF_pF, if_neg h]
  unfold zav
  rw [e]
  rfl
/-- a field that changes -/
theorem zHp_obj {v : Value} (hH : zHp ρ dC dI aC M H) (h4 : zW4 ρ M) (ht : t < 12) (hi : i < mC M t) (hc : ∀ t', mC M1 t' = mC M t') (hq : ∀ q, q ≠ ρ t i → H1[q]? = H[q]?) (hO : t_OB (ρ t i) (dC t) (znf t) (dI t) H1 (updV (zfv ρ M t i) k v)) (hv : zfv ρ M1 t i k = v)
    (hs : ∀ t' i' k', zmt t' = true → i' < mC M t' → ¬ (t' = t ∧ i' = i ∧ k' = k) → k' < znf t' → zfv ρ M1 t' i' k' = zfv ρ M t' i' k') (hn : ∀ t' i', mN M1 t' i' = mN M t' i') (ha : ∀ t' i' j, ¬ (t' = t ∧ i' = i) → zav ρ M1 t' i' j = zav ρ M t' i' j) : zHp ρ dC dI aC M1 H1 := by
  have hm : zmt t = true := by simp [zmt, ht]
  refine zHp_set hH h4 hm hi hc hq ⟨fun _ => hO.to (fun k' hk' => ?_), fun h => absurd ht h⟩ (fun t' i' ht' hi' e => ⟨fun k' hk' => hs t' i' k' ht' hi' (fun z => e ⟨z.1, z.2.1⟩) hk', hn t' i', fun j _ => ha t' i' j e⟩)
  unfold updV
  split
  · next e => rw [e]; exact hv.symm
  · next e => exact (hs t i k' hm hi (fun z => e z.2.2) hk').symm
/-- an array's place that changes -/
theorem zHp_arr {v : Value} (hH : zHp ρ dC dI aC M H) (h4 : zW4 ρ M) (hm : zmt t = true) (ht : ¬ t < 12) (hi : i < mC M t) (hc : ∀ t', mC M1 t' = mC M t') (hq : ∀ q, q ≠ ρ t i → H1[q]? = H[q]?) (hO : H1[ρ t i]? = some (arrV (aC t) (mN M t i) (updV (zav ρ M t i) k v))) (hv : zav ρ M1 t i k = v)
    (hs : ∀ t' i' k', ¬ (t' = t ∧ i' = i) → zfv ρ M1 t' i' k' = zfv ρ M t' i' k') (hn : ∀ t' i', mN M1 t' i' = mN M t' i') (ha : ∀ t' i' j, ¬ (t' = t ∧ i' = i ∧ j = k) → zav ρ M1 t' i' j = zav ρ M t' i' j) : zHp ρ dC dI aC M1 H1 := by
  refine zHp_set hH h4 hm hi hc hq ⟨fun h => absurd h ht, fun _ => ?_⟩ (fun t' i' ht' hi' e => ⟨fun k' hk' => hs t' i' k' e, hn t' i', fun j _ => ha t' i' j (fun z => e ⟨z.1, z.2.1⟩)⟩)
  rw [hO, hn]
  refine congrArg some (arrV_cg fun j _ => ?_)
  unfold updV
  split
  · next e => rw [e]; exact hv.symm
  · next e => exact (ha t i j (fun z => e z.2.2)).symm
theorem zHp_pIo {x : Int} (hH : zHp ρ dC dI aC M H) (h4 : zW4 ρ M) (ht : t < 12) (hi : i < mC M t) (hp : (zfp t k).1 = 0 ∨ (zfp t k).1 = 1) (hq : ∀ q, q ≠ ρ t i → H1[q]? = H[q]?) (hO : t_OB (ρ t i) (dC t) (znf t) (dI t) H1 (updV (zfv ρ M t i) k (.int (Int32.ofInt x)))) : zHp ρ dC dI aC (pI M t i k x) H1 := by
  refine zHp_obj (k := k) hH h4 ht hi (fun _ => rfl) hq hO ?_ (fun t' i' k' _ _ e _ => zfv_pI e) (fun _ _ => rfl) (fun t' i' j e => zav_pI (fun z => e ⟨z.1, z.2.1⟩))
  unfold zfv
  rcases hp with hp | hp <;> simp [hp, mI_pI]
theorem zHp_pLo {x : Int} (hH : zHp ρ dC dI aC M H) (h4 : zW4 ρ M) (ht : t < 12) (hi : i < mC M t) (hp : (zfp t k).1 = 2) (hq : ∀ q, q ≠ ρ t i → H1[q]? = H[q]?) (hO : t_OB (ρ t i) (dC t) (znf t) (dI t) H1 (updV (zfv ρ M t i) k (.long (Int64.ofInt x)))) : zHp ρ dC dI aC (pL M t i k x) H1 := by
  refine zHp_obj (k := k) hH h4 ht hi (fun _ => rfl) hq hO ?_ (fun t' i' k' _ _ e _ => zfv_pL e) (fun _ _ => rfl) (fun t' i' j e => zav_pL (fun z => e ⟨z.1, z.2.1⟩))
  unfold zfv
  simp [hp, mL_pL]
theorem zHp_pFo {x : Option Nat} (hH : zHp ρ dC dI aC M H) (h4 : zW4 ρ M) (ht : t < 12) (hi : i < mC M t) (hp : (zfp t k).1 = 3) (hq : ∀ q, q ≠ ρ t i → H1[q]? = H[q]?) (hO : t_OB (ρ t i) (dC t) (znf t) (dI t) H1 (updV (zfv ρ M t i) k (va_rf (x.map (ρ (zfp t k).2.1))))) : zHp ρ dC dI aC (pF M t i k x) H1 := by
  refine zHp_obj (k := k) hH h4 ht hi (fun _ => rfl) hq hO ?_ (fun t' i' k' _ _ e _ => zfv_pF e) (fun _ _ => rfl) (fun t' i' j e => zav_pF (fun z => e ⟨z.1, z.2.1⟩))
  unfold zfv
  simp [hp, mF_pF]
theorem zrg_sr (r : ZRg) (a b : Nat) (ha : a < 4) (hb : b < 4) (x : Option Nat) : zrg (zsr r a x) b = if b = a then x else zrg r b := by
  rcases r with ⟨r1, r2, r3, r4⟩
  have e1 : a = 0 ∨ a = 1 ∨ a = 2 ∨ a = 3 := by omega
  have e2 : b = 0 ∨ b = 1 ∨ b = 2 ∨ b = 3 := by omega
  rcases e1 with rfl | rfl | rfl | rfl <;> rcases e2 with rfl | rfl | rfl | rfl <;> rfl
/-- the four references that change, and where they lie -/
theorem zfp_4c : (List.range 12).all (fun t => (List.range (znf t)).all (fun k => !(Nat.beq (zfp t k).1 4) || (decide (t = 10 ∧ k = 1 ∧ (zfp t k).2 = (4, 0)) || decide (t = 10 ∧ k = 3 ∧ (zfp t k).2 = (4, 1)) || decide (t = 5 ∧ k = 2 ∧ (zfp t k).2 = (4, 2)) || decide (t = 8 ∧ k = 6 ∧ (zfp t k).2 = (12, 3))))) = true := by decide +kernel
theorem zfp_4 (t : Nat) (ht : t < 12) (k : Nat) (hk : k < znf t) (hp : (zfp t k).1 = 4) : (t = 10 ∧ k = 1 ∧ (zfp t k).2 = (4, 0)) ∨ (t = 10 ∧ k = 3 ∧ (zfp t k).2 = (4, 1)) ∨ (t = 5 ∧ k = 2 ∧ (zfp t k).2 = (4, 2)) ∨ (t = 8 ∧ k = 6 ∧ (zfp t k).2 = (12, 3)) := by
  have h := List.all_eq_true.mp (List.all_eq_true.mp zfp_4c t (List.mem_range.mpr ht)) k (List.mem_range.mpr hk)
  rw [hp] at h
  simp only [Bool.or_eq_true, decide_eq_true_eq] at h
  rcases h with h | ((h | h) | h) | h
  · cases h
  · exact .inl h
  · exact .inr (.inl h)
  · exact .inr (.inr (.inl h))
  · exact .inr (.inr (.inr h))
theorem zHp_pRo {x : Option Nat} (hH : zHp ρ dC dI aC M H) (h4 : zW4 ρ M) (h6 : zW6 M) (ht : t < 12) (hi : i < mC M t) (hk : k < znf t) (hp : (zfp t k).1 = 4) (hq : ∀ q, q ≠ ρ t i → H1[q]? = H[q]?) (hO : t_OB (ρ t i) (dC t) (znf t) (dI t) H1 (updV (zfv ρ M t i) k (va_rf (x.map (ρ (zfp t k).2.1))))) : zHp ρ dC dI aC (pR M (zsr (mR M) (zfp t k).2.2 x)) H1 := by
  have hr : ∀ t' k', t' < 12 → k' < znf t' → (zfp t' k').1 = 4 → (zfp t' k').2.2 < 4 := by
    intro t' k' h1 h2 h3
    rcases zfp_4 t' h1 k' h2 h3 with ⟨-, -, e⟩ | ⟨-, -, e⟩ | ⟨-, -, e⟩ | ⟨-, -, e⟩ <;> rw [e] <;> decide
  have hu : ∀ t' k', t' < 12 → k' < znf t' → (zfp t' k').1 = 4 → (zfp t' k').2.2 = (zfp t k).2.2 → t' = t ∧ k' = k := by
    intro t' k' h1 h2 h3 h5
    rcases zfp_4 t' h1 k' h2 h3 with ⟨a1, a2, e⟩ | ⟨a1, a2, e⟩ | ⟨a1, a2, e⟩ | ⟨a1, a2, e⟩ <;> rcases zfp_4 t ht k hk hp with ⟨b1, b2, e'⟩ | ⟨b1, b2, e'⟩ | ⟨b1, b2, e'⟩ | ⟨b1, b2, e'⟩ <;> rw [e, e'] at h5 <;> first | (exact ⟨a1.trans b1.symm, a2.trans b2.symm⟩) | (simp at h5)
  have h1 : mC M t ≤ 1 := by
    rcases zfp_4 t ht k hk hp with ⟨a1, -, -⟩ | ⟨a1, -, -⟩ | ⟨a1, -, -⟩ | ⟨a1, -, -⟩ <;> rw [a1]
    · exact h6.2.2.2.2.2
    · exact h6.2.2.2.2.2
    · exact h6.2.2.2.1
    · exact h6.2.2.2.2.1
  refine zHp_obj (k := k) hH h4 ht hi (fun _ => rfl) hq hO ?_ (fun t' i' k' hm hi' e hk' => ?_) (fun _ _ => rfl) (fun t' i' j e => rfl)
  · unfold zfv
    simp only [hp]
    show va_rf ((zrg (zsr (mR M) (zfp t k).2.2 x) (zfp t k).2.2).map _) = _
    rw [zrg_sr _ _ _ (hr t k ht hk hp) (hr t k ht hk hp), if_pos rfl]
  · by_cases h12 : t' < 12
    · by_cases h44 : (zfp t' k').1 = 4
      · have hne : (zfp t' k').2.2 ≠ (zfp t k).2.2 := by
          intro z
          obtain ⟨z1, z2⟩ := hu t' k' h12 hk' h44 z
          subst z1
          exact e ⟨rfl, by omega, z2⟩
        unfold zfv
        simp only [h44]
        show va_rf ((zrg (zsr (mR M) (zfp t k).2.2 x) (zfp t' k').2.2).map _) = _
        rw [zrg_sr _ _ _ (hr t k ht hk hp) (hr t' k' h12 hk' h44), if_neg hne]
      · unfold zfv
        split
        · rfl
        · rfl
        · rfl
        · rfl
        · next z => exact absurd z h44
        · rfl
    · have : znf t' = 0 := by
        unfold znf
        split <;> first | (exfalso; omega) | rfl
      omega
theorem zek_12 (h : t < 12) : zek t = 9 := by
  have e : t = 0 ∨ t = 1 ∨ t = 2 ∨ t = 3 ∨ t = 4 ∨ t = 5 ∨ t = 6 ∨ t = 7 ∨ t = 8 ∨ t = 9 ∨ t = 10 ∨ t = 11 := by omega
  rcases e with rfl | rfl | rfl | rfl | rfl | rfl | rfl | rfl | rfl | rfl | rfl | rfl <;> rfl
theorem zmt_a (h : zek t ≤ 4) : zmt t = true ∧ ¬ t < 12 := by
  refine ⟨by simp [zmt, h], fun z => ?_⟩
  rw [zek_12 z] at h
  omega
theorem zHp_pIa {x : Int} (hH : zHp ρ dC dI aC M H) (h4 : zW4 ρ M) (hi : i < mC M t) (hp : zek t = 0 ∨ zek t = 2 ∨ zek t = 3) (hq : ∀ q, q ≠ ρ t i → H1[q]? = H[q]?) (hO : H1[ρ t i]? = some (arrV (aC t) (mN M t i) (updV (zav ρ M t i) k (.int (Int32.ofInt x))))) : zHp ρ dC dI aC (pI M t i k x) H1 := by
  obtain ⟨hm, ht⟩ := zmt_a (t := t) (by omega)
  refine zHp_arr (k := k) hH h4 hm ht hi (fun _ => rfl) hq hO ?_ (fun t' i' k' e => zfv_pI (fun z => e ⟨z.1, z.2.1⟩)) (fun _ _ => rfl) (fun t' i' j e => zav_pI e)
  unfold zav
  rcases hp with hp | hp | hp <;> simp [hp, mI_pI]
theorem zHp_pLa {x : Int} (hH : zHp ρ dC dI aC M H) (h4 : zW4 ρ M) (hi : i < mC M t) (hp : zek t = 1) (hq : ∀ q, q ≠ ρ t i → H1[q]? = H[q]?) (hO : H1[ρ t i]? = some (arrV (aC t) (mN M t i) (updV (zav ρ M t i) k (.long (Int64.ofInt x))))) : zHp ρ dC dI aC (pL M t i k x) H1 := by
  obtain ⟨hm, ht⟩ := zmt_a (t := t) (by omega)
  refine zHp_arr (k := k) hH h4 hm ht hi (fun _ => rfl) hq hO ?_ (fun t' i' k' e => zfv_pL (fun z => e ⟨z.1, z.2.1⟩)) (fun _ _ => rfl) (fun t' i' j e => zav_pL e)
  unfold zav
  simp [hp, mL_pL]
theorem zHp_pFa {x : Option Nat} (hH : zHp ρ dC dI aC M H) (h4 : zW4 ρ M) (hi : i < mC M t) (hp : zek t = 4) (hq : ∀ q, q ≠ ρ t i → H1[q]? = H[q]?) (hO : H1[ρ t i]? = some (arrV (aC t) (mN M t i) (updV (zav ρ M t i) k (va_rf (x.map (ρ (ztg t))))))) : zHp ρ dC dI aC (pF M t i k x) H1 := by
  obtain ⟨hm, ht⟩ := zmt_a (t := t) (by omega)
  refine zHp_arr (k := k) hH h4 hm ht hi (fun _ => rfl) hq hO ?_ (fun t' i' k' e => zfv_pF (fun z => e ⟨z.1, z.2.1⟩)) (fun _ _ => rfl) (fun t' i' j e => zav_pF e)
  unfold zav
  simp [hp, mF_pF]
theorem zHp_cp {t1 i1 sp dp n : Nat} (hH : zHp ρ dC dI aC M H) (h4 : zW4 ρ M) (hi : i < mC M t) (hp1 : zek t1 = 0) (hp : zek t = 0) (hq : ∀ q, q ≠ ρ t i → H1[q]? = H[q]?) (hO : H1[ρ t i]? = some (arrV (aC t) (mN M t i) (fun j => .int (va_cpy (fun j => Int32.ofInt (mI M t1 i1 j)) (fun j => Int32.ofInt (mI M t i j)) sp dp n j)))) : zHp ρ dC dI aC (pCp M t1 i1 sp t i dp n) H1 := by
  obtain ⟨hm, ht⟩ := zmt_a (t := t) (by omega)
  have hI : ∀ t' i' k', mI (pCp M t1 i1 sp t i dp n) t' i' k' = if t' = t ∧ i' = i ∧ dp ≤ k' ∧ k' < dp + n then mI M t1 i1 (sp + (k' - dp)) else mI M t' i' k' := fun _ _ _ => rfl
  refine zHp_set hH h4 hm hi (fun _ => rfl) hq ⟨fun h => absurd h ht, fun _ => ?_⟩ (fun t' i' ht' hi' e => ⟨fun k' hk' => ?_, rfl, fun j _ => ?_⟩)
  · rw [hO]
    show some (arrV _ (mN M t i) _) = some (arrV _ (mN M t i) _)
    refine congrArg some (arrV_cg fun j _ => ?_)
    unfold zav va_cpy
    rw [hI]
    simp only [hp]
    by_cases h : dp ≤ j ∧ j < dp + n
    · simp [h]
    · simp [h]
  · have e2 : mI (pCp M t1 i1 sp t i dp n) t' i' k' = mI M t' i' k' := by rw [hI, if_neg (fun z => e ⟨z.1, z.2.1⟩)]
    unfold zfv
    rw [e2]
    rfl
  · have e2 : mI (pCp M t1 i1 sp t i dp n) t' i' j = mI M t' i' j := by rw [hI, if_neg (fun z => e ⟨z.1, z.2.1⟩)]
    unfold zav
    rw [e2]
    rfl
theorem zWf_pI {x : Int} (h : zWf ρ B M) (hx : zr32 x) : zWf ρ B (pI M t i k x) := by
  refine ⟨fun t' i' k' => ⟨?_, (h.1 t' i' k').2⟩, h.2⟩
  rw [mI_pI]
  split
  · exact hx
  · exact (h.1 t' i' k').1
theorem zWf_pL {x : Int} (h : zWf ρ B M) (hx : zr64 x) : zWf ρ B (pL M t i k x) := by
  refine ⟨fun t' i' k' => ⟨(h.1 t' i' k').1, ?_, (h.1 t' i' k').2.2⟩, h.2⟩
  rw [mL_pL]
  split
  · exact hx
  · exact (h.1 t' i' k').2.1
theorem zWf_cp {t1 i1 sp dp n : Nat} (h : zWf ρ B M) : zWf ρ B (pCp M t1 i1 sp t i dp n) := by
  refine ⟨fun t' i' k' => ⟨?_, (h.1 t' i' k').2⟩, h.2⟩
  show zr32 (if t' = t ∧ i' = i ∧ dp ≤ k' ∧ k' < dp + n then mI M t1 i1 (sp + (k' - dp)) else mI M t' i' k')
  split
  · exact (h.1 _ _ _).1
  · exact (h.1 t' i' k').1
theorem zWf_pF {j : Nat} (h : zWf ρ B M) (hj : j < mC M (ztf t k)) (ht : t ≠ 100) : zWf ρ B (pF M t i k (some j)) := by
  obtain ⟨h1, h2, h3, h4, h5, h6, h7, h8⟩ := h
  refine ⟨h1, fun t' i' k' j' hi' hp e => ?_, h3, h4, h5, h6, h7, ⟨h8.1, h8.2.1, h8.2.2.1, h8.2.2.2.1, h8.2.2.2.2.1, h8.2.2.2.2.2.1, fun k' hk' => ?_, h8.2.2.2.2.2.2.2⟩⟩
  · rw [mF_pF] at e
    split at e
    · next z =>
      obtain ⟨rfl, rfl, rfl⟩ := z
      cases e
      exact hj
    · exact h2 t' i' k' j' hi' hp e
  · rw [mF_pF, if_neg (fun z => ht z.1.symm)]
    exact h8.2.2.2.2.2.2.1 k' hk'
theorem zWf_pR {rg : Nat} {o : Option Nat} (h : zWf ρ B M) (hr : rg < 4) (ho : ∀ j, o = some j → j < mC M (if rg < 3 then 4 else 12)) (h5 : rg = 2 → 0 < mC M 5) (h8 : rg = 3 → 0 < mC M 8) (h10 : rg < 2 → 0 < mC M 10) : zWf ρ B (pR M (zsr (mR M) rg o)) := by
  obtain ⟨a1, a2, a3, a4, a5, a6, a7, a8⟩ := h
  have key : ∀ q, q < 4 → zrg (zsr (mR M) rg o) q = if q = rg then o else zrg (mR M) q := fun q hq => zrg_sr _ _ _ hr hq o
  have big : ∀ (r : ZRg) (q : Nat), ¬ q < 4 → zrg r q = zrg r 3 := by
    intro r q hq
    match q, hq with
    | 0, hq => omega
    | 1, hq => omega
    | 2, hq => omega
    | 3, hq => omega
    | q + 4, _ => rfl
  refine ⟨a1, a2, fun q j e => ?_, a4, a5, ⟨fun z => ?_, fun z => ?_, fun z => ⟨?_, ?_⟩, a6.2.2.2⟩, a7, a8⟩
  · change zrg (zsr (mR M) rg o) q = some j at e
    show j < mC M _
    by_cases hq : q < 4
    · rw [key q hq] at e
      split at e
      · next z => rw [z]; exact ho j e
      · exact a3 q j e
    · rw [big _ q hq, key 3 (by omega)] at e
      have hz : (if q < 3 then 4 else 12) = 12 := if_neg (by omega)
      rw [hz]
      split at e
      · next z => have := ho j e; rw [← z] at this; exact this
      · exact a3 3 j e
  · show zrg (zsr (mR M) rg o) 2 = none
    rw [key 2 (by omega)]
    split
    · next w => have := h5 w.symm; have : mC M 5 = 0 := z; omega
    · exact a6.1 z
  · show zrg (zsr (mR M) rg o) 3 = none
    rw [key 3 (by omega)]
    split
    · next w => have := h8 w.symm; have : mC M 8 = 0 := z; omega
    · exact a6.2.1 z
  · show zrg (zsr (mR M) rg o) 0 = none
    rw [key 0 (by omega)]
    split
    · next w => have := h10 (by omega); have : mC M 10 = 0 := z; omega
    · exact (a6.2.2.1 z).1
  · show zrg (zsr (mR M) rg o) 1 = none
    rw [key 1 (by omega)]
    split
    · next w => have := h10 (by omega); have : mC M 10 = 0 := z; omega
    · exact (a6.2.2.1 z).2
end ZWF
