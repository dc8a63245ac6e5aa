section ZSTP
variable {l : Launch} {dC : Nat → ClassId} {dI : Nat → Nat → Nat} {aC : Nat → ClassId} {B sl : Nat} {sx : Nat → Int} {p : Program} {e : Env} {s : State} {m : MethodId} {args : Array Value} {below : List Frame} {meth : Method} {c : Code} {R : Room} {y : MethodName} {cc : ByteArray} {nl : Nat} {Q : State → Prop} {ρ0 : Nat → Nat → Nat} {M0 : ZM}
/-- from this place the machine comes to Q -/
def zGo (l : Launch) (dC : Nat → ClassId) (dI : Nat → Nat → Nat) (aC : Nat → ClassId) (B sl : Nat) (sx : Nat → Int) (p : Program) (e : Env) (s : State) (m : MethodId) (args : Array Value) (below : List Frame) (meth : Method) (c : Code) (R : Room) (nl : Nat) (Q : State → Prop) (ρ0 : Nat → Nat → Nat) (M0 : ZM) (pc : Nat) (ls : ZL) (st : List ZV) (M : ZM) : Prop :=
  ∀ {H : Heap} {locs : List Loc} {lsC : Array Slot} {ρ : Nat → Nat → Nat}, zctx dC dI aC B sl sx ρ M H s ls lsC nl st locs → zag ρ0 ρ M0 → W p l e R s m args below meth c H locs (zcells M - zcells M0) (zslots M - zslots M0) Q (F0 m pc lsC (st.map (zcv ρ)))
variable {pc : Nat} {ls : ZL} {st : List ZV} {M : ZM}
theorem zg_iconst (hF : zFr y cc nl p s m args meth c) {n : Int} (hok0 : zok y.cls (decide (y.name = "<init>")) nl cc (pc, .iconst n, 1, [], []) = true) (k : zGo l dC dI aC B sl sx p e s m args below meth c R nl Q ρ0 M0 (pc + 1) ls (.inl n :: st) M) : zGo l dC dI aC B sl sx p e s m args below meth c R nl Q ρ0 M0 pc ls st M := by
  intro H locs lsC ρ hC hag
  obtain ⟨hx, hb, hml, hown, hts, -⟩ := id hF
  obtain ⟨hH, hW, hk, hc, hs, hL, hlv, hsv, hB, hS⟩ := hC
  obtain ⟨hdg0, hok⟩ := zand2 hok0
  have hdg := of_decide_eq_true hdg0
  replace hok := (show (Nat.beq 1 1 && zr32b n) = true from hok)
  replace hok := zand2 hok; obtain ⟨hlen, hok⟩ := hok
  refine lv_iconst hx hb hdg rfl ?_
  exact k ⟨hH, hW, hk, hc, hs, hL, hlv, List.forall_mem_cons.mpr ⟨zr32_b hok, hsv⟩, hB, hS⟩ hag
theorem zg_dup (hF : zFr y cc nl p s m args meth c) {t : Nat} {o : Option Nat} (hok0 : zok y.cls (decide (y.name = "<init>")) nl cc (pc, .dup, 1, [], []) = true) (k : zGo l dC dI aC B sl sx p e s m args below meth c R nl Q ρ0 M0 (pc + 1) ls (.inr (.inr (t, o)) :: .inr (.inr (t, o)) :: st) M) : zGo l dC dI aC B sl sx p e s m args below meth c R nl Q ρ0 M0 pc ls (.inr (.inr (t, o)) :: st) M := by
  intro H locs lsC ρ hC hag
  obtain ⟨hx, hb, hml, hown, hts, -⟩ := id hF
  obtain ⟨hH, hW, hk, hc, hs, hL, hlv, hsv, hB, hS⟩ := hC
  obtain ⟨hdg0, hok⟩ := zand2 hok0
  have hdg := of_decide_eq_true hdg0
  replace hsv := List.forall_mem_cons.mp hsv; obtain ⟨hx1, hsv⟩ := hsv
  refine lv_dup hx hb hdg (by cases o <;> rfl) ?_
  exact k ⟨hH, hW, hk, hc, hs, hL, hlv, List.forall_mem_cons.mpr ⟨hx1, List.forall_mem_cons.mpr ⟨hx1, hsv⟩⟩, hB, hS⟩ hag
theorem zg_istore (hF : zFr y cc nl p s m args meth c) {i : Nat} {x : Int} (hok0 : zok y.cls (decide (y.name = "<init>")) nl cc (pc, .istore i, 2, [], []) = true) (k : zGo l dC dI aC B sl sx p e s m args below meth c R nl Q ρ0 M0 (pc + 2) (zse (zcl ls i) i (some (.inl x))) st M) : zGo l dC dI aC B sl sx p e s m args below meth c R nl Q ρ0 M0 pc ls (.inl x :: st) M := by
  intro H locs lsC ρ hC hag
  obtain ⟨hx, hb, hml, hown, hts, -⟩ := id hF
  obtain ⟨hH, hW, hk, hc, hs, hL, hlv, hsv, hB, hS⟩ := hC
  obtain ⟨hdg0, hok⟩ := zand2 hok0
  have hdg := of_decide_eq_true hdg0
  replace hok := (show (Nat.beq 2 2 && Nat.blt i nl) = true from hok)
  replace hok := zand2 hok; obtain ⟨hlen, hok⟩ := hok; have hok := Nat.le_of_ble_eq_true hok
  replace hsv := List.forall_mem_cons.mp hsv; obtain ⟨hx0, hsv⟩ := hsv
  refine lv_istore hx hb hdg hL.has hok rfl (fun lsC2 hL2 => ?_)
  exact k ⟨hH, hW, hk, hc, hs, zLR_s1 (x := .inl x) hL2, zlv1 hlv hx0, hsv, hB, hS⟩ hag
theorem zg_astore (hF : zFr y cc nl p s m args meth c) {i : Fin 4} {t a : Nat} (hok0 : zok y.cls (decide (y.name = "<init>")) nl cc (pc, .astore_n i, 1, [], []) = true) (k : zGo l dC dI aC B sl sx p e s m args below meth c R nl Q ρ0 M0 (pc + 1) (zse (zcl ls i) i (some (.inr (.inr (t, some a))))) st M) : zGo l dC dI aC B sl sx p e s m args below meth c R nl Q ρ0 M0 pc ls (.inr (.inr (t, some a)) :: st) M := by
  intro H locs lsC ρ hC hag
  obtain ⟨hx, hb, hml, hown, hts, -⟩ := id hF
  obtain ⟨hH, hW, hk, hc, hs, hL, hlv, hsv, hB, hS⟩ := hC
  obtain ⟨hdg0, hok⟩ := zand2 hok0
  have hdg := of_decide_eq_true hdg0
  replace hok := (show (Nat.beq 1 1 && Nat.blt i nl) = true from hok)
  replace hok := zand2 hok; obtain ⟨hlen, hok⟩ := hok; have hok := Nat.le_of_ble_eq_true hok
  replace hsv := List.forall_mem_cons.mp hsv; obtain ⟨hx0, hsv⟩ := hsv
  refine lv_astore_n hx hb hdg rfl hL.has hok rfl (fun lsC2 hL2 => ?_)
  exact k ⟨hH, hW, hk, hc, hs, zLR_s1 (x := .inr (.inr (t, some a))) hL2, zlv1 hlv hx0, hsv, hB, hS⟩ hag
theorem zg_new (hF : zFr y cc nl p s m args meth c) {idx t j : Nat} (hok0 : zok y.cls (decide (y.name = "<init>")) nl cc (pc, .new idx, 3, [t, j], []) = true) (hnw : znw M t = true) (hmo : zmo M0 M) (hR : zcells M + 1 - zcells M0 ≤ R.cells ∧ zslots M + znf t - zslots M0 ≤ R.slots) (k : zGo l dC dI aC B sl sx p e s m args below meth c R nl Q ρ0 M0 (pc + 3) ls (.inr (.inr (t, some (mC M t))) :: st) (pNew M t (znf t))) : zGo l dC dI aC B sl sx p e s m args below meth c R nl Q ρ0 M0 pc ls st M := by
  intro H locs lsC ρ hC hag
  obtain ⟨hx, hb, hml, hown, hts, -⟩ := id hF
  obtain ⟨hH, hW, hk, hc, hs, hL, hlv, hsv, hB, hS⟩ := hC
  obtain ⟨hdg0, hok⟩ := zand2 hok0
  have hdg := of_decide_eq_true hdg0
  replace hok := (show (Nat.beq 3 3 && zokn y.cls idx [t, j]) = true from hok)
  replace hok := zand2 hok; obtain ⟨hlen, hok⟩ := hok
  replace hok := zand2 hok; obtain ⟨h12, hok⟩ := hok
  have h12 := Nat.le_of_ble_eq_true h12
  cases hvw : vwCl[t]? with
  | none => rw [hvw] at hok; cases hok
  | some q =>
    rw [hvw] at hok
    obtain ⟨ty, hC, hpt, -⟩ := zclT hvw
    have hN : q.2.2 = znf t := hC.2.2.2.2
    have hm : zmt t = true := by simp [zmt, show t < 12 from h12]
    have hc1 : zcells M0 ≤ zcells M := hmo.2.1
    have hs1 : zslots M0 ≤ zslots M := hmo.2.2.1
    have hKn := hs.1 t _ hvw
    obtain ⟨hins, hini2⟩ := zinst hts hvw
    rw [hN] at hins
    refine W.newcK hx hb hown (hts _ (zlk_m hok)) hins hini2 rfl hdg (by omega) (by omega) hKn.2.1 rfl (fun H1 kC hkC e1 z1 o1 => ?_)
    have hborn := u_born ty hts hC.2.1 hKn hkC e1 hC.2.2.1
    have hnx := znx_o M t (znf t)
    obtain ⟨hctx, hold, hnew⟩ := zctx_new (H1 := H1) ⟨hH, hW, hk, hc, hs, hL, hlv, hsv, hB, hS⟩ hnx hm hnw (by omega) (fun z => absurd h12 z) z1 o1 ⟨fun _ => by
      rw [show zrn ρ t (mC M t) H.size t (mC M t) = H.size by unfold zrn; rw [if_pos ⟨rfl, rfl⟩]]
      rw [hN] at hborn
      refine hborn.to (fun k hk2 => ?_)
      have hp := hpt k (by rw [hN]; exact hk2)
      obtain ⟨f1, f2, f3⟩ := hnx.2.1 k
      unfold zfv
      rcases hp with ⟨z, hty⟩ | ⟨z, hty⟩ | ⟨z, hty⟩ | ⟨z | z, hty⟩ <;> rw [z]
      · show _ = Value.int (Int32.ofInt (mI (pNew M t (znf t)) t (mC M t) k)); rw [hty, f1]; rfl
      · show _ = Value.int (Int32.ofInt (mI (pNew M t (znf t)) t (mC M t) k)); rw [hty, f1]; rfl
      · show _ = Value.long (Int64.ofInt (mL (pNew M t (znf t)) t (mC M t) k)); rw [hty, f2]; rfl
      · show _ = va_rf ((mF (pNew M t (znf t)) t (mC M t) k).map _); rw [(hty none).2.2, f3]; rfl
      · show _ = va_rf ((zrg (mR M) (zfp t k).2.2).map _)
        rw [(hty none).2.2]
        have w6 := hW.2.2.2.2.2.1
        rcases zfp_4 t h12 k hk2 z with ⟨a1, a2, w⟩ | ⟨a1, a2, w⟩ | ⟨a1, a2, w⟩ | ⟨a1, a2, w⟩ <;> (rw [w]; subst a1; have h0 := Nat.eq_of_beq_eq_true hnw)
        · rw [(w6.2.2.1 h0).1]; rfl
        · rw [(w6.2.2.1 h0).2]; rfl
        · rw [w6.1 h0]; rfl
        · rw [w6.2.1 h0]; rfl, fun z => absurd h12 z⟩
    have e1 : zcells M - zcells M0 + 1 = zcells (pNew M t (znf t)) - zcells M0 := by show _ = zcells M + 1 - zcells M0; omega
    have e2 : zslots M - zslots M0 + znf t = zslots (pNew M t (znf t)) - zslots M0 := by show _ = zslots M + znf t - zslots M0; omega
    have e3 : Value.ref H.size :: st.map (zcv ρ) = (.inr (.inr (t, some (mC M t))) :: st : List ZV).map (zcv (zrn ρ t (mC M t) H.size)) := by
      rw [List.map_cons, zmap_same hold hsv]
      show _ = va_rf (some _) :: _
      rw [hnew]
      rfl
    show W p l e R s m args below meth c H1 locs _ _ Q (F0 m (pc + 3) lsC (Value.ref H.size :: st.map (zcv ρ)))
    rw [e1, e2, e3]
    exact k hctx ⟨fun t' i' hi' => by rw [hold t' i' (Nat.lt_of_lt_of_le hi' (hmo.1 t'))]; exact hag.1 t' i' hi', (zrn_102 hm).trans hag.2⟩
theorem zg_newl (hF : zFr y cc nl p s m args meth c) {t : Nat} {x : Int} (hok0 : zok y.cls (decide (y.name = "<init>")) nl cc (pc, .newarray .long, 2, [t], []) = true) (hz : zek t = 1) (h104 : t < 104) (hbd : 0 ≤ x ∧ x < 1000) (hmo : zmo M0 M) (hR : zcells M + 1 - zcells M0 ≤ R.cells ∧ zslots M + x.toNat - zslots M0 ≤ R.slots) (k : zGo l dC dI aC B sl sx p e s m args below meth c R nl Q ρ0 M0 (pc + 2) ls (.inr (.inr (t, some (mC M t))) :: st) (pNew (pLen M t (mC M t) x.toNat) t x.toNat)) : zGo l dC dI aC B sl sx p e s m args below meth c R nl Q ρ0 M0 pc ls (.inl x :: st) M := by
  intro H locs lsC ρ hC hag
  obtain ⟨hx, hb, hml, hown, hts, -⟩ := id hF
  obtain ⟨hH, hW, hk, hc, hs, hL, hlv, hsv, hB, hS⟩ := hC
  obtain ⟨hdg0, hok⟩ := zand2 hok0
  have hdg := of_decide_eq_true hdg0
  replace hsv := List.forall_mem_cons.mp hsv; obtain ⟨hx1, hsv⟩ := hsv
  have hc1 : zcells M0 ≤ zcells M := hmo.2.1
  have hs1 : zslots M0 ≤ zslots M := hmo.2.2.1
  have hnx := znx_a M t x.toNat x.toNat
  have hnl := znx_len M t x.toNat x.toNat
  obtain ⟨hm, h12⟩ := zmt_a (t := t) (by omega)
  have hty := zty_of (t := t) (by omega)
  have hRA := (zks_at hs h104).2
  obtain ⟨aty, hdg2⟩ : ∃ aty : ArrayType, decode cc pc = .ok (.newarray aty, 2) ∧ aty = .long := ⟨.long, hdg, rfl⟩
  obtain ⟨hdg2, haty0⟩ := hdg2
  obtain ⟨ty, haty, hty2, harr, hdef, hcb⟩ : ∃ ty, newarray.typeOf aty = ty ∧ zty t = ty ∧ (Jvm.Cond.arrayClass ty).before args s = true ∧ (∀ j, zav (zrn ρ t (mC M t) H.size) (pNew (pLen M t (mC M t) x.toNat) t x.toNat) t (mC M t) j = defaultValue ty) ∧ componentBytes ty ≤ 8 ∧ va_RA s (aC t) ty = (s.vm.findClass ("[" ++ ty.toString) = some (aC t)) := by
    rw [haty0]
    exact ⟨.long, rfl, hty.2.1 hz, hts _ (by decide +kernel), fun j => by unfold zav; rw [hz, (hnx.2.1 j).2.1]; rfl, by decide, rfl⟩
  rw [hty2, hcb.2] at hRA
  subst haty
  refine va_newaK (N := x.toNat) hx hb harr rfl hdg2 rfl (fun z => by rw [zn_lt0 hx1] at z; omega) (zn_nat hx1) (by have := hcb.1; have h8 : x.toNat * componentBytes (newarray.typeOf aty) ≤ x.toNat * 8 := Nat.mul_le_mul_left _ this; omega) (by omega) (by omega) rfl (fun H1 cA e1 z1 o1 _ hNm => ?_)
  have hcA : cA = aC t := Option.some.inj (hNm.symm.trans hRA)
  subst hcA
  obtain ⟨hctx, hold, hnew⟩ := zctx_new (H1 := H1) (st := st) ⟨hH, hW, hk, hc, hs, hL, hlv, hsv, hB, hS⟩ hnx hm (znw_a h12) h104 (fun _ => by rw [hnl]; omega) z1 o1 ⟨fun z => absurd z h12, fun _ => by
    rw [show zrn ρ t (mC M t) H.size t (mC M t) = H.size by unfold zrn; rw [if_pos ⟨rfl, rfl⟩], hnl, e1]
    exact congrArg some (arrV_cg fun j _ => (hdef j).symm)⟩
  have e1 : zcells M - zcells M0 + 1 = zcells (pNew (pLen M t (mC M t) x.toNat) t x.toNat) - zcells M0 := by show _ = zcells M + 1 - zcells M0; omega
  have e2 : zslots M - zslots M0 + x.toNat = zslots (pNew (pLen M t (mC M t) x.toNat) t x.toNat) - zslots M0 := by show _ = zslots M + x.toNat - zslots M0; omega
  have e3 : Value.ref H.size :: st.map (zcv ρ) = (.inr (.inr (t, some (mC M t))) :: st : List ZV).map (zcv (zrn ρ t (mC M t) H.size)) := by
    rw [List.map_cons, zmap_same hold hsv]
    show _ = va_rf (some _) :: _
    rw [hnew]
    rfl
  show W p l e R s m args below meth c H1 locs _ _ Q (F0 m (pc + 2) lsC (Value.ref H.size :: st.map (zcv ρ)))
  rw [e1, e2, e3]
  exact k hctx ⟨fun t' i' hi' => by rw [hold t' i' (Nat.lt_of_lt_of_le hi' (hmo.1 t'))]; exact hag.1 t' i' hi', (zrn_102 hm).trans hag.2⟩
theorem zg_after {rest : List ZV} {M2 : ZM} {rv : Option ZV} {H : Heap} {locs : List Loc} {lsC : Array Slot} {ρ : Nat → Nat → Nat} {a : Array Value} {st0 : List Value} (k : zGo l dC dI aC B sl sx p e s m args below meth c R nl Q ρ0 M0 (pc + 3) ls (rv.toList ++ rest) M2) (hctx : zctx dC dI aC B sl sx ρ M H s ls lsC nl rest locs) (hag : zag ρ0 ρ M0) (hmo : zmo M0 M) (hm2 : zmo M M2)
    (hr : va_Run p l e R s m args below meth c H locs (zcells M - zcells M0) (zslots M - zslots M0) (zcells M2 - zcells M) (zslots M2 - zslots M) (F0 m pc lsC st0) (rest.map (zcv ρ)) (zQc dC dI aC B sl sx ρ M rv M2 a) (zA B)) :
    W p l e R s m args below meth c H locs (zcells M - zcells M0) (zslots M - zslots M0) Q (F0 m pc lsC st0) := by
  obtain ⟨hH, hW, hk, hc, hs, hL, hlv, hsv, hB, hS⟩ := hctx
  intro T hT2 X
  obtain ⟨v, st₀, t, T', L, h0, X', hLf, e1, e2, ⟨ρ', hag', hv, hH', hW', hk', hrv, hz, hkp⟩, st⟩ := hr T hT2 X
  have hv : v = rv.map (zcv ρ') := Outcome.returned.inj hv
  subst hv
  have c1 : zcells M0 ≤ zcells M := hmo.2.1
  have c2 : zcells M ≤ zcells M2 := hm2.2.1
  have c3 : zslots M0 ≤ zslots M := hmo.2.2.1
  have c4 : zslots M ≤ zslots M2 := hm2.2.2.1
  have e3 : (rv.map (zcv ρ')).toList ++ rest.map (zcv ρ) = (rv.toList ++ rest).map (zcv ρ') := by
    rw [List.map_append, zmap_same hag'.1 hsv]
    cases rv <;> rfl
  rw [e3] at st
  rw [h0] at hz hkp
  have key := k (ρ := ρ') (H := T'.heap) (locs := locs ++ L) (lsC := lsC)
    ⟨by rw [e1]; exact hH', hW', hk', zcs_up hW hag'.1 hag'.2 hc, hs, ⟨hL.1, hL.2.1, fun i v hi => by rw [zcv_same hag'.1 (hlv i v hi)]; exact hL.2.2 i v hi⟩, fun i v hi => zvl_up hm2.1 (hlv i v hi), fun v hv => by
      rcases List.mem_append.mp hv with z | z
      · exact hrv v (by cases rv <;> simp_all)
      · exact zvl_up hm2.1 (hsv v z), hB,
      ⟨by rw [e1]; exact Nat.le_trans hS.1 hz, fun q h1 h2 => by rw [e1, hkp q (Nat.not_le.mp h2)]; exact hS.2.1 q h1 h2, fun q hq => by
        rcases List.mem_append.mp hq with z | z
        · exact hS.2.2 q z
        · exact hLf q z⟩⟩
    ⟨fun t i hi => by rw [hag'.1 t i (Nat.lt_of_lt_of_le hi (hmo.1 t))]; exact hag.1 t i hi, hag'.2.trans hag.2⟩
  rw [show zcells M - zcells M0 + (zcells M2 - zcells M) = zcells M2 - zcells M0 by omega, show zslots M - zslots M0 + (zslots M2 - zslots M) = zslots M2 - zslots M0 by omega] at X'
  obtain ⟨t2, a1, b1⟩ := key T' rfl X'
  exact ⟨t2, st t2 a1, b1⟩
/-- a constructor without arguments is called -/
theorem zg_init {hl : State → Prop} {n d idx mi j nest t i nl2 : Nat} {tab2 : ZT} {M2 : ZM} (hF : zFr y cc nl p s m args meth c) (hok0 : zok y.cls (decide (y.name = "<init>")) nl cc (pc, .invokespecial idx, 3, [1, mi, 1, j, nest, t], []) = true) (ih : zSnd l dC dI aC B sl sx hl n) (hck : zckm mi tab2 nl2 = true) (he : zex zG d tab2 0 (zen nl2 [.inr (.inr (t, some i))]) [] M n = some (none, M2)) (hnl : 1 ≤ nl2) (hst : st.length ≤ 4) (hmo : zmo M0 M)
    (hR : d + 2 ≤ R.frames ∧ 64 * (d + 1) + 200 ≤ R.locals ∧ zcells M2 - zcells M0 ≤ R.cells ∧ zslots M2 - zslots M0 ≤ R.slots)
    (k : zGo l dC dI aC B sl sx p e s m args below meth c R nl Q ρ0 M0 (pc + 3) ls st M2) : zGo l dC dI aC B sl sx p e s m args below meth c R nl Q ρ0 M0 pc ls (.inr (.inr (t, some i)) :: st) M := by
  intro H locs lsC ρ hC hag
  obtain ⟨hx, hb, hml, hown, hts, -⟩ := id hF
  obtain ⟨hH, hW, hk, hc, hs, hL, hlv, hsv, hB, hS⟩ := hC
  obtain ⟨hdg0, hok⟩ := zand2 hok0
  have hdg := of_decide_eq_true hdg0
  replace hok := (show (Nat.beq 3 3 && zokc y.cls idx 1 [1, mi, 1, j, nest, t]) = true from hok)
  replace hok := zand2 hok; obtain ⟨hlen, hok⟩ := hok
  replace hok := zokc_x hok
  rcases hok with ⟨mi', n0, j', ar, q, hax, hk2, -⟩ | ⟨mi', n0, j', nest', tg, ar, q, c0, hax, hq, hst2, h12, hpd, hn0, hvw, hcls, hlk, ⟨hk2, -⟩ | ⟨-, hni, hrn⟩⟩ | ⟨a, b, j', ar, hax, -, hlk⟩ | ⟨a, b, j', ar, hax, hk2, -⟩ | ⟨a, b, j', ar, hax, hk2, -⟩ | ⟨a, b, j', ar, hax, hk2, -⟩ | ⟨a, b, j', ar, hax, hk2, -⟩ | ⟨a, b, j', ar, hax, hk2, -⟩ | ⟨a, b, j', ar, hax, hk2, -⟩ <;> first | (cases hk2; done) | (cases hax; done) | skip
  cases hax
  obtain ⟨hot, hnl2, hom⟩ := zckm_x hck hq
  obtain ⟨y2, cc2, nl3, ret2, st2, js⟩ := q
  change nl3 = nl2 at hnl2
  subst hnl2
  obtain ⟨w1, w2, w3, w4, w5, w6, w7, w8, w9⟩ := zokm_x hom
  replace hsv := List.forall_mem_cons.mp hsv; obtain ⟨hv0, hsv⟩ := hsv
  have hv : ∀ v, v ∈ ([.inr (.inr (t, some i))] : List ZV) → zvl M v := fun v hv => by
    rw [List.mem_singleton] at hv
    rw [hv]
    exact hv0
  have hpd2 : (parseMethodDescriptor y2.desc).map (fun d => d.parameters.length) = some 0 := hpd
  have hcat := zcat_sum ρ st
  have hm1 := zex_mo he
  have c1 : zcells M0 ≤ zcells M := hmo.2.1
  have c2 : zcells M ≤ zcells M2 := hm1.2.1
  have c4 : zslots M0 ≤ zslots M := hmo.2.2.1
  have c5 : zslots M ≤ zslots M2 := hm1.2.2.1
  have hR3 := hR.2.2.1
  have hR4 := hR.2.2.2
  have hR1 := hR.1
  have hR2 := hR.2.1
  obtain ⟨w10, w11⟩ := w9 hst2
  change ret2 = none at hrn
  subst hrn
  change y2.name = "<init>" at hni
  have hgw : GoodIn lw_tz (Jvm.Cond.code y2 cc2 nl3 none :: lw_tz.filter zgdw) := zgood (fun w hw => by
    rcases List.mem_cons.mp hw with rfl | z
    · exact ⟨w1, rfl⟩
    · exact List.mem_filter.mp z)
  refine zg_after (rest := st) (rv := none) k ⟨hH, hW, hk, hc, hs, hL, hlv, hsv, hB, hS⟩ hag hmo hm1 (a := (Value.ref (ρ t i) :: []).toArray) ?_
  have hstk : ((.inr (.inr (t, some i)) :: st : List ZV).map (zcv ρ)) = (([] : List Value)).reverse ++ Value.ref (ρ t i) :: st.map (zcv ρ) := rfl
  rcases hlk with hlk | ⟨hlk, -⟩
  · exact va_runI (Ts := lw_tz) (own := y.cls) (cc := cc) (nL := nl) (g := F0 m pc lsC ((.inr (.inr (t, some i)) :: st : List ZV).map (zcv ρ))) (b := ρ t i) (As := []) (n := 0) ⟨hx, hb, hml, hown, hts⟩ (zMet ih he hot w4 w7 hnl hW hk hv) (cwI 0 hts hgw rfl rfl rfl (hts _ w2) (hts _ (zlk_m hlk)) (hts _ w10) hni ⟨w5, w6, hpd2⟩ ⟨show d + 1 + 1 ≤ R.frames by omega, show 8 + (nl3 + 11) + (64 * d + 200) ≤ R.locals by omega⟩) ⟨zPc_blind, (zpre (as := [.inr (.inr (t, some i))]) hH hc hs hts hB hS)⟩ rfl rfl hL.1 hstk (show 2 * 0 + ((st.map (zcv ρ)).map fun v => v.category).sum ≤ 8 by omega) hdg ⟨show zcells M - zcells M0 + (zcells M2 - zcells M) ≤ R.cells by omega, show zslots M - zslots M0 + (zslots M2 - zslots M) ≤ R.slots by omega⟩
  · exact va_runIN (host := "WakePark") (Ts := lw_tz) (own := y.cls) (cc := cc) (nL := nl) (g := F0 m pc lsC ((.inr (.inr (t, some i)) :: st : List ZV).map (zcv ρ))) (b := ρ t i) (As := []) (n := 0) ⟨hx, hb, hml, hown, hts⟩ (zMet ih he hot w4 w7 hnl hW hk hv) ⟨va_cnB 0 hts hgw rfl rfl rfl (va_tabs rfl rfl (hts _ (zlk_m hlk))) (hts _ w2) ⟨w5, w6, hpd2⟩ ⟨show d + 1 + 1 ≤ R.frames by omega, show 8 + (nl3 + 11) + (64 * d + 200) ≤ R.locals by omega⟩, hni, hts _ w10⟩ ⟨zPc_blind, (zpre (as := [.inr (.inr (t, some i))]) hH hc hs hts hB hS)⟩ rfl rfl hL.1 hstk (show 2 * 0 + ((st.map (zcv ρ)).map fun v => v.category).sum ≤ 8 by omega) hdg ⟨show zcells M - zcells M0 + (zcells M2 - zcells M) ≤ R.cells by omega, show zslots M - zslots M0 + (zslots M2 - zslots M) ≤ R.slots by omega⟩
end ZSTP
