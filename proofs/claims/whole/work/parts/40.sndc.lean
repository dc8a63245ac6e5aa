section ZCC
variable {l : Launch} {dC : Nat → ClassId} {dI : Nat → Nat → Nat} {aC : Nat → ClassId} {B sl : Nat} {sx : Nat → Int}
theorem zgdw_of {w : Jvm.Cond} (h : zgdw w = true) : (w.onTables && w.keeps) = true ∨ ∃ ty, w = .arrayClass ty := by
  rcases zor2 h with h | h
  · exact .inl h
  · right
    cases w <;> first | (cases h; done) | exact ⟨_, rfl⟩
theorem zgood {ws : List Jvm.Cond} (h : ∀ w ∈ ws, w ∈ lw_tz ∧ zgdw w = true) : GoodIn lw_tz ws := fun w hw => ⟨(h w hw).1, zgdw_of (h w hw).2⟩
theorem zgood_f : ∀ w ∈ lw_tz.filter zgdw, w ∈ lw_tz ∧ zgdw w = true := fun _ hw => List.mem_filter.mp hw
theorem zMet {n : Nat} (ih : zSnd l dC dI aC B sl sx n) {d : Nat} {tab : ZT} {nl : Nat} {y : MethodName} {cc : ByteArray} {ret : Option FieldType} {as : List ZV} {M M2 : ZM} {rv : Option ZV} {ρ : Nat → Nat → Nat}
    (hz : zex zG d tab 0 (zen nl as) [] M n = some (rv, M2)) (hchk : tab.all (fun z => zok y.cls (decide (y.name = "<init>")) nl cc z && zokr ret z.2) = true) (hpl : plainFor y = true) (hsz : zsz as ≤ nl)
    (hW : zWf ρ B M) (hk : zkc sl sx M) (hv : ∀ v, v ∈ as → zvl M v) : Met l y (.code y cc nl ret :: lw_tz.filter zgdw) { frames := d + 1, cells := zcells M2 - zcells M, slots := zslots M2 - zslots M, locals := 64 * d + 200 } (zPc dC dI aC B sl sx ρ M as) (zQc dC dI aC B sl sx ρ M rv M2) (zcells M2 - zcells M) (zslots M2 - zslots M) (zA B) := by
  refine va_MetF hpl rfl ?_
  intro p e s m args below meth c s₁ hB hml hP
  obtain ⟨hargs, hH, hc, hs, hbd, hBs⟩ := hP
  subst hargs
  have hts := atoms_spec (ws := (.code y cc nl ret :: lw_tz.filter zgdw)) hB.pre
  have htall : ∀ w ∈ lw_tz, w.before (as.map (zcv ρ)).toArray s = true := by
    intro w hw
    rcases zor2 ((List.mem_filter.mp hw).2) with z | z
    · exact hts w (List.mem_cons_of_mem _ (List.mem_filter.mpr ⟨hw, z⟩))
    · exact hbd.use hw z
  have hown : s.vm.findClass y.cls = some m.cls := findClass_of_methodNamed hB.named
  have hnm := (name_of_methodNamed hB.named hB.method).1
  rw [lg_entry_eq]
  have hlv := lv_entry (as.map (zcv ρ)) (n := nl) (by rw [zsz_len]; exact hsz)
  have key := ih hz (Q := MQ below (zQc dC dI aC B sl sx ρ M rv M2) (as.map (zcv ρ)).toArray s (zcells M2 - zcells M) (zslots M2 - zslots M) (zA B)) (ρ := ρ) (ρ0 := ρ) (M0 := M) (R := (headSpec (.code y cc nl ret :: lw_tz.filter zgdw) { frames := d + 1, cells := zcells M2 - zcells M, slots := zslots M2 - zslots M, locals := 64 * d + 200 }).room) (e := e) (below := below)
    (⟨hB.exec, hB.bytes, hml, hown, htall, fun z => by rw [hnm]; exact z⟩ : zFr y cc nl p s m (as.map (zcv ρ)).toArray meth c) hchk
    (H := s.heap) (locs := []) (⟨hH, hW, hk, hc, hs, ⟨hlv.1, hlv.2.1, fun i v hi => by have := hlv.2.2 _ (zen_nt (ρ := ρ) (i := 0) hi); simpa using this⟩, fun i v hi => hv v (zen_in hi), fun v hv => (by cases hv), hBs, ⟨Nat.le_refl _, fun _ _ _ => rfl, fun _ h => by cases h⟩⟩)
    ⟨fun _ _ _ => rfl, rfl⟩ (zmo_rf M) ⟨Nat.le_refl _, Nat.le_refl _, Nat.le_refl _, Nat.le_refl _⟩
    (fun pc' ρ' H' locs' lsC' hH' hW' hk' hag' hS' => by
      have hsame : ∀ q, q < B → H'[q]? = s.heap[q]? := fun q hq => hS'.2.1 q (Nat.lt_of_lt_of_le hq hBs) (fun z => absurd z (Nat.not_le.mpr hq))
      refine ⟨fun hd hr hv => ?_, fun x hd hx => ⟨fun hr hv => ?_, fun hr hv => ?_⟩, fun x hd hx hr hv => ?_⟩
      · exact W.vret hB.exec hB.bytes (hB.returns.trans hr) (fun t ht _ => ⟨ρ', hag', by rw [hv]; rfl, by rw [ht]; exact hH', hW', hk', fun v z => (by rw [hv] at z; cases z), by rw [ht]; exact hS'.1, by rw [ht]; exact hsame⟩) hS'.2.2 hd hB.notSynchronized
      · exact W.iret hB.exec hB.bytes (hB.returns.trans hr) (fun t ht _ => ⟨ρ', hag', by rw [hv]; rfl, by rw [ht]; exact hH', hW', hk', fun v z => by rw [hv] at z; cases z; exact hx, by rw [ht]; exact hS'.1, by rw [ht]; exact hsame⟩) hS'.2.2 hd hB.notSynchronized
      · exact zw_ret (w := Int32.ofInt (z_b1 x)) hB.exec hB.bytes (hB.returns.trans hr) (congrArg Value.int (zn_b1 hx)) (fun t ht _ => ⟨ρ', hag', by rw [hv]; rfl, by rw [ht]; exact hH', hW', hk', fun v z => by rw [hv] at z; cases z; exact z_b1_r x, by rw [ht]; exact hS'.1, by rw [ht]; exact hsame⟩) hS'.2.2 hd hB.notSynchronized
      · exact W.lret hB.exec hB.bytes (hB.returns.trans hr) (fun t ht _ => ⟨ρ', hag', by rw [hv]; rfl, by rw [ht]; exact hH', hW', hk', fun v z => by rw [hv] at z; cases z; exact hx, by rw [ht]; exact hS'.1, by rw [ht]; exact hsame⟩) hS'.2.2 hd hB.notSynchronized)
  rw [Nat.sub_self, Nat.sub_self] at key
  exact key
theorem zafter {n : Nat} (ih : zSnd l dC dI aC B sl sx n) {d : Nat} {tab : ZT} {pc : Nat} {ls : ZL} {rest : List ZV} {M M2 : ZM} {r rv : Option ZV} {M' : ZM} (h : zex zG d tab (pc + 3) ls (rv.toList ++ rest) M2 n = some (r, M'))
    {p : Program} {e : Env} {s : State} {m : MethodId} {args : Array Value} {below : List Frame} {meth : Method} {c : Code} {R : Room} {H : Heap} {locs : List Loc} {lsC : Array Slot} {ρ ρ0 : Nat → Nat → Nat} {M0 : ZM} {y : MethodName} {cc : ByteArray} {nl : Nat} {ret : Option FieldType} {Q : State → Prop} {a : Array Value} {st0 : List Value}
    (hF : zFr y cc nl p s m args meth c) (hT : tab.all (fun z => zok y.cls (decide (y.name = "<init>")) nl cc z && zokr ret z.2) = true) (hctx : zctx dC dI aC B sl sx ρ M H s ls lsC nl rest locs) (hag : zag ρ0 ρ M0) (hmo : zmo M0 M) (hm2 : zmo M M2)
    (hR : d + 1 ≤ R.frames ∧ 64 * d + 200 ≤ R.locals ∧ zcells M' - zcells M0 ≤ R.cells ∧ zslots M' - zslots M0 ≤ R.slots)
    (hret : ∀ (pc' : Nat) (ρ' : Nat → Nat → Nat) (H' : Heap) (locs' : List Loc) (lsC' : Array Slot), zHp ρ' dC dI aC M' H' → zWf ρ' B M' → zkc sl sx M' → zag ρ0 ρ' M0 → va_S (zA B) s.heap H' locs' → zRt cc pc' ret r (fun vs => W p l e R s m args below meth c H' locs' (zcells M' - zcells M0) (zslots M' - zslots M0) Q (F0 m pc' lsC' vs)))
    (hr : va_Run p l e R s m args below meth c H locs (zcells M - zcells M0) (zslots M - zslots M0) (zcells M2 - zcells M) (zslots M2 - zslots M) (F0 m pc lsC st0) (rest.map (zcv ρ)) (zQc dC dI aC B sl sx ρ M rv M2 a) (zA B)) :
    W p l e R s m args below meth c H locs (zcells M - zcells M0) (zslots M - zslots M0) Q (F0 m pc lsC st0) := by
  obtain ⟨hH, hW, hk, hc, hs, hL, hlv, hsv, hB, hS⟩ := hctx
  intro T hT2 X
  obtain ⟨v, st₀, t, T', L, h0, X', hLf, e1, e2, ⟨ρ', hag', hv, hH', hW', hk', hrv, hz, hkp⟩, st⟩ := hr T hT2 X
  have hv : v = rv.map (zcv ρ') := Outcome.returned.inj hv
  subst hv
  have c1 : zcells M0 ≤ zcells M := hmo.2.1
  have c2 : zcells M ≤ zcells M2 := hm2.2.1
  have c3 : zslots M0 ≤ zslots M := hmo.2.2.1
  have c4 : zslots M ≤ zslots M2 := hm2.2.2.1
  have e3 : (rv.map (zcv ρ')).toList ++ rest.map (zcv ρ) = (rv.toList ++ rest).map (zcv ρ') := by
    rw [List.map_append, zmap_same hag'.1 hsv]
    cases rv <;> rfl
  rw [e3] at st
  rw [h0] at hz hkp
  have key := ih h hF hT (ρ := ρ') (ρ0 := ρ0) (M0 := M0) (H := T'.heap) (locs := locs ++ L) (lsC := lsC) (R := R) (e := e) (below := below) (Q := Q)
    ⟨by rw [e1]; exact hH', hW', hk', zcs_up hW hag'.1 hag'.2 hc, hs, ⟨hL.1, hL.2.1, fun i v hi => by rw [zcv_same hag'.1 (hlv i v hi)]; exact hL.2.2 i v hi⟩, fun i v hi => zvl_up hm2.1 (hlv i v hi), fun v hv => by
      rcases List.mem_append.mp hv with z | z
      · exact hrv v (by cases rv <;> simp_all)
      · exact zvl_up hm2.1 (hsv v z), hB,
      ⟨by rw [e1]; exact Nat.le_trans hS.1 hz, fun q h1 h2 => by rw [e1, hkp q (Nat.not_le.mp h2)]; exact hS.2.1 q h1 h2, fun q hq => by
        rcases List.mem_append.mp hq with z | z
        · exact hS.2.2 q z
        · exact hLf q z⟩⟩
    ⟨fun t i hi => by rw [hag'.1 t i (Nat.lt_of_lt_of_le hi (hmo.1 t))]; exact hag.1 t i hi, hag'.2.trans hag.2⟩ (zmo_tr hmo hm2) hR hret
  rw [show zcells M - zcells M0 + (zcells M2 - zcells M) = zcells M2 - zcells M0 by omega, show zslots M - zslots M0 + (zslots M2 - zslots M) = zslots M2 - zslots M0 by omega] at X'
  obtain ⟨t2, a1, b1⟩ := key T' rfl X'
  exact ⟨t2, st t2 a1, b1⟩
theorem zcx {d n mi : Nat} {as rest : List ZV} {tab : ZT} {pc : Nat} {ls : ZL} {M : ZM} {o : ZR} (h : (zcd d fun d' => zcg (zG mi) fun tab2 nl => zbm (Nat.ble (zsz as) nl) (zcall (zex zG d' tab2 0 (zen nl as) [] M n) fun r M2 => zex zG d tab (pc + 3) ls (r.toList ++ rest) M2 n) none) = some o) :
    ∃ d' tab2 nl2 rv M2, d = d' + 1 ∧ zG mi = some (tab2, nl2) ∧ zsz as ≤ nl2 ∧ zex zG d' tab2 0 (zen nl2 as) [] M n = some (rv, M2) ∧ zex zG d tab (pc + 3) ls (rv.toList ++ rest) M2 n = some o := by
  cases d with
  | zero => cases h
  | succ d' =>
    unfold zcd at h
    dsimp only at h
    cases hg : zG mi with
    | none => rw [hg] at h; cases h
    | some q =>
      rw [hg] at h
      obtain ⟨tab2, nl2⟩ := q
      obtain ⟨hz, h⟩ := zbx h
      cases he : zex zG d' tab2 0 (zen nl2 as) [] M n with
      | none => rw [he] at h; cases h
      | some w =>
        rw [he] at h
        exact ⟨d', tab2, nl2, w.1, w.2, rfl, rfl, Nat.le_of_ble_eq_true hz, he, h⟩
end ZCC
