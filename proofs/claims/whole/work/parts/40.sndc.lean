section ZCC
variable {l : Launch} {dC : Nat → ClassId} {dI : Nat → Nat → Nat} {aC : Nat → ClassId} {B sl : Nat} {sx : Nat → Int} {hl : State → Prop}
theorem zgdw_of {w : Jvm.Cond} (h : zgdw w = true) : (w.onTables && w.keeps) = true ∨ ∃ ty, w = .arrayClass ty := by
  rcases zor2 h with h | h
  · exact .inl h
  · right
    cases w <;> first | (cases h; done) | exact ⟨_, rfl⟩
theorem zgood {ws : List Jvm.Cond} (h : ∀ w ∈ ws, w ∈ lw_tz ∧ zgdw w = true) : GoodIn lw_tz ws := fun w hw => ⟨(h w hw).1, zgdw_of (h w hw).2⟩
theorem zgood_f : ∀ w ∈ lw_tz.filter zgdw, w ∈ lw_tz ∧ zgdw w = true := fun _ hw => List.mem_filter.mp hw
theorem zMet {n : Nat} (ih : zSnd l dC dI aC B sl sx hl n) {d : Nat} {tab : ZT} {nl : Nat} {y : MethodName} {cc : ByteArray} {ret : Option FieldType} {as : List ZV} {M M2 : ZM} {rv : Option ZV} {ρ : Nat → Nat → Nat}
    (hz : zex zG d tab 0 (zen nl as) [] M n = some (rv, M2)) (hchk : tab.all (fun z => zok y.cls (decide (y.name = "<init>")) nl cc z && zokr ret z.2) = true) (hpl : plainFor y = true) (hnl : y.cls ≠ "WakeParkLaw") (hsz : zsz as ≤ nl)
    (hW : zWf ρ B M) (hk : zkc sl sx M) (hv : ∀ v, v ∈ as → zvl M v) : Met l y (.code y cc nl ret :: lw_tz.filter zgdw) { frames := d + 1, cells := zcells M2 - zcells M, slots := zslots M2 - zslots M, locals := 64 * d + 200 } (zPc dC dI aC B sl sx ρ M as) (zQc dC dI aC B sl sx ρ M rv M2) (zcells M2 - zcells M) (zslots M2 - zslots M) (zA B) := by
  refine va_MetF hpl rfl ?_
  intro p e s m args below meth c s₁ hB hml hP
  obtain ⟨hargs, hH, hc, hs, hbd, hBs⟩ := hP
  subst hargs
  have hts := atoms_spec (ws := (.code y cc nl ret :: lw_tz.filter zgdw)) hB.pre
  have htall : ∀ w ∈ lw_tz, w.before (as.map (zcv ρ)).toArray s = true := by
    intro w hw
    rcases zor2 ((List.mem_filter.mp hw).2) with z | z
    · exact hts w (List.mem_cons_of_mem _ (List.mem_filter.mpr ⟨hw, z⟩))
    · exact hbd.use hw z
  have hown : s.vm.findClass y.cls = some m.cls := findClass_of_methodNamed hB.named
  have hnm := (name_of_methodNamed hB.named hB.method).1
  rw [lg_entry_eq]
  have hlv := lv_entry (as.map (zcv ρ)) (n := nl) (by rw [zsz_len]; exact hsz)
  have key := ih hz (Q := MQ below (zQc dC dI aC B sl sx ρ M rv M2) (as.map (zcv ρ)).toArray s (zcells M2 - zcells M) (zslots M2 - zslots M) (zA B)) (ρ := ρ) (ρ0 := ρ) (M0 := M) (R := (headSpec (.code y cc nl ret :: lw_tz.filter zgdw) { frames := d + 1, cells := zcells M2 - zcells M, slots := zslots M2 - zslots M, locals := 64 * d + 200 }).room) (e := e) (below := below)
    (⟨hB.exec, hB.bytes, hml, hown, htall, fun z => by rw [hnm]; exact z⟩ : zFr y cc nl p s m (as.map (zcv ρ)).toArray meth c) (fun z => absurd z hnl) (sp := fun _ => false) (fun _ _ z => by cases z) hchk
    (H := s.heap) (locs := []) (⟨hH, hW, hk, hc, hs, ⟨hlv.1, hlv.2.1, fun i v hi => by have := hlv.2.2 _ (zen_nt (ρ := ρ) (i := 0) hi); simpa using this⟩, fun i v hi => hv v (zen_in hi), fun v hv => (by cases hv), hBs, ⟨Nat.le_refl _, fun _ _ _ => rfl, fun _ h => by cases h⟩⟩)
    ⟨fun _ _ _ => rfl, rfl⟩ (zmo_rf M) ⟨Nat.le_refl _, Nat.le_refl _, Nat.le_refl _, Nat.le_refl _⟩
    (fun pc' ρ' H' locs' lsC' hH' hW' hk' hag' hS' => by
      have hsame : ∀ q, q < B → H'[q]? = s.heap[q]? := fun q hq => hS'.2.1 q (Nat.lt_of_lt_of_le hq hBs) (fun z => absurd z (Nat.not_le.mpr hq))
      refine ⟨⟨fun hd hr hv => ?_, fun x hd hx => ⟨fun hr hv => ?_, fun hr hv => ?_⟩, fun x hd hx hr hv => ?_⟩, fun z => by cases z⟩
      · exact W.vret hB.exec hB.bytes (hB.returns.trans hr) (fun t ht _ => ⟨ρ', hag', by rw [hv]; rfl, by rw [ht]; exact hH', hW', hk', fun v z => (by rw [hv] at z; cases z), by rw [ht]; exact hS'.1, by rw [ht]; exact hsame⟩) hS'.2.2 hd hB.notSynchronized
      · exact W.iret hB.exec hB.bytes (hB.returns.trans hr) (fun t ht _ => ⟨ρ', hag', by rw [hv]; rfl, by rw [ht]; exact hH', hW', hk', fun v z => by rw [hv] at z; cases z; exact hx, by rw [ht]; exact hS'.1, by rw [ht]; exact hsame⟩) hS'.2.2 hd hB.notSynchronized
      · exact zw_ret (w := Int32.ofInt (z_b1 x)) hB.exec hB.bytes (hB.returns.trans hr) (congrArg Value.int (zn_b1 hx)) (fun t ht _ => ⟨ρ', hag', by rw [hv]; rfl, by rw [ht]; exact hH', hW', hk', fun v z => by rw [hv] at z; cases z; exact z_b1_r x, by rw [ht]; exact hS'.1, by rw [ht]; exact hsame⟩) hS'.2.2 hd hB.notSynchronized
      · exact W.lret hB.exec hB.bytes (hB.returns.trans hr) (fun t ht _ => ⟨ρ', hag', by rw [hv]; rfl, by rw [ht]; exact hH', hW', hk', fun v z => by rw [hv] at z; cases z; exact hx, by rw [ht]; exact hS'.1, by rw [ht]; exact hsame⟩) hS'.2.2 hd hB.notSynchronized)
  rw [Nat.sub_self, Nat.sub_self] at key
  exact key
theorem zafter {n : Nat} (ih : zSnd l dC dI aC B sl sx hl n) {d : Nat} {tab : ZT} {pc : Nat} {ls : ZL} {rest : List ZV} {M M2 : ZM} {r rv : Option ZV} {M' : ZM} (h : zex zG d tab (pc + 3) ls (rv.toList ++ rest) M2 n = some (r, M'))
    {p : Program} {e : Env} {s : State} {m : MethodId} {args : Array Value} {below : List Frame} {meth : Method} {c : Code} {R : Room} {H : Heap} {locs : List Loc} {lsC : Array Slot} {ρ ρ0 : Nat → Nat → Nat} {M0 : ZM} {y : MethodName} {cc : ByteArray} {nl : Nat} {ret : Option FieldType} {Q : State → Prop} {a : Array Value} {st0 : List Value} {sp : Nat → Bool}
    (hF : zFr y cc nl p s m args meth c) (hd5 : y.cls = "WakeParkLaw" → hl s ∧ 20 ≤ d) (hsp : ∀ z ∈ tab, sp z.1 = true → z.2.1 = .return_) (hT : tab.all (fun z => sp z.1 || (zok y.cls (decide (y.name = "<init>")) nl cc z && zokr ret z.2)) = true) (hctx : zctx dC dI aC B sl sx ρ M H s ls lsC nl rest locs) (hag : zag ρ0 ρ M0) (hmo : zmo M0 M) (hm2 : zmo M M2)
    (hR : d + 1 ≤ R.frames ∧ 64 * d + 200 ≤ R.locals ∧ zcells M' - zcells M0 ≤ R.cells ∧ zslots M' - zslots M0 ≤ R.slots)
    (hret : ∀ (pc' : Nat) (ρ' : Nat → Nat → Nat) (H' : Heap) (locs' : List Loc) (lsC' : Array Slot), zHp ρ' dC dI aC M' H' → zWf ρ' B M' → zkc sl sx M' → zag ρ0 ρ' M0 → va_S (zA B) s.heap H' locs' → zRt cc pc' ret r (fun vs => W p l e R s m args below meth c H' locs' (zcells M' - zcells M0) (zslots M' - zslots M0) Q (F0 m pc' lsC' vs)) ∧ (sp pc' = true → r = none → lsC'.size = nl → W p l e R s m args below meth c H' locs' (zcells M' - zcells M0) (zslots M' - zslots M0) Q (F0 m pc' lsC' [])))
    (hr : va_Run p l e R s m args below meth c H locs (zcells M - zcells M0) (zslots M - zslots M0) (zcells M2 - zcells M) (zslots M2 - zslots M) (F0 m pc lsC st0) (rest.map (zcv ρ)) (zQc dC dI aC B sl sx ρ M rv M2 a) (zA B)) :
    W p l e R s m args below meth c H locs (zcells M - zcells M0) (zslots M - zslots M0) Q (F0 m pc lsC st0) := by
  obtain ⟨hH, hW, hk, hc, hs, hL, hlv, hsv, hB, hS⟩ := hctx
  intro T hT2 X
  obtain ⟨v, st₀, t, T', L, h0, X', hLf, e1, e2, ⟨ρ', hag', hv, hH', hW', hk', hrv, hz, hkp⟩, st⟩ := hr T hT2 X
  have hv : v = rv.map (zcv ρ') := Outcome.returned.inj hv
  subst hv
  have c1 : zcells M0 ≤ zcells M := hmo.2.1
  have c2 : zcells M ≤ zcells M2 := hm2.2.1
  have c3 : zslots M0 ≤ zslots M := hmo.2.2.1
  have c4 : zslots M ≤ zslots M2 := hm2.2.2.1
  have e3 : (rv.map (zcv ρ')).toList ++ rest.map (zcv ρ) = (rv.toList ++ rest).map (zcv ρ') := by
    rw [List.map_append, zmap_same hag'.1 hsv]
    cases rv <;> rfl
  rw [e3] at st
  rw [h0] at hz hkp
  have key := ih h hF hd5 hsp hT (ρ := ρ') (ρ0 := ρ0) (M0 := M0) (H := T'.heap) (locs := locs ++ L) (lsC := lsC) (R := R) (e := e) (below := below) (Q := Q)
    ⟨by rw [e1]; exact hH', hW', hk', zcs_up hW hag'.1 hag'.2 hc, hs, ⟨hL.1, hL.2.1, fun i v hi => by rw [zcv_same hag'.1 (hlv i v hi)]; exact hL.2.2 i v hi⟩, fun i v hi => zvl_up hm2.1 (hlv i v hi), fun v hv => by
      rcases List.mem_append.mp hv with z | z
      · exact hrv v (by cases rv <;> simp_all)
      · exact zvl_up hm2.1 (hsv v z), hB,
      ⟨by rw [e1]; exact Nat.le_trans hS.1 hz, fun q h1 h2 => by rw [e1, hkp q (Nat.not_le.mp h2)]; exact hS.2.1 q h1 h2, fun q hq => by
        rcases List.mem_append.mp hq with z | z
        · exact hS.2.2 q z
        · exact hLf q z⟩⟩
    ⟨fun t i hi => by rw [hag'.1 t i (Nat.lt_of_lt_of_le hi (hmo.1 t))]; exact hag.1 t i hi, hag'.2.trans hag.2⟩ (zmo_tr hmo hm2) hR hret
  rw [show zcells M - zcells M0 + (zcells M2 - zcells M) = zcells M2 - zcells M0 by omega, show zslots M - zslots M0 + (zslots M2 - zslots M) = zslots M2 - zslots M0 by omega] at X'
  obtain ⟨t2, a1, b1⟩ := key T' rfl X'
  exact ⟨t2, st t2 a1, b1⟩
theorem zcx {d n mi : Nat} {as rest : List ZV} {tab : ZT} {pc : Nat} {ls : ZL} {M : ZM} {o : ZR} (h : (zcd d fun d' => zcg (zG mi) fun tab2 nl => zbm (Nat.ble (zsz as) nl) (zcall (zex zG d' tab2 0 (zen nl as) [] M n) fun r M2 => zex zG d tab (pc + 3) ls (r.toList ++ rest) M2 n) none) = some o) :
    ∃ d' tab2 nl2 rv M2, d = d' + 1 ∧ zG mi = some (tab2, nl2) ∧ zsz as ≤ nl2 ∧ zex zG d' tab2 0 (zen nl2 as) [] M n = some (rv, M2) ∧ zex zG d tab (pc + 3) ls (rv.toList ++ rest) M2 n = some o := by
  cases d with
  | zero => cases h
  | succ d' =>
    unfold zcd at h
    dsimp only at h
    cases hg : zG mi with
    | none => rw [hg] at h; cases h
    | some q =>
      rw [hg] at h
      obtain ⟨tab2, nl2⟩ := q
      obtain ⟨hz, h⟩ := zbx h
      cases he : zex zG d' tab2 0 (zen nl2 as) [] M n with
      | none => rw [he] at h; cases h
      | some w =>
        rw [he] at h
        exact ⟨d', tab2, nl2, w.1, w.2, rfl, rfl, Nat.le_of_ble_eq_true hz, he, h⟩
theorem zokm_x {y : MethodName} {cc : ByteArray} {nl : Nat} {ret : Option FieldType} {st : Bool} {js : List Nat} (h : zokm (y, cc, nl, ret, st, js) = true) :
    (Jvm.Cond.code y cc nl ret ∈ lw_tz) ∧ (Jvm.Cond.initialized y.cls ∈ lw_tz) ∧ nl ≤ 21 ∧ plainFor y = true ∧ y.cls ≠ "java/lang/invoke/MethodHandle" ∧ y.cls ≠ "java/lang/invoke/VarHandle" ∧ y.cls ≠ "WakeParkLaw" ∧ (st = true → Jvm.Cond.static y ∈ lw_tz) ∧ (st = false → Jvm.Cond.instanceMethod y ∈ lw_tz ∧ (y.name ≠ "<init>" → Jvm.Cond.selects y.cls y y ∈ lw_tz)) := by
  rcases js with _ | ⟨j0, _ | ⟨j1, _ | ⟨j2, r⟩⟩⟩ <;> first | (cases h; done) | skip
  obtain ⟨h, h8⟩ := zand2 h
  obtain ⟨h, h7⟩ := zand2 h
  obtain ⟨h, h6⟩ := zand2 h
  obtain ⟨h, h5⟩ := zand2 h
  obtain ⟨h, h4⟩ := zand2 h
  obtain ⟨h, h3⟩ := zand2 h
  obtain ⟨h1, h2⟩ := zand2 h
  refine ⟨zlk_m h1, zlk_m h2, Nat.le_of_ble_eq_true h3, h4, of_decide_eq_true h5, of_decide_eq_true h6, of_decide_eq_true h7, fun z => ?_, fun z => ?_⟩
  · subst z
    exact zlk_m h8
  · subst z
    obtain ⟨a, b⟩ := zand2 h8
    refine ⟨zlk_m a, fun hn => ?_⟩
    cases r with
    | nil => exact absurd (of_decide_eq_true (zand2 b).1) hn
    | cons j3 r => exact zlk_m b
theorem zckm_x {mi : Nat} {tab : ZT} {nl : Nat} {q : ZI} (h : zckm mi tab nl = true) (hq : zmi mi = some q) : zokt q tab = true ∧ q.2.2.1 = nl ∧ zokm q = true := by
  unfold zckm at h
  rw [hq] at h
  obtain ⟨h, h3⟩ := zand2 h
  obtain ⟨h1, h2⟩ := zand2 h
  exact ⟨h1, Nat.eq_of_beq_eq_true h2, h3⟩
theorem zokc_x {own : String} {idx k : Nat} {ax : List Nat} (h : zokc own idx k ax = true) :
    (∃ mi n j r q, ax = 0 :: mi :: n :: j :: r ∧ k = 2 ∧ zmi mi = some q ∧ q.2.2.2.2.1 = true ∧ zlk j (.methodLink own idx q.1) = true ∧ (parseMethodDescriptor q.1.desc).map (fun d => d.parameters.length) = some n) ∨
    (∃ mi n j nest tg r q c, ax = 1 :: mi :: n :: j :: nest :: tg :: r ∧ zmi mi = some q ∧ q.2.2.2.2.1 = false ∧ tg < 12 ∧ (parseMethodDescriptor q.1.desc).map (fun d => d.parameters.length) = some (n - 1) ∧ 0 < n ∧ vwCl[tg]? = some c ∧ q.1.cls = c.1 ∧ (zlk j (.methodLink own idx q.1) = true ∨ (zlk j (.methodLinkNest own idx q.1 "WakePark") = true ∧ k = 1)) ∧ ((k = 0 ∧ q.1.name ≠ "<init>") ∨ (k = 1 ∧ q.1.name = "<init>" ∧ q.2.2.2.1 = none))) ∨
    (∃ a b j r, ax = 2 :: a :: b :: j :: r ∧ k = 1 ∧ zlk j (.methodLink own idx Lib.objectInit) = true) ∨
    (∃ a b j r, ax = 3 :: a :: b :: j :: r ∧ k = 2 ∧ zlk j (.methodLink own idx arraycopyName) = true) ∨
    (∃ a b j r, ax = 4 :: a :: b :: j :: r ∧ k = 0 ∧ zlk j (.methodLink own idx ⟨"WakePark$Word", "ordinal", "()I"⟩) = true) ∨
    (∃ a b j r, ax = 5 :: a :: b :: j :: r ∧ k = 2 ∧ zlk j (.methodLink own idx yL_rests) = true ∧ own = "WakeParkLaw") ∨
    (∃ a b j r, ax = 6 :: a :: b :: j :: r ∧ k = 2 ∧ zlk j (.methodLink own idx Lib.Math.max.name) = true) ∨
    (∃ a b j r, ax = 7 :: a :: b :: j :: r ∧ k = 2 ∧ zlk j (.methodLink own idx Lib.Math.min.name) = true) ∨
    (∃ a b j r, ax = 8 :: a :: b :: j :: r ∧ k = 2 ∧ zlk j (.methodLink own idx Lib.Math.abs.name) = true) := by
  unfold zokc at h
  split at h
  · next mi n j r =>
    obtain ⟨hk, h⟩ := zand2 h
    split at h
    · next q hq =>
      obtain ⟨h, h3⟩ := zand2 h
      obtain ⟨h1, h2⟩ := zand2 h
      exact .inl ⟨mi, n, j, r, q, rfl, Nat.eq_of_beq_eq_true hk, hq, h1, h2, of_decide_eq_true h3⟩
    · cases h
  · next mi n j nest tg r =>
    split at h
    · next q hq =>
      obtain ⟨h, h7⟩ := zand2 h
      obtain ⟨h, h6⟩ := zand2 h
      obtain ⟨h, h5⟩ := zand2 h
      obtain ⟨h, h4⟩ := zand2 h
      obtain ⟨h, h3⟩ := zand2 h
      obtain ⟨h1, h2⟩ := zand2 h
      cases hv : vwCl[tg]? with
      | none => rw [hv] at h5; cases h5
      | some c =>
        rw [hv] at h5
        refine .inr (.inl ⟨mi, n, j, nest, tg, r, q, c, rfl, hq, by simpa using h1, Nat.le_of_ble_eq_true h2, of_decide_eq_true h3, Nat.le_of_ble_eq_true h4, hv, of_decide_eq_true h5, ?_, ?_⟩)
        · split at h6
          · exact .inl h6
          · obtain ⟨a, b⟩ := zand2 h6
            exact .inr ⟨a, Nat.eq_of_beq_eq_true b⟩
        · split at h7
          · exact .inl ⟨rfl, of_decide_eq_true h7⟩
          · obtain ⟨a, b⟩ := zand2 h7
            exact .inr ⟨rfl, of_decide_eq_true a, of_decide_eq_true b⟩
          · cases h7
    · cases h
  · next a b j r => obtain ⟨h1, h2⟩ := zand2 h; exact .inr (.inr (.inl ⟨a, b, j, r, rfl, Nat.eq_of_beq_eq_true h1, h2⟩))
  · next a b j r => obtain ⟨h1, h2⟩ := zand2 h; exact .inr (.inr (.inr (.inl ⟨a, b, j, r, rfl, Nat.eq_of_beq_eq_true h1, h2⟩)))
  · next a b j r => obtain ⟨h1, h2⟩ := zand2 h; exact .inr (.inr (.inr (.inr (.inl ⟨a, b, j, r, rfl, Nat.eq_of_beq_eq_true h1, h2⟩))))
  · next a b j r => obtain ⟨h, h3⟩ := zand2 h; obtain ⟨h1, h2⟩ := zand2 h; exact .inr (.inr (.inr (.inr (.inr (.inl ⟨a, b, j, r, rfl, Nat.eq_of_beq_eq_true h1, h2, of_decide_eq_true h3⟩)))))
  · next a b j r => obtain ⟨h1, h2⟩ := zand2 h; exact .inr (.inr (.inr (.inr (.inr (.inr (.inl ⟨a, b, j, r, rfl, Nat.eq_of_beq_eq_true h1, h2⟩))))))
  · next a b j r => obtain ⟨h1, h2⟩ := zand2 h; exact .inr (.inr (.inr (.inr (.inr (.inr (.inr (.inl ⟨a, b, j, r, rfl, Nat.eq_of_beq_eq_true h1, h2⟩)))))))
  · next a b j r => obtain ⟨h1, h2⟩ := zand2 h; exact .inr (.inr (.inr (.inr (.inr (.inr (.inr (.inr ⟨a, b, j, r, rfl, Nat.eq_of_beq_eq_true h1, h2⟩)))))))
  · cases h
theorem zpre {ρ : Nat → Nat → Nat} {M : ZM} {H : Heap} {s : State} {args : Array Value} {locs : List Loc} {as : List ZV} (hH : zHp ρ dC dI aC M H) (hc : zcs ρ B sl sx s s.heap) (hs : zks dC dI aC s) (hts : ∀ w ∈ lw_tz, w.before args s = true) (hB : B ≤ s.heap.size) (hS : va_S (zA B) s.heap H locs) :
    ∀ U : State, U.heap = H → s.WarmedH U.vm → zPc dC dI aC B sl sx ρ M as (as.map (zcv ρ)).toArray U := by
  intro U hU hWm
  refine ⟨rfl, by rw [hU]; exact hH, ?_, va_K.moved hWm.alike hs, (zbad.of hts).moved hWm, by rw [hU]; exact Nat.le_trans hB hS.1⟩
  rw [hU]
  exact zcs.moved hWm.alike (zcs.kept hc hS.2.1)
end ZCC
