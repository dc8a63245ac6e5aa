section ZMAIN
def zag (ρ0 ρ : Nat → Nat → Nat) (M0 : ZM) : Prop := (∀ t i, i < mC M0 t → ρ t i = ρ0 t i) ∧ ρ 102 0 = ρ0 102 0
/-- the frame: which method runs, in which state -/
def zFr (y : MethodName) (cc : ByteArray) (nl : Nat) (p : Program) (s : State) (m : MethodId) (args : Array Value) (meth : Method) (c : Code) : Prop :=
  p.tables.exec = Jvm.exec ∧ c.code = cc ∧ c.maxLocals = nl ∧ s.vm.findClass y.cls = some m.cls ∧ (∀ w ∈ lw_tz, w.before args s = true) ∧ (y.name = "<init>" → meth.name = "<init>")
/-- our state and the machine's -/
def zctx (dC : Nat → ClassId) (dI : Nat → Nat → Nat) (aC : Nat → ClassId) (B sl : Nat) (sx : Nat → Int) (ρ : Nat → Nat → Nat) (M : ZM) (H : Heap) (s : State) (ls : ZL) (lsC : Array Slot) (nl : Nat) (st : List ZV) (locs : List Loc) : Prop :=
  zHp ρ dC dI aC M H ∧ zWf ρ B M ∧ zkc sl sx M ∧ zcs ρ B sl sx s s.heap ∧ zks dC dI aC s ∧ zLR ρ ls lsC nl ∧ (∀ i v, znt ls i = some v → zvl M v) ∧ (∀ v, v ∈ st → zvl M v) ∧ B ≤ s.heap.size ∧ va_S (zA B) s.heap H locs
/-- what is wanted where the method returns -/
def zRt (cc : ByteArray) (pc : Nat) (ret : Option FieldType) (r : Option ZV) (WW : List Value → Prop) : Prop :=
  (decode cc pc = .ok (.return_, 1) → ret = none → r = none → WW []) ∧
  (∀ x, decode cc pc = .ok (.ireturn, 1) → zr32 x → (ret = some .int → r = some (.inl x) → WW [.int (Int32.ofInt x)]) ∧ (ret = some .boolean → r = some (.inl (z_b1 x)) → WW [.int (Int32.ofInt x)])) ∧
  (∀ x, decode cc pc = .ok (.lreturn, 1) → zr64 x → ret = some .long → r = some (.inr (.inl x)) → WW [.long (Int64.ofInt x)])
def zcells (M : ZM) : Nat := M.2.2.2.2.1
def zslots (M : ZM) : Nat := M.2.2.2.2.2
/-- the law's rests, called: proved apart -/
def zR5 (l : Launch) (dC : Nat → ClassId) (dI : Nat → Nat → Nat) (aC : Nat → ClassId) (B sl : Nat) (sx : Nat → Int) (hl : State → Prop) : Prop :=
  ∀ {p : Program} {e : Env} {s : State} {m : MethodId} {args : Array Value} {below : List Frame} {meth : Method} {c : Code} {R : Room} {H : Heap} {locs : List Loc} {cells slots : Nat} {lsC : Array Slot} {Q : State → Prop} {y : MethodName} {cc : ByteArray} {nl pc idx : Nat} {ρ : Nat → Nat → Nat} {M : ZM} {x o : Nat} {p0 p1 p2 p3 : Int} {rest : List Value},
  hl s → zFr y cc nl p s m args meth c → lsC.size = nl → y.cls = "WakeParkLaw" → decode cc pc = .ok (.invokestatic idx, 3) → (Jvm.Cond.methodLink y.cls idx yL_rests).before args s = true → zr32 p0 → zr32 p1 → zr32 p2 → zr32 p3 → (rest.map fun v => v.category).sum ≤ 8 →
  20 ≤ R.frames → 1400 ≤ R.locals → (zrt p0 p1 p2 p3 = 1 → cells + 1 ≤ R.cells ∧ slots + 6 ≤ R.slots) → cells ≤ R.cells → slots ≤ R.slots →
  zHp ρ dC dI aC M H → zWf ρ B M → zkc sl sx M → zcs ρ B sl sx s s.heap → zks dC dI aC s → B ≤ s.heap.size → va_S (zA B) s.heap H locs → x < mC M 10 → o < mC M 103 → 1 ≤ mN M 103 o →
  (zrt p0 p1 p2 p3 = 1 → ∀ (H1 : Heap) (L : List Loc), H.size ≤ H1.size → (∀ q, q < H.size → H1[q]? = H[q]?) → (∀ q ∈ L, zA B q.base) → W p l e R s m args below meth c H1 (locs ++ L) (cells + 1) (slots + 6) Q (F0 m (pc + 3) lsC (.int 1 :: rest))) →
  (¬ zrt p0 p1 p2 p3 = 1 → ∀ (H1 : Heap) (L : List Loc), zr64 (zrv p0 p1 p2 p3) → H1.size = H.size → (∀ q, q ≠ ρ 103 o → H1[q]? = H[q]?) → H1[ρ 103 o]? = some (arrV (aC 103) (mN M 103 o) (updV (zav ρ M 103 o) 0 (.long (Int64.ofInt (zrv p0 p1 p2 p3))))) → (∀ q ∈ L, zA B q.base) → W p l e R s m args below meth c H1 (locs ++ L) cells slots Q (F0 m (pc + 3) lsC (.int 0 :: rest))) →
  W p l e R s m args below meth c H locs cells slots Q (F0 m pc lsC (.ref (ρ 103 o) :: .int (Int32.ofInt p3) :: .int (Int32.ofInt p2) :: .int (Int32.ofInt p1) :: .int (Int32.ofInt p0) :: .ref (ρ 10 x) :: rest))
/-- the place of a word, called: proved apart -/
def zR4 (l : Launch) (B sl : Nat) (sx : Nat → Int) : Prop :=
  ∀ {p : Program} {e : Env} {s : State} {m : MethodId} {args : Array Value} {below : List Frame} {meth : Method} {c : Code} {R : Room} {H : Heap} {locs : List Loc} {cells slots : Nat} {lsC : Array Slot} {Q : State → Prop} {y : MethodName} {cc : ByteArray} {nl pc idx : Nat} {ρ : Nat → Nat → Nat} {i : Nat} {rest : List Value},
  zFr y cc nl p s m args meth c → lsC.size = nl → decode cc pc = .ok (.invokevirtual idx, 3) → (Jvm.Cond.methodLink y.cls idx ⟨"WakePark$Word", "ordinal", "()I"⟩).before args s = true → (rest.map fun v => v.category).sum ≤ 8 →
  1 ≤ R.frames → 200 ≤ R.locals → cells ≤ R.cells → slots ≤ R.slots → zcs ρ B sl sx s s.heap → B ≤ s.heap.size → va_S (zA B) s.heap H locs → i < 30 →
  W p l e R s m args below meth c H locs cells slots Q (F0 m (pc + 3) lsC (.int (Int32.ofInt (zKI sx 12 i 2)) :: rest)) →
  W p l e R s m args below meth c H locs cells slots Q (F0 m pc lsC (.ref (ρ 12 i) :: rest))
/-- what the own machine does in n steps, the machine does -/
def zSnd (l : Launch) (dC : Nat → ClassId) (dI : Nat → Nat → Nat) (aC : Nat → ClassId) (B sl : Nat) (sx : Nat → Int) (hl : State → Prop) (n : Nat) : Prop :=
  ∀ {d : Nat} {tab : ZT} {pc : Nat} {ls : ZL} {st : List ZV} {M : ZM} {r : Option ZV} {M' : ZM}, zex zG d tab pc ls st M n = some (r, M') →
  ∀ {p : Program} {e : Env} {s : State} {m : MethodId} {args : Array Value} {below : List Frame} {meth : Method} {c : Code} {R : Room} {H : Heap} {locs : List Loc} {lsC : Array Slot} {ρ ρ0 : Nat → Nat → Nat} {M0 : ZM} {y : MethodName} {cc : ByteArray} {nl : Nat} {ret : Option FieldType} {Q : State → Prop} {sp : Nat → Bool},
  zFr y cc nl p s m args meth c → (y.cls = "WakeParkLaw" → hl s ∧ 20 ≤ d) → (∀ z ∈ tab, sp z.1 = true → z.2.1 = .return_) → tab.all (fun z => sp z.1 || (zok y.cls (decide (y.name = "<init>")) nl cc z && zokr ret z.2)) = true → zctx dC dI aC B sl sx ρ M H s ls lsC nl st locs → zag ρ0 ρ M0 → zmo M0 M →
  (d + 1 ≤ R.frames ∧ 64 * d + 200 ≤ R.locals ∧ zcells M' - zcells M0 ≤ R.cells ∧ zslots M' - zslots M0 ≤ R.slots) →
  (∀ (pc' : Nat) (ρ' : Nat → Nat → Nat) (H' : Heap) (locs' : List Loc) (lsC' : Array Slot), zHp ρ' dC dI aC M' H' → zWf ρ' B M' → zkc sl sx M' → zag ρ0 ρ' M0 → va_S (zA B) s.heap H' locs' → zRt cc pc' ret r (fun vs => W p l e R s m args below meth c H' locs' (zcells M' - zcells M0) (zslots M' - zslots M0) Q (F0 m pc' lsC' vs)) ∧ (sp pc' = true → r = none → lsC'.size = nl → W p l e R s m args below meth c H' locs' (zcells M' - zcells M0) (zslots M' - zslots M0) Q (F0 m pc' lsC' []))) →
  W p l e R s m args below meth c H locs (zcells M - zcells M0) (zslots M - zslots M0) Q (F0 m pc lsC (st.map (zcv ρ)))
theorem zor2 {a b : Bool} (h : (a || b) = true) : a = true ∨ b = true := by simpa using h
theorem zek_4 {t : Nat} (h : zek t = 4) : t = 46 ∨ t = 47 ∨ t = 48 := by
  unfold zek at h
  split at h <;> first | (cases h; done) | (simp; done) | skip
  split at h <;> cases h
theorem zek_5 {t : Nat} (h : zek t = 5) : t = 101 ∨ t = 102 := by
  unfold zek at h
  split at h <;> first | (cases h; done) | (simp; done) | skip
  split at h <;> cases h
theorem zek_6 {t : Nat} (h : zek t = 6) : t = 100 := by
  unfold zek at h
  split at h <;> first | (cases h; done) | rfl | skip
  split at h <;> cases h
theorem zty_4 {t : Nat} (h : zek t = 4) : (zty t).isReference = true := by
  rcases zek_4 h with rfl | rfl | rfl <;> rfl
theorem zcar {ρ : Nat → Nat → Nat} {B sl t i : Nat} {sx : Nat → Int} {M : ZM} {s : State} (hW : zWf ρ B M) (hk : zkc sl sx M) (hc : zcs ρ B sl sx s s.heap) (hz : zek t = 5) (hi : i < mC M t) : ∃ N, ∃ f : Nat → Value, va_T .int (ρ t i) N f (zA B) s s.heap ∧ mN M t i = N ∧ ∀ j, j < N → f j = .int (Int32.ofInt (mKI M t i j)) := by
  have w8 := hW.2.2.2.2.2.2.2
  rcases zek_5 hz with rfl | rfl
  · have h0 : i = 0 := by rw [w8.2.2.1] at hi; omega
    subst h0
    exact ⟨30, _, hc.2.2.2.2.2.2.2.2.1, w8.2.2.2.2.2.1, fun j hj => by rw [hk.1]⟩
  · have h0 : i = 0 := by have := w8.2.2.2.1; omega
    subst h0
    exact ⟨sl, _, hc.2.2.2.2.2.2.2.2.2.1, hk.2.2 (by have := w8.2.2.2.1; omega), fun j hj => by rw [hk.1]⟩
section ZCN
variable {dC : Nat → ClassId} {dI : Nat → Nat → Nat} {aC : Nat → ClassId} {B sl : Nat} {sx : Nat → Int} {ρ : Nat → Nat → Nat} {M M1 : ZM} {H H1 : Heap} {s : State} {ls : ZL} {lsC : Array Slot} {nl : Nat} {st : List ZV} {locs : List Loc} {t : Nat}
theorem zcv_same {ρ' : Nat → Nat → Nat} (h : ∀ t i, i < mC M t → ρ' t i = ρ t i) {v : ZV} (hv : zvl M v) : zcv ρ' v = zcv ρ v := by
  rcases v with x | x | ⟨t, o⟩
  · rfl
  · rfl
  · cases o with
    | none => rfl
    | some i => show va_rf (some _) = va_rf (some _); rw [h t i (hv i rfl)]
theorem zvl_up (h : ∀ t, mC M t ≤ mC M1 t) {v : ZV} (hv : zvl M v) : zvl M1 v := by
  rcases v with x | x | ⟨t, o⟩
  · exact hv
  · exact hv
  · exact fun i hi => Nat.lt_of_lt_of_le (hv i hi) (h t)
theorem zmap_same {ρ' : Nat → Nat → Nat} (h : ∀ t i, i < mC M t → ρ' t i = ρ t i) (hs : ∀ v, v ∈ st → zvl M v) : st.map (zcv ρ') = st.map (zcv ρ) := List.map_congr_left fun v hv => zcv_same h (hs v hv)
theorem zcs_up {ρ' : Nat → Nat → Nat} {U : State} {HH : Heap} (hW : zWf ρ B M) (h : ∀ t i, i < mC M t → ρ' t i = ρ t i) (h102 : ρ' 102 0 = ρ 102 0) (hc : zcs ρ B sl sx U HH) : zcs ρ' B sl sx U HH := by
  have w8 := hW.2.2.2.2.2.2.2
  exact hc.same (fun i hi => h 12 i (by rw [w8.1]; exact hi)) (h 100 0 (by rw [w8.2.1]; decide)) (h 101 0 (by rw [w8.2.2.1]; decide)) h102
theorem zctx_new (hC : zctx dC dI aC B sl sx ρ M H s ls lsC nl st locs) (hx : znx M M1 t) (hm : zmt t = true) (hw : znw M t = true) (h104 : t < 104) (hl : ¬ t < 12 → mN M1 t (mC M t) < 2147483648) (hz : H1.size = H.size + 1) (hq : ∀ q, q < H.size → H1[q]? = H[q]?) (hnew : zcel (zrn ρ t (mC M t) H.size) dC dI aC M1 H1 t (mC M t)) :
    zctx dC dI aC B sl sx (zrn ρ t (mC M t) H.size) M1 H1 s ls lsC nl (.inr (.inr (t, some (mC M t))) :: st) locs ∧ (∀ t' i', i' < mC M t' → zrn ρ t (mC M t) H.size t' i' = ρ t' i') ∧ zrn ρ t (mC M t) H.size t (mC M t) = H.size := by
  obtain ⟨hH, hW, hk, hc, hs, hL, hlv, hsv, hB, hS⟩ := hC
  have old : ∀ t' i', i' < mC M t' → zrn ρ t (mC M t) H.size t' i' = ρ t' i' := by
    intro t' i' hi
    unfold zrn
    rw [if_neg (fun z => by rw [z.1, z.2] at hi; exact absurd hi (Nat.lt_irrefl _))]
  have new : zrn ρ t (mC M t) H.size t (mC M t) = H.size := by unfold zrn; rw [if_pos ⟨rfl, rfl⟩]
  have hne : t ≠ 102 := by intro z; rw [z] at hm; revert hm; decide
  have h102 : zrn ρ t (mC M t) H.size 102 0 = ρ 102 0 := by unfold zrn; rw [if_neg (fun z => hne z.1.symm)]
  have le : ∀ t', mC M t' ≤ mC M1 t' := by
    intro t'
    rw [hx.2.2.1]
    split
    · next z => rw [z]; exact Nat.le_succ _
    · exact Nat.le_refl _
  refine ⟨⟨zHp_new hH hW hx hm hq hnew, zWf_new hH hW hx hm (Nat.le_trans hB hS.1) hw h104 hl, ⟨fun a b c => by rw [(hx.2.2.2.2.2 a b c).1]; exact hk.1 a b c, fun a b c => by rw [(hx.2.2.2.2.2 a b c).2]; exact hk.2.1 a b c, fun z => ?_⟩, zcs_up hW old h102 hc, hs, ⟨hL.1, hL.2.1, fun i v hv => ?_⟩, fun i v hv => zvl_up le (hlv i v hv), List.forall_mem_cons.mpr ⟨fun i hi => ?_, fun v hv => zvl_up le (hsv v hv)⟩, hB, ⟨by have := hS.1; omega, fun q h1 h2 => ?_, hS.2.2⟩⟩, old, new⟩
  · rw [hx.2.2.1, if_neg (Ne.symm hne)] at z
    rw [hx.2.2.2.2.1 102 0 (fun w => hne w.1.symm)]
    exact hk.2.2 z
  · rw [zcv_same old (hlv i v hv)]
    exact hL.2.2 i v hv
  · cases hi
    rw [hx.2.2.1, if_pos rfl]
    exact Nat.lt_succ_self _
  · rw [hq q (Nat.lt_of_lt_of_le h1 hS.1)]
    exact hS.2.1 q h1 h2
end ZCN
section ZCALL
variable {l : Launch} {dC : Nat → ClassId} {dI : Nat → Nat → Nat} {aC : Nat → ClassId} {B sl : Nat} {sx : Nat → Int}
/-- the words that calls don't carry of themselves -/
def zbad (U : State) : Prop := ∀ w ∈ lw_tz, zbdw w = true → w.before #[] U = true
theorem zbad.same {u U : State} (h : u.vm = U.vm) (hz : zbad u) : zbad U := by
  intro w hw hb
  have h0 := hz w hw hb
  cases w <;> first | (cases hb; done) | exact va_tabs rfl h h0 | skip
  next ty => cases ty <;> first | (cases hb; done) | exact va_AO.moved (by rw [h]; exact Vm.Alike.refl _) h0
theorem zbad.moved {u U : State} (h : u.WarmedH U.vm) (hz : zbad u) : zbad U := by
  intro w hw hb
  have h0 := hz w hw hb
  cases w <;> first | (cases hb; done) | exact va_Nw.warmF h h0 | exact va_Nw.warmM h h0 | exact va_Nw.warmD h h0 | exact va_Nw.warmC h h0 | exact va_tabs rfl (rfl : (u.setVm U.vm).vm = U.vm) (by rw [Cond.privateMethod_setVm h.alike]; exact h0) | exact va_tabs rfl (rfl : (u.setVm U.vm).vm = U.vm) (by rw [Cond.publicMethod_setVm h.alike]; exact h0) | skip
  next ty => cases ty <;> first | (cases hb; done) | exact va_AO.moved h.alike h0
theorem zbad.of {A : Array Value} {U : State} (h : ∀ w ∈ lw_tz, w.before A U = true) : zbad U := by
  intro w hw hb
  have h0 := h w hw
  cases w <;> first | (cases hb; done) | exact va_tabs rfl rfl h0 | skip
  next ty => cases ty <;> first | (cases hb; done) | exact h0
theorem zbad.use {A : Array Value} {U : State} (h : zbad U) {w : Jvm.Cond} (hw : w ∈ lw_tz) (hb : zbdw w = true) : w.before A U = true := by
  have h0 := h w hw hb
  cases w <;> first | (cases hb; done) | exact va_tabs rfl rfl h0 | skip
  next ty => cases ty <;> first | (cases hb; done) | exact h0
def zPc (dC : Nat → ClassId) (dI : Nat → Nat → Nat) (aC : Nat → ClassId) (B sl : Nat) (sx : Nat → Int) (ρ : Nat → Nat → Nat) (M : ZM) (as : List ZV) : Array Value → State → Prop := fun v U => v = (as.map (zcv ρ)).toArray ∧ zHp ρ dC dI aC M U.heap ∧ zcs ρ B sl sx U U.heap ∧ zks dC dI aC U ∧ zbad U ∧ B ≤ U.heap.size
def zQc (dC : Nat → ClassId) (dI : Nat → Nat → Nat) (aC : Nat → ClassId) (B sl : Nat) (sx : Nat → Int) (ρ : Nat → Nat → Nat) (M : ZM) (rv : Option ZV) (M2 : ZM) : Array Value → State → Outcome → State → Prop := fun _ st oc t => ∃ ρ', zag ρ ρ' M ∧ oc = .returned (rv.map (zcv ρ')) ∧ zHp ρ' dC dI aC M2 t.heap ∧ zWf ρ' B M2 ∧ zkc sl sx M2 ∧ (∀ v, rv = some v → zvl M2 v) ∧ st.heap.size ≤ t.heap.size ∧ ∀ q, q < B → t.heap[q]? = st.heap[q]?
theorem zPc_blind {ρ : Nat → Nat → Nat} {M : ZM} {as : List ZV} : FrameBlind (zPc dC dI aC B sl sx ρ M as) := by
  intro a U g mk h
  obtain ⟨h1, h2, h3, h4, h6, h5⟩ := h
  exact ⟨h1, h2, zcs.moved (u := U) (U := U.calling g mk a) (Vm.Alike.refl U.vm) h3, va_K.moved (u := U) (U := U.calling g mk a) (Vm.Alike.refl U.vm) h4, zbad.same (u := U) (U := U.calling g mk a) rfl h6, h5⟩
end ZCALL
theorem zatx {aty : ArrayType} {q : Nat} (h : q = zat aty) (h3 : q ≤ 3) : (aty = .int ∧ q = 0) ∨ (aty = .long ∧ q = 1) ∨ (aty = .byte ∧ q = 2) ∨ (aty = .boolean ∧ q = 3) := by
  cases aty <;> simp [zat] at h ⊢ <;> omega
theorem znw_a {M : ZM} {t : Nat} (h : ¬ t < 12) : znw M t = true := by
  unfold znw
  split <;> first | (exfalso; omega) | rfl
theorem zinst {args : Array Value} {s : State} {t : Nat} {q : vw_C} (hts : ∀ w ∈ lw_tz, w.before args s = true) (h : vwCl[t]? = some q) : (Jvm.Cond.instantiable q.1 q.2.2).before args s = true ∧ (Jvm.Cond.initialized q.1).before args s = true := by
  have ht : t < 12 := (List.getElem?_eq_some_iff.mp h).1
  have e : t = 0 ∨ t = 1 ∨ t = 2 ∨ t = 3 ∨ t = 4 ∨ t = 5 ∨ t = 6 ∨ t = 7 ∨ t = 8 ∨ t = 9 ∨ t = 10 ∨ t = 11 := by omega
  rcases e with rfl | rfl | rfl | rfl | rfl | rfl | rfl | rfl | rfl | rfl | rfl | rfl <;> cases h <;> exact ⟨hts _ (by decide +kernel), hts _ (by decide +kernel)⟩
theorem zfd_mem : ∀ {tab : ZT} {pc : Nat} {q : ZE}, zfd tab pc = some q → (pc, q) ∈ tab
  | [], _, _, h => by cases h
  | a :: l, pc, q, h => by
    unfold zfd at h
    split at h
    · next e =>
      cases h
      have := Nat.eq_of_beq_eq_true e
      subst this
      exact List.mem_cons_self
    · exact List.mem_cons_of_mem _ (zfd_mem h)
theorem zrn_102 {ρ : Nat → Nat → Nat} {t i a : Nat} (hm : zmt t = true) : zrn ρ t i a 102 0 = ρ 102 0 := by
  have hne : t ≠ 102 := by intro z; rw [z] at hm; revert hm; decide
  unfold zrn
  rw [if_neg (fun z => hne z.1.symm)]
end ZMAIN
