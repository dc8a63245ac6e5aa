section ZR5P
variable {l : Launch} {dC : Nat → ClassId} {dI : Nat → Nat → Nat} {aC : Nat → ClassId} {B sl : Nat} {sx : Nat → Int} {ρ : Nat → Nat → Nat} {M : ZM} {x o : Nat} {p0 p1 p2 p3 : Int}
def lAs (x : Nat) (p0 p1 p2 p3 : Int) (o : Nat) : List ZV := [vR 10 (some x), vI p0, vI p1, vI p2, vI p3, vR 103 (some o)]
def lPc (dC : Nat → ClassId) (dI : Nat → Nat → Nat) (aC : Nat → ClassId) (B sl : Nat) (sx : Nat → Int) (ρ : Nat → Nat → Nat) (M : ZM) (x : Nat) (p0 p1 p2 p3 : Int) (o : Nat) : Array Value → State → Prop := fun v U =>
  v = ((lAs x p0 p1 p2 p3 o).map (zcv ρ)).toArray ∧ zHp ρ dC dI aC M U.heap ∧ zcs ρ B sl sx U U.heap ∧ zks dC dI aC U ∧ zbad U ∧ zhl B U ∧ B ≤ U.heap.size
theorem lPc_blind : FrameBlind (lPc dC dI aC B sl sx ρ M x p0 p1 p2 p3 o) := by
  intro a U g mk h
  obtain ⟨h1, h0, h2, h3, h4, h5, h6⟩ := h
  exact ⟨h1, h0, zcs.moved (u := U) (U := U.calling g mk a) (Vm.Alike.refl U.vm) h2, va_K.moved (u := U) (U := U.calling g mk a) (Vm.Alike.refl U.vm) h3, zbad.same (u := U) (U := U.calling g mk a) rfl h4, ⟨vx_Zq.moved (u := U) (U := U.calling g mk a) (Vm.Alike.refl U.vm) h5.1, vx_Zq.moved (u := U) (U := U.calling g mk a) (Vm.Alike.refl U.vm) h5.2⟩, h6⟩
def lWs : List Jvm.Cond := .codeWith yL_rests cL_rests 7 (some .int) [(0, 14, 17, 13)] :: lw_tz.filter zgdw
theorem l_w : ∀ w ∈ ([.methodLink "WakeParkLaw" 7 yX12_rests, .instanceMethod yX12_rests, .selects "WakePark" yX12_rests yX12_rests, .initialized "WakePark", .code yX12_rests cX12_rests 9 (some .int)] : List Jvm.Cond), w ∈ lw_tz ∧ zgdw w = true := by decide +kernel
theorem l_w2 : ∀ w ∈ ([.static yL_rests, .initialized yL_rests.cls, .codeWith yL_rests cL_rests 7 (some .int) [(0, 14, 17, 13)]] : List Jvm.Cond), w ∈ lw_tz ∧ zgdw w = true := by decide +kernel
theorem l_w3 : ∀ w ∈ ([.classLink "WakeParkLaw" 13 kE, .castable kE kE] : List Jvm.Cond), w ∈ lw_tz := by decide +kernel
theorem l_vw : ∃ c0 : vw_C, vwCl[10]? = some c0 ∧ c0.1 = "WakePark" := ⟨_, rfl, rfl⟩
section PRE
variable {p : Program} {e : Env} {s : State} {m : MethodId} {args : Array Value} {below : List Frame} {meth : Method} {c : Code} {R : Room} {Q : State → Prop}
theorem kPre (hx : p.tables.exec = Jvm.exec) (hb : c.code = cL_rests) (k : ∀ (lsC : Array Slot) (lv : List (Nat × Value)), lv_has lsC 7 lv → W p l e R s m args below meth c s.heap [] 0 0 Q (F0 m 9 lsC [.int (Int32.ofInt p3), .int (Int32.ofInt p2), .int (Int32.ofInt p1), .int (Int32.ofInt p0), .ref (ρ 10 x), .int (Int32.ofInt 0), .ref (ρ 103 o)])) :
    W p l e R s m args below meth c s.heap [] 0 0 Q (entryFrame m ((lAs x p0 p1 p2 p3 o).map (zcv ρ)).toArray 7) := by
  rw [lg_entry_eq]
  have hlv := lv_entry ((lAs x p0 p1 p2 p3 o).map (zcv ρ)) (n := 7) (by rw [zsz_len]; show 6 ≤ 7; omega)
  refine lv_aload (i := 5) (x := ρ 103 o) hx hb (show decode cL_rests 0 = .ok (.aload 5, 2) by decide +kernel) (hlv.2.2 (0 + 5, zcv ρ (vR 103 (some o))) (zen_nt (as := lAs x p0 p1 p2 p3 o) (n := 7) (i := 0) (j := 5) rfl)) ?_
  refine lv_iconst hx hb (show decode cL_rests 2 = .ok (.iconst 0, 1) by decide +kernel) rfl ?_
  refine lv_aload_n (i := 0) (x := ρ 10 x) hx hb (show decode cL_rests 3 = .ok (.aload_n 0, 1) by decide +kernel) rfl (hlv.2.2 (0 + 0, zcv ρ (vR 10 (some x))) (zen_nt (as := lAs x p0 p1 p2 p3 o) (n := 7) (i := 0) (j := 0) rfl)) ?_
  refine lv_iload_n (i := 1) hx hb (show decode cL_rests 4 = .ok (.iload_n 1, 1) by decide +kernel) rfl (hlv.2.2 (0 + 1, zcv ρ (vI p0)) (zen_nt (as := lAs x p0 p1 p2 p3 o) (n := 7) (i := 0) (j := 1) rfl)) ?_
  refine lv_iload_n (i := 2) hx hb (show decode cL_rests 5 = .ok (.iload_n 2, 1) by decide +kernel) rfl (hlv.2.2 (0 + 2, zcv ρ (vI p1)) (zen_nt (as := lAs x p0 p1 p2 p3 o) (n := 7) (i := 0) (j := 2) rfl)) ?_
  refine lv_iload_n (i := 3) hx hb (show decode cL_rests 6 = .ok (.iload_n 3, 1) by decide +kernel) rfl (hlv.2.2 (0 + 3, zcv ρ (vI p2)) (zen_nt (as := lAs x p0 p1 p2 p3 o) (n := 7) (i := 0) (j := 3) rfl)) ?_
  refine lv_iload (i := 4) hx hb (show decode cL_rests 7 = .ok (.iload 4, 2) by decide +kernel) (hlv.2.2 (0 + 4, zcv ρ (vI p3)) (zen_nt (as := lAs x p0 p1 p2 p3 o) (n := 7) (i := 0) (j := 4) rfl)) ?_
  exact k _ _ hlv
end PRE
theorem lTs {p : Program} {e : Env} {s s₁ : State} {m : MethodId} {below : List Frame} {meth : Method} {c : Code} {rm : Room} {args : Array Value} (hB : BodyLoose p l yL_rests (headSpec lWs rm) cL_rests 7 (some .int) e s m args below meth c s₁) (hbd : zbad s) : ∀ w ∈ lw_tz, w.before args s = true := by
  have hts := atoms_spec (ws := lWs) hB.pre
  intro w hw
  rcases zor2 ((List.mem_filter.mp hw).2) with z | z
  · exact hts w (List.mem_cons_of_mem _ (List.mem_filter.mpr ⟨hw, z⟩))
  · exact hbd.use hw z
theorem lGood : GoodIn lw_tz (wsV "WakeParkLaw" 7 "WakePark" yX12_rests kWs) := zgood (fun w hw => by
  rcases List.mem_append.mp hw with z | z
  · simp only [List.mem_cons, List.not_mem_nil, or_false] at z
    rcases z with rfl | rfl | rfl | rfl <;> exact l_w _ (by simp)
  · rcases List.mem_cons.mp z with rfl | z
    · exact l_w _ (by simp)
    · exact List.mem_filter.mp z)
theorem lCell {s : State} {H : Heap} (hH : zHp ρ dC dI aC M H) (hs : zks dC dI aC s) (hxm : x < mC M 10) : ∃ cellB : Cell, H[ρ 10 x]? = some cellB ∧ cellB.vm.isStatics = false ∧ s.vm.findClass "WakePark" = some cellB.cls := by
  obtain ⟨c0, hvw, hn⟩ := l_vw
  obtain ⟨cell, k1, k2, k3, -⟩ := (hH 10 x rfl hxm).1 (by omega)
  exact ⟨cell, k1, by rw [k3]; rfl, by rw [k2, ← hn]; exact (hs.1 10 c0 hvw).2.1⟩
def lQ0 (aC : Nat → ClassId) (ρ : Nat → Nat → Nat) (M : ZM) (o : Nat) (v : Int) : Array Value → State → Outcome → State → Prop := fun _ st oc t => oc = .returned (some (.int 0)) ∧ t.heap.size = st.heap.size ∧ (∀ q : Nat, q ≠ ρ 103 o → t.heap[q]? = st.heap[q]?) ∧ t.heap[ρ 103 o]? = some (arrV (aC 103) (mN M 103 o) (updV (zav ρ M 103 o) 0 (.long (Int64.ofInt v))))
/-- the law's rests where the class's answers -/
theorem kC (hkk : ∀ t i k, ((t = 12 → i < 30) → zr32 (zKI sx t i k)) ∧ zr64 (zKL t i k)) (h0 : zr32 p0) (h1 : zr32 p1) (h2 : zr32 p2) (h3 : zr32 p3) (hno : ¬ zrt p0 p1 p2 p3 = 1) (hW : zWf ρ B M) (hxm : x < mC M 10) (hom : o < mC M 103) (hN : 1 ≤ mN M 103 o) : Met l yL_rests lWs { frames := 7, cells := 0, slots := 0, locals := 600 } (lPc dC dI aC B sl sx ρ M x p0 p1 p2 p3 o) (lQ0 aC ρ M o (zrv p0 p1 p2 p3)) 0 0 (zA B) := by
  refine va_MetW (by decide +kernel) rfl ?_
  intro p e s m args below meth c s₁ hB hml hP
  obtain ⟨hargs, hH, hc, hs, hbd, hz, hBs⟩ := hP
  subst hargs
  have hts := lTs hB hbd
  have hown : s.vm.findClass "WakeParkLaw" = some m.cls := findClass_of_methodNamed hB.named
  refine kPre hB.exec hB.bytes (fun lsC lv hlv => ?_)
  have hr := va_runV (p := p) (e := e) (below := below) (meth := meth) (R := (headSpec lWs { frames := 7, cells := 0, slots := 0, locals := 600 }).room) (locs := []) (cells := 0) (slots := 0) (H := s.heap) (C := "WakePark") (Ts := lw_tz) (own := "WakeParkLaw") (cc := cL_rests) (nL := 7) (g := F0 m 9 lsC [.int (Int32.ofInt p3), .int (Int32.ofInt p2), .int (Int32.ofInt p1), .int (Int32.ofInt p0), .ref (ρ 10 x), .int (Int32.ofInt 0), .ref (ρ 103 o)]) (b := ρ 10 x) (As := [.int (Int32.ofInt p0), .int (Int32.ofInt p1), .int (Int32.ofInt p2), .int (Int32.ofInt p3)]) (rest := [.int (Int32.ofInt 0), .ref (ρ 103 o)]) (n := 4) (index := 7)
    ⟨hB.exec, hB.bytes, hml, hown, hts⟩ (kA (l := l) (dC := dC) (dI := dI) (aC := aC) (B := B) (sl := sl) (ρ := ρ) (x := x) hkk h0 h1 h2 h3 hno) (cwV 4 hts lGood rfl rfl rfl ⟨rfl, by decide, by decide, by decide +kernel⟩ ⟨show 6 + 1 ≤ 7 by omega, show 8 + (9 + 11) + 520 ≤ 600 by omega⟩)
    ⟨kPc_blind, lCell hH hs hxm, fun U hU hWm => ⟨rfl, by rw [hU]; exact zcs.moved hWm.alike hc, va_K.moved hWm.alike hs, (zbad.of hts).moved hWm, zhl_at hz va_S.rf hU hWm.alike, by rw [hU]; exact hBs⟩⟩ rfl rfl hlv.1 rfl (show 2 * 0 + 2 ≤ 8 by omega) (show decode cL_rests 9 = .ok (.invokevirtual 7, 3) by decide +kernel) ⟨show 0 + 0 ≤ 0 by omega, show 0 + 0 ≤ 0 by omega⟩
  intro T hT X
  obtain ⟨v, st₀, t, T', L, e0, X', hL, e1, e2, ⟨hv, hh⟩, st⟩ := hr T hT X
  have hv : v = some (.int (Int32.ofInt (zrv p0 p1 p2 p3))) := Outcome.returned.inj hv
  subst hv
  have hT' : T'.heap = s.heap := by rw [e1, hh, e0]
  obtain ⟨hm, h12⟩ := zmt_a (t := 103) (by decide)
  have hcell := (hH 103 o hm hom).2 h12
  have hAr : ArrOfT s (aC 103) .long := (zks_at hs (t := 103) (by decide)).1
  have z0 : zr32 0 := ⟨by decide, by decide⟩
  have key : W p l e (headSpec lWs { frames := 7, cells := 0, slots := 0, locals := 600 }).room s m ((lAs x p0 p1 p2 p3 o).map (zcv ρ)).toArray below meth c s.heap ([] ++ L) (0 + 0) (0 + 0) (MQ below (lQ0 aC ρ M o (zrv p0 p1 p2 p3)) ((lAs x p0 p1 p2 p3 o).map (zcv ρ)).toArray s 0 0 (zA B)) (F0 m 12 lsC [.int (Int32.ofInt (zrv p0 p1 p2 p3)), .int (Int32.ofInt 0), .ref (ρ 103 o)]) := by
    refine lv_i2l hB.exec hB.bytes (show decode cL_rests 12 = .ok (.i2l, 1) by decide +kernel) (zn_i2l (zrv_32 _ _ _ _)) ?_
    refine W.last hB.exec hB.bytes hcell (hAr _ _) (fun z => by cases z) (by rw [arrV_size]; exact zn_clampin z0 ⟨by decide, by omega⟩) rfl rfl (show decode cL_rests 13 = .ok (.lastore, 1) by decide +kernel) (fun H1 he hsz hq => ?_)
    rw [zn_nat z0] at he
    rw [arrV_store] at he
    refine lv_goto (tgt := 21) hB.exec hB.bytes (show decode cL_rests 14 = .ok (.goto 7, 3) by decide +kernel) (show (14 : Int) + 7 = 21 by decide) ?_
    refine lv_iconst hB.exec hB.bytes (show decode cL_rests 21 = .ok (.iconst 0, 1) by decide +kernel) rfl ?_
    refine W.iret hB.exec hB.bytes hB.returns (fun t ht _ => ⟨rfl, by rw [ht]; exact hsz, fun q h => by rw [ht]; exact hq q h, by rw [ht]; exact he⟩) (fun q hq => ?_) (show decode cL_rests 22 = .ok (.ireturn, 1) by decide +kernel) hB.notSynchronized
    rcases List.mem_append.mp hq with z | z
    · rcases List.mem_append.mp z with z | z
      · cases z
      · exact hL q z
    · rw [List.mem_singleton.mp z]
      exact hW.2.2.2.2.1 103 o hm hom
  obtain ⟨t2, a1, b1⟩ := key T' hT' X'
  exact ⟨t2, st t2 a1, b1⟩
def lQ1 : Array Value → State → Outcome → State → Prop := fun _ st oc t => oc = .returned (some (.int 1)) ∧ st.heap.size ≤ t.heap.size ∧ ∀ q : Nat, q < st.heap.size → t.heap[q]? = st.heap[q]?
/-- .. and where it throws: caught -/
theorem kD (hst : l.stackTraces = false) (hkk : ∀ t i k, ((t = 12 → i < 30) → zr32 (zKI sx t i k)) ∧ zr64 (zKL t i k)) (h0 : zr32 p0) (h1 : zr32 p1) (h2 : zr32 p2) (h3 : zr32 p3) (hyes : zrt p0 p1 p2 p3 = 1) (hxm : x < mC M 10) : Met l yL_rests lWs { frames := 7, cells := 1, slots := 6, locals := 600 } (lPc dC dI aC B sl sx ρ M x p0 p1 p2 p3 o) lQ1 1 6 (zA B) := by
  refine va_MetW (by decide +kernel) rfl ?_
  intro p e s m args below meth c s₁ hB hml hP
  obtain ⟨hargs, hH, hc, hs, hbd, hz, hBs⟩ := hP
  subst hargs
  have hts := lTs hB hbd
  have hown : s.vm.findClass "WakeParkLaw" = some m.cls := findClass_of_methodNamed hB.named
  have htab : c.exceptionTable.toList = tableOf [(0, 14, 17, 13)] := vx_table (x := yL_rests) hB (hts (.codeWith yL_rests cL_rests 7 (some .int) [(0, 14, 17, 13)]) (l_w2 _ (by simp)).1)
  refine kPre hB.exec hB.bytes (fun lsC lv hlv => ?_)
  have hr := vx_runV (p := p) (e := e) (below := below) (meth := meth) (R := (headSpec lWs { frames := 7, cells := 1, slots := 6, locals := 600 }).room) (locs := []) (cells := 0) (slots := 0) (H := s.heap) (C := "WakePark") (Ts := lw_tz) (own := "WakeParkLaw") (cc := cL_rests) (nL := 7) (g := F0 m 9 lsC [.int (Int32.ofInt p3), .int (Int32.ofInt p2), .int (Int32.ofInt p1), .int (Int32.ofInt p0), .ref (ρ 10 x), .int (Int32.ofInt 0), .ref (ρ 103 o)]) (b := ρ 10 x) (As := [.int (Int32.ofInt p0), .int (Int32.ofInt p1), .int (Int32.ofInt p2), .int (Int32.ofInt p3)]) (rest := [.int (Int32.ofInt 0), .ref (ρ 103 o)]) (n := 4) (index := 7)
    ⟨hB.exec, hB.bytes, hml, hown, hts⟩ (kB (dC := dC) (dI := dI) (aC := aC) (B := B) (sl := sl) (ρ := ρ) (x := x) hst hkk h0 h1 h2 h3 hyes) (cwV 4 hts lGood rfl rfl rfl ⟨rfl, by decide, by decide, by decide +kernel⟩ ⟨show 6 + 1 ≤ 7 by omega, show 8 + (9 + 11) + 520 ≤ 600 by omega⟩)
    ⟨kPc_blind, lCell hH hs hxm, fun U hU hWm => ⟨rfl, by rw [hU]; exact zcs.moved hWm.alike hc, va_K.moved hWm.alike hs, (zbad.of hts).moved hWm, zhl_at hz va_S.rf hU hWm.alike, by rw [hU]; exact hBs⟩⟩ rfl rfl hlv.1 rfl (show 2 * 0 + 2 ≤ 8 by omega) (show decode cL_rests 9 = .ok (.invokevirtual 7, 3) by decide +kernel) ⟨show 0 + 1 ≤ 1 by omega, show 0 + 6 ≤ 6 by omega⟩
  intro T hT X
  rcases hr T hT X with ⟨v, st₀, t, T', L, e0, X', hL, e1, e2, hF, st⟩ | ⟨q, st₀, t, T', L, E, ce, e0, X', hL, e1, e2, ⟨hE, hz1, hq1⟩, hce, hcv, hcl, st⟩
  · exact hF.elim
  · subst hE
    have key : vx_W p l e (headSpec lWs { frames := 7, cells := 1, slots := 6, locals := 600 }).room s m ((lAs x p0 p1 p2 p3 o).map (zcv ρ)).toArray below meth c T'.heap ([] ++ L) (0 + 1) (0 + 6) (MQ below lQ1 ((lAs x p0 p1 p2 p3 o).map (zcv ρ)).toArray s 1 6 (zA B)) (F0 m 9 lsC [.int (Int32.ofInt 0), .ref (ρ 103 o)]) q := by
      refine vc_catch (own := "WakeParkLaw") (name := kE) hown (htab.trans rfl) rfl (by decide) (hts _ (l_w3 _ (by simp))) (hts _ (l_w3 _ (by simp))) (by rw [e1]; exact hce) hcv hcl ?_
      refine lv_astore (i := 6) hB.exec hB.bytes (show decode cL_rests 17 = .ok (.astore 6, 2) by decide +kernel) hlv (by decide) rfl (fun ls2 hL2 => ?_)
      refine lv_iconst hB.exec hB.bytes (show decode cL_rests 19 = .ok (.iconst 1, 1) by decide +kernel) rfl ?_
      exact W.iret hB.exec hB.bytes hB.returns (fun t2 ht _ => ⟨rfl, by rw [ht, e1, ← e0]; exact hz1, fun q' hq' => by rw [ht, e1, ← e0]; exact hq1 q' (by rw [e0]; exact hq')⟩) (fun q' hq' => by
        rcases List.mem_append.mp hq' with z | z
        · cases z
        · exact hL q' z) (show decode cL_rests 20 = .ok (.ireturn, 1) by decide +kernel) hB.notSynchronized
    obtain ⟨t2, a1, b1⟩ := key T' rfl X'
    exact ⟨t2, st.trans a1, b1⟩
theorem zr5 (hst : l.stackTraces = false) : zR5 l dC dI aC B sl sx (zhl B) := by
  intro p e s m args below meth c R H locs cells slots lsC Q y cc nl pc idx ρ M x o p0 p1 p2 p3 rest hz hF hls hown5 hdg hlk h0 h1 h2 h3 hcat hf hlo hcs1 hcs2 hcs3 hH hW hk hc hs hB hS hxm hom hN k1 k2
  obtain ⟨hx, hb, hml, hown, hts, -⟩ := hF
  have hkk : ∀ t i k, ((t = 12 → i < 30) → zr32 (zKI sx t i k)) ∧ zr64 (zKL t i k) := fun t i k => ⟨fun z => by rw [← hk.1]; exact (hW.1 t i k).2.2.1 z, by rw [← hk.2.1]; exact (hW.1 t i k).2.2.2⟩
  have hts2 : ∀ w ∈ (Jvm.Cond.methodLink y.cls idx yL_rests :: lw_tz), w.before args s = true := fun w hw => by
    rcases List.mem_cons.mp hw with rfl | z
    · exact hlk
    · exact hts w z
  have hgood : GoodIn (Jvm.Cond.methodLink y.cls idx yL_rests :: lw_tz) (va_wsS y.cls idx yL_rests lWs) := by
    intro w hw
    have up : w ∈ lw_tz ∧ zgdw w = true → w ∈ (Jvm.Cond.methodLink y.cls idx yL_rests :: lw_tz) ∧ ((w.onTables && w.keeps) = true ∨ ∃ ty, w = .arrayClass ty) := fun z => ⟨List.mem_cons_of_mem _ z.1, zgdw_of z.2⟩
    rcases List.mem_append.mp hw with z | z
    · simp only [List.mem_cons, List.not_mem_nil, or_false] at z
      rcases z with rfl | rfl | rfl
      · exact ⟨List.mem_cons_self, .inl rfl⟩
      · exact up (l_w2 _ (by simp))
      · exact up (l_w2 _ (by simp))
    · rcases List.mem_cons.mp z with rfl | z
      · exact up (l_w2 _ (by simp))
      · exact up (List.mem_filter.mp z)
  have hpre : ∀ U : State, U.heap = H → s.WarmedH U.vm → lPc dC dI aC B sl sx ρ M x p0 p1 p2 p3 o ((lAs x p0 p1 p2 p3 o).map (zcv ρ)).toArray U := fun U hU hWm =>
    ⟨rfl, by rw [hU]; exact hH, by rw [hU]; exact zcs.moved hWm.alike (zcs.kept hc hS.2.1), va_K.moved hWm.alike hs, (zbad.of hts).moved hWm, zhl_at hz hS hU hWm.alike, by rw [hU]; exact Nat.le_trans hB hS.1⟩
  by_cases hzr : zrt p0 p1 p2 p3 = 1
  · have hr := vx_runSW (p := p) (e := e) (below := below) (meth := meth) (R := R) (locs := locs) (cells := cells) (slots := slots) (H := H) (cc := cc) (nL := nl) (own := y.cls) (g := F0 m pc lsC (.ref (ρ 103 o) :: .int (Int32.ofInt p3) :: .int (Int32.ofInt p2) :: .int (Int32.ofInt p1) :: .int (Int32.ofInt p0) :: .ref (ρ 10 x) :: rest)) (As := (lAs x p0 p1 p2 p3 o).map (zcv ρ)) (rest := rest) (hh := [(0, 14, 17, 13)]) ⟨hx, hb, hml, hown, hts2⟩ (kD (dC := dC) (dI := dI) (aC := aC) (B := B) (sl := sl) (ρ := ρ) (M := M) (o := o) hst hkk h0 h1 h2 h3 hzr hxm)
      (vx_cwSW 6 hts2 hgood rfl rfl rfl ⟨by decide, by decide, by decide +kernel⟩ ⟨show 7 + 1 ≤ R.frames by omega, show 8 + (7 + 11) + 600 ≤ R.locals by omega⟩) ⟨lPc_blind, hpre⟩ rfl rfl hls rfl (show 2 * 0 + _ ≤ 8 by omega) hdg ⟨(hcs1 hzr).1, (hcs1 hzr).2⟩
    intro T hT X
    obtain ⟨v, st₀, t, T', L, e0, X', hL, e1, e2, ⟨hv, z1, z2⟩, st⟩ := hr T hT X
    have hv : v = some (.int 1) := Outcome.returned.inj hv
    subst hv
    rw [e0] at z1 z2
    obtain ⟨t2, a1, b1⟩ := k1 hzr T'.heap L (by rw [e1]; exact z1) (fun q hq => by rw [e1]; exact z2 q hq) hL T' rfl X'
    exact ⟨t2, st t2 a1, b1⟩
  · have hr := vx_runSW (p := p) (e := e) (below := below) (meth := meth) (R := R) (locs := locs) (cells := cells) (slots := slots) (H := H) (cc := cc) (nL := nl) (own := y.cls) (g := F0 m pc lsC (.ref (ρ 103 o) :: .int (Int32.ofInt p3) :: .int (Int32.ofInt p2) :: .int (Int32.ofInt p1) :: .int (Int32.ofInt p0) :: .ref (ρ 10 x) :: rest)) (As := (lAs x p0 p1 p2 p3 o).map (zcv ρ)) (rest := rest) (hh := [(0, 14, 17, 13)]) ⟨hx, hb, hml, hown, hts2⟩ (kC (l := l) (dC := dC) (dI := dI) (aC := aC) (B := B) (sl := sl) (ρ := ρ) (M := M) hkk h0 h1 h2 h3 hzr hW hxm hom hN)
      (vx_cwSW 6 hts2 hgood rfl rfl rfl ⟨by decide, by decide, by decide +kernel⟩ ⟨show 7 + 1 ≤ R.frames by omega, show 8 + (7 + 11) + 600 ≤ R.locals by omega⟩) ⟨lPc_blind, hpre⟩ rfl rfl hls rfl (show 2 * 0 + _ ≤ 8 by omega) hdg ⟨show cells + 0 ≤ _ by omega, show slots + 0 ≤ _ by omega⟩
    intro T hT X
    obtain ⟨v, st₀, t, T', L, e0, X', hL, e1, e2, ⟨hv, z1, z2, z3⟩, st⟩ := hr T hT X
    have hv : v = some (.int 0) := Outcome.returned.inj hv
    subst hv
    rw [e0] at z1 z2
    obtain ⟨t2, a1, b1⟩ := k2 hzr T'.heap L (zrv_64 _ _ _ _) (by rw [e1]; exact z1) (fun q hq => by rw [e1]; exact z2 q hq) (by rw [e1]; exact z3) hL T' rfl X'
    exact ⟨t2, st t2 a1, b1⟩
end ZR5P
