section ZST
variable {args : Array Value} {s : State}
def nFl : List Jvm.Cond := flatC (Jvm.Cond.and given_1 narrow_1)
def nS (i : Nat) : Jvm.Term := .static "WakePark$Word" (zwn i) "LWakePark$Word;"
def nW : Jvm.Term := .static "WakePark" "WORDS" "[LWakePark$Word;"
def nM : Jvm.Term := .static "WakePark$1" "$SwitchMap$WakePark$Word" "[I"
/-- of a Word: its class, its three numbers, its place in the two rows -/
def nC (i : Nat) : List Jvm.Cond := [.exactly (nS i) "WakePark$Word", .eq (.field (nS i) "WakePark$Word" "free" "Z") (.int (Int32.ofInt (zKI zswm 12 i 0))), .eq (.field (nS i) "WakePark$Word" "key" "J") (.long (Int64.ofInt (zKL 12 i 1))), .eq (.field (nS i) "java/lang/Enum" "ordinal" "I") (.int (Int32.ofInt (zKI zswm 12 i 2))), .eq (.elem nW (.int (Int32.ofNat i))) (nS i), .eq (.elem nM (.int (Int32.ofNat i))) (.int (Int32.ofInt (zKI zswm 101 0 i)))]
theorem n_all : (List.range 30).all (fun i => (nC i).all (fun w => decide (w ∈ nFl))) = true := by decide +kernel
theorem n_lay : (List.range 30).all (fun i => decide (Jvm.Cond.laysStatic "WakePark$Word" (zwn i) "LWakePark$Word;" ∈ lw_tbl)) = true := by decide +kernel
theorem n_one : ([.arrayOf nW (.object "WakePark$Word"), .eq (.length nW) (.int 30), .arrayOf nM .int, .eq (.length nM) (.int 30), .isRef (.static Bundle.tN "UNASSIGNED_STACK" Bundle.steD), .isRef (.static Bundle.tN "SUPPRESSED_SENTINEL" Bundle.listD)] : List Jvm.Cond).all (fun w => decide (w ∈ nFl)) = true := by decide +kernel
theorem n_tbl : ([.laysStatic "WakePark" "WORDS" "[LWakePark$Word;", .initialized "WakePark", .laysStatic "WakePark$1" "$SwitchMap$WakePark$Word" "[I", .initialized "WakePark$1", .initialized "WakePark$Word", .laysStatic Bundle.tN "UNASSIGNED_STACK" Bundle.steD, .laysStatic Bundle.tN "SUPPRESSED_SENTINEL" Bundle.listD, .initialized Bundle.tN, .arrayClass .int, .arrayClass .long, .arrayClass .byte, .arrayClass .boolean, .arrayOver (.object "WakePark$State"), .arrayOver (.object "WakePark$Mark"), .arrayOver (.object "WakePark$Search")] : List Jvm.Cond).all (fun w => decide (w ∈ lw_tbl)) = true := by decide +kernel
theorem n_ord : (List.range 30).all (fun i => (List.range 30).all (fun j => !(decide (Int32.ofInt (zKI zswm 12 i 2) = Int32.ofInt (zKI zswm 12 j 2))) || decide (i = j))) = true := by decide +kernel
theorem n_in {i : Nat} {w : Jvm.Cond} (hi : i < 30) (h : w ∈ nC i) : w ∈ nFl := of_decide_eq_true (List.all_eq_true.mp (List.all_eq_true.mp n_all i (List.mem_range.mpr hi)) w h)
theorem n_in1 {w : Jvm.Cond} (h : w ∈ ([.arrayOf nW (.object "WakePark$Word"), .eq (.length nW) (.int 30), .arrayOf nM .int, .eq (.length nM) (.int 30), .isRef (.static Bundle.tN "UNASSIGNED_STACK" Bundle.steD), .isRef (.static Bundle.tN "SUPPRESSED_SENTINEL" Bundle.listD)] : List Jvm.Cond)) : w ∈ nFl := of_decide_eq_true (List.all_eq_true.mp n_one w h)
theorem n_in2 {w : Jvm.Cond} (h : w ∈ ([.laysStatic "WakePark" "WORDS" "[LWakePark$Word;", .initialized "WakePark", .laysStatic "WakePark$1" "$SwitchMap$WakePark$Word" "[I", .initialized "WakePark$1", .initialized "WakePark$Word", .laysStatic Bundle.tN "UNASSIGNED_STACK" Bundle.steD, .laysStatic Bundle.tN "SUPPRESSED_SENTINEL" Bundle.listD, .initialized Bundle.tN, .arrayClass .int, .arrayClass .long, .arrayClass .byte, .arrayClass .boolean, .arrayOver (.object "WakePark$State"), .arrayOver (.object "WakePark$Mark"), .arrayOver (.object "WakePark$Search")] : List Jvm.Cond)) : w ∈ lw_tbl := of_decide_eq_true (List.all_eq_true.mp n_tbl w h)
theorem n_inj {i j : Nat} (hi : i < 30) (hj : j < 30) (h : Int32.ofInt (zKI zswm 12 i 2) = Int32.ofInt (zKI zswm 12 j 2)) : i = j := by
  have z := List.all_eq_true.mp (List.all_eq_true.mp n_ord i (List.mem_range.mpr hi)) j (List.mem_range.mpr hj)
  rcases zor2 z with z | z
  · rw [decide_eq_true h] at z; cases z
  · exact of_decide_eq_true z
theorem st_arr {ty : FieldType} (h0 : ∀ C, ty ≠ .object C) (h : (Jvm.Cond.arrayClass ty).before args s = true) : ∃ cA, ArrOfT s cA ty ∧ va_RA s cA ty := by
  obtain ⟨cA, kA, comp, h1, h2, h3⟩ := Cond.arrayClass_spec h
  refine ⟨cA, fun n z => ⟨fun k h => (by cases h), kA, h2, comp, h3⟩, ?_⟩
  cases ty <;> first | exact h1 | exact absurd rfl (h0 _)
theorem st_arO {C : String} (h : (Jvm.Cond.arrayOver (.object C)).before args s = true) : ∃ cA, ArrOfT s cA (.object C) ∧ va_RA s cA (.object C) := by
  obtain ⟨comp, cA, kA, h1, h2, h3, h4, h5⟩ := Cond.arrayOver_spec h
  exact ⟨cA, fun n z => ⟨fun k h => (by cases h), kA, h3, comp, h4⟩, kA, comp, h3, h4, h1, h5⟩
theorem st_ty (hts : ∀ w ∈ lw_tbl, w.before args s = true) (t : Nat) : ∃ cA, ArrOfT s cA (zty t) ∧ va_RA s cA (zty t) := by
  have a1 := st_arr (fun C z => by cases z) (hts _ (n_in2 (w := .arrayClass .int) (by simp)))
  have a2 := st_arr (fun C z => by cases z) (hts _ (n_in2 (w := .arrayClass .long) (by simp)))
  have a3 := st_arr (fun C z => by cases z) (hts _ (n_in2 (w := .arrayClass .byte) (by simp)))
  have a4 := st_arr (fun C z => by cases z) (hts _ (n_in2 (w := .arrayClass .boolean) (by simp)))
  have a5 := st_arO (hts _ (n_in2 (w := .arrayOver (.object "WakePark$State")) (by simp)))
  have a6 := st_arO (hts _ (n_in2 (w := .arrayOver (.object "WakePark$Mark")) (by simp)))
  have a7 := st_arO (hts _ (n_in2 (w := .arrayOver (.object "WakePark$Search")) (by simp)))
  unfold zty
  split <;> first | exact a1 | exact a2 | exact a3 | exact a4 | exact a5 | exact a6 | exact a7
def nCl : List (vw_C × Nat) := [((RX1, TX1, 7), 7), ((RX2, TX2, 2), 2), ((RX3, TX3, 4), 4), ((RX4, TX4, 2), 2), ((RX5, TX5, 15), 15), ((RX6, TX6, 7), 7), ((RX7, TX7, 9), 9), ((RX8, TX8, 6), 6), ((RX9, TX9, 8), 8), ((RX10, TX10, 7), 7), ((RX12, TX12, 15), 15), ((RX13, TX13, 60), 60)]
theorem n_cl : nCl.all (fun q => (u_ws q.1.1 q.1.2.1 q.1.2.2).all (fun w => decide (w ∈ lw_tbl)) && decide (Jvm.Cond.instantiable q.1.1 q.2 ∈ lw_tbl)) = true := by decide +kernel
theorem n_vw : nCl.map (·.1) = vwCl := rfl
theorem st_cls (hts : ∀ w ∈ lw_tbl, w.before args s = true) (k : Nat) : ∃ (cC : ClassId) (iS : Nat → Nat), ∀ q : vw_C, vwCl[k]? = some q → u_Kn s q.1 q.2.1 q.2.2 cC iS := by
  cases h : nCl[k]? with
  | none =>
    refine ⟨0, fun _ => 0, fun q hq => ?_⟩
    rw [← n_vw, List.getElem?_map, h] at hq
    cases hq
  | some r =>
    obtain ⟨z1, z2⟩ := zand2 (List.all_eq_true.mp n_cl r (List.mem_of_getElem? h))
    obtain ⟨cC, iS, hK⟩ := u_known hts (fun w hw => of_decide_eq_true (List.all_eq_true.mp z1 w hw)) (hts _ (of_decide_eq_true z2))
    refine ⟨cC, iS, fun q hq => ?_⟩
    rw [← n_vw, List.getElem?_map, h] at hq
    cases hq
    exact hK
theorem st_ks (hts : ∀ w ∈ lw_tbl, w.before args s = true) : ∃ (dC : Nat → ClassId) (dI : Nat → Nat → Nat) (aC : Nat → ClassId), zks dC dI aC s := by
  refine ⟨fun k => (st_cls hts k).choose, fun k => (st_cls hts k).choose_spec.choose, fun t => (st_ty hts t).choose, fun k q hq => (st_cls hts k).choose_spec.choose_spec q hq, fun k q hq => ?_⟩
  rw [List.getElem?_map] at hq
  cases h : (List.range 104)[k]? with
  | none => rw [h] at hq; cases hq
  | some t =>
    rw [h] at hq
    cases hq
    exact (st_ty hts t).choose_spec
def stR (ad : Nat → Nat) (tW tM b : Nat) : Nat → Nat → Nat := fun t i => if t = 12 then ad i else if t = 100 then tW else if t = 101 then tM else if t = 102 then tM else b
theorem st_cs (hts : ∀ w ∈ lw_tbl, w.before args s = true) (hgv : (Jvm.Cond.and given_1 narrow_1).before args s = true) (b : Nat) : ∃ (ad : Nat → Nat) (tW tM : Nat), zcs (stR ad tW tM b) s.heap.size 30 zswm s s.heap := by
  have hf : ∀ w ∈ nFl, w.before args s = true := flat_of_before _ hgv
  have hA : ∀ a : Nat, a < s.heap.size → ¬ zA s.heap.size a := fun a h z => absurd h (Nat.not_lt.mpr z)
  have h0 : ∀ i : Nat, ∃ t : Nat, i < 30 → (nS i).eval args s none [] s = some (.ref t) := by
    intro i
    by_cases hi : i < 30
    · obtain ⟨a, c, cA, kA, q1, -⟩ := Cond.exactly_spec (args := args) (first := s) (o := none) (s := s) (idx := []) (t := nS i) (cls := "WakePark$Word") (hf _ (n_in hi (by simp [nC])))
      exact ⟨a, fun _ => q1⟩
    · exact ⟨0, fun h => absurd h hi⟩
  obtain ⟨ad, had⟩ := Classical.axiomOfChoice h0
  obtain ⟨tW, hW, hTW⟩ := va_Tof (N := 30) (f := fun j => .ref (ad j)) (A := zA s.heap.size) (by decide) (hf _ (n_in1 (w := .arrayOf nW (.object "WakePark$Word")) (by simp))) (va_eqt (hf _ (n_in1 (w := .eq (.length nW) (.int 30)) (by simp)))) (fun j hj => va_eqv (hf _ (n_in (w := .eq (.elem nW (.int (Int32.ofNat j))) (nS j)) hj (by simp [nC]))) (had j hj)) hA
  obtain ⟨tM, hM, hTM⟩ := va_Tof (N := 30) (f := fun j => .int (Int32.ofInt (zKI zswm 101 0 j))) (A := zA s.heap.size) (by decide) (hf _ (n_in1 (w := .arrayOf nM .int) (by simp))) (va_eqt (hf _ (n_in1 (w := .eq (.length nM) (.int 30)) (by simp)))) (fun j hj => va_eqt (hf _ (n_in (w := .eq (.elem nM (.int (Int32.ofNat j))) (.int (Int32.ofInt (zKI zswm 101 0 j)))) hj (by simp [nC])))) hA
  have ho : ∀ i, i < 30 → (Term.field (nS i) "java/lang/Enum" "ordinal" "I").eval args s none [] s = some (.int (Int32.ofInt (zKI zswm 12 i 2))) := fun i hi => va_eqt (hf _ (n_in hi (by simp [nC])))
  refine ⟨ad, tW, tM, fun i hi => va_Zref (hts _ (of_decide_eq_true (List.all_eq_true.mp n_lay i (List.mem_range.mpr hi)))) (hts _ (n_in2 (by simp))) (had i hi) hA, va_Zref (hts _ (n_in2 (by simp))) (hts _ (n_in2 (by simp))) hW hA, va_Zref (hts _ (n_in2 (by simp))) (hts _ (n_in2 (by simp))) hM hA, fun i hi => va_Oof (hf _ (n_in hi (by simp [nC]))) (had i hi) hA, fun i hi => vk_OFof (had i hi) (va_eqt (hf _ (n_in hi (by simp [nC])))) hA, fun i hi => vk_OFof (had i hi) (va_eqtl (hf _ (n_in hi (by simp [nC])))) hA, fun i hi => vk_OFof (had i hi) (ho i hi) hA, hTW, hTM, hTM, fun i j hi hj e => ?_⟩
  replace e : ad i = ad j := e
  have h1 := ho i hi
  have h2 := ho j hj
  rw [va_fe (had i hi)] at h1
  rw [va_fe (had j hj), ← e, h1] at h2
  exact n_inj hi hj (Value.int.inj (Option.some.inj h2))
theorem st_hl (hts : ∀ w ∈ lw_tbl, w.before args s = true) (hgv : (Jvm.Cond.and given_1 narrow_1).before args s = true) : zhl s.heap.size s := by
  have hf : ∀ w ∈ nFl, w.before args s = true := flat_of_before _ hgv
  have hA : ∀ a : Nat, a < s.heap.size → ¬ zA s.heap.size a := fun a h z => absurd h (Nat.not_lt.mpr z)
  exact ⟨vx_Zqof (hts _ (n_in2 (by simp))) (hts _ (n_in2 (by simp))) (hf _ (n_in1 (by simp))) hA, vx_Zqof (hts _ (n_in2 (by simp))) (hts _ (n_in2 (by simp))) (hf _ (n_in1 (by simp))) hA⟩
end ZST
/-- from the entry, for every script of at most 448 ints, the law comes to its end with true -/
theorem whole_start {p : Program} {e : Env} {s : State} {m : MethodId} {below : List Frame} {meth : Method} {c : Code} (l : Launch) (hst : l.stackTraces = false) {b L : Nat} {xs : Nat → Int32} (hL : L ≤ 448) (C0 : lw_At p s m meth c b L xs) : W p l e room_1 s m #[Value.ref b] below meth c s.heap [] 0 0 (lw_Z below #[Value.ref b] s) (entryFrame m ([Value.ref b] : List Value).toArray 7) := by
  obtain ⟨hx, hb, hr, hml, hown, hts, hX, hbl, hlocks, hgv⟩ := id C0
  obtain ⟨dC, dI, aC, hks⟩ := st_ks hts
  obtain ⟨ad, tW, tM, hcs⟩ := st_cs hts hgv b
  have hzl := st_hl hts hgv
  have hF : zFr yL_law cL_law 7 p s m #[Value.ref b] meth c := ⟨hx, hb, hml, hown, fun w hw => hts w (List.mem_filter.mp hw).1, fun z => absurd z (by decide)⟩
  obtain ⟨scr, x1, x2, x3, x4, x5⟩ := hX
  have hbT : va_T .int b L (fun j => .int (Int32.ofInt ((fun k => (xs k).toInt) j))) (zA s.heap.size) s s.heap := ⟨scr, x1, x2, x3, Nat.le_of_eq x4.symm, by rw [x4] <;> rfl, fun j hj => by rw [x5 j hj]; show some (Value.int (xs j)) = some (Value.int (Int32.ofInt (xs j).toInt)); rw [Int32.ofInt_toInt], fun z => absurd hbl (Nat.not_lt.mpr z)⟩
  rw [lg_entry_eq]
  have hlv := lv_entry ([Value.ref b]) (n := 7) (Nat.le_of_ble_eq_true rfl)
  generalize (lg_sl ([Value.ref b]) ++ List.replicate (7 - (lg_sl ([Value.ref b])).length) Slot.unset).toArray = lsC at hlv ⊢
  have hl0 : lsC[0]? = some (.val (.ref b)) := by
    have := hlv.2.2 (0, Value.ref b) (by simp [lv_args])
    exact this
  refine start_go (dC := dC) (dI := dI) (aC := aC) (B := s.heap.size) (sl := L) (sx := fun k => (xs k).toInt) (ρ := stR ad tW tM b) (b := b) hst hF hL (fun k => zr32_of _) hzl ⟨zMz_hp, zMz_wf (fun t i k => ⟨fun z => zKI_r (fun k => zswm_r k) z, zKL_r (t := t) (k := k)⟩), zMz_kc, hcs, hks, ⟨hlv.1, hlv.2.1, fun i v hi => ?_⟩, fun i v hi => ?_, (fun v hv => by cases hv), Nat.le_refl _, va_S.rf⟩ rfl hbT ⟨by decide, by decide, by decide, by decide⟩ (fun pc' H' locs' lsC' v c' s' h1 h2 h3 h4 h5 => ?_)
  · rcases i with _ | i
    · cases hi
      exact hl0
    · rcases i with _ | _ | _ | _ | _ | _ | i <;> cases hi
  · rcases i with _ | i
    · cases hi
      intro i hi
      cases hi
      show 0 < zC0 13
      decide
    · rcases i with _ | _ | _ | _ | _ | _ | i <;> cases hi
  · refine va_forget (fun q hq => h3.2.2 q hq) ?_
    refine W.widen (k := 600128) (n := 7301098) (by omega) (by omega) ?_
    exact lw_ret2 hx hb hr hlocks h2 h1
