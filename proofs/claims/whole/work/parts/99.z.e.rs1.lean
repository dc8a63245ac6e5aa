section ZRS1
variable {l : Launch} {dC : Nat → ClassId} {dI : Nat → Nat → Nat} {aC : Nat → ClassId} {B sl : Nat} {sx : Nat → Int} {ρ : Nat → Nat → Nat} {x : Nat} {p0 p1 p2 p3 : Int}
def kE : String := "java/util/NoSuchElementException"
/-- two statics that are read where an exception is made -/
def zhl (B : Nat) (U : State) : Prop := vx_Zq Bundle.tN "UNASSIGNED_STACK" Bundle.steD (zA B) U U.heap ∧ vx_Zq Bundle.tN "SUPPRESSED_SENTINEL" Bundle.listD (zA B) U U.heap
theorem zhl_at {s U : State} {H : Heap} {locs : List Loc} (h : zhl B s) (hS : va_S (zA B) s.heap H locs) (hU : U.heap = H) (hv : s.vm.Alike U.vm) : zhl B U := by
  unfold zhl
  rw [hU]
  exact ⟨vx_Zq.moved hv (h.1.kept hS.2.1), vx_Zq.moved hv (h.2.kept hS.2.1)⟩
def kAs (x : Nat) (p0 p1 p2 p3 : Int) : List ZV := [vR 10 (some x), vI p0, vI p1, vI p2, vI p3]
def kPc (dC : Nat → ClassId) (dI : Nat → Nat → Nat) (aC : Nat → ClassId) (B sl : Nat) (sx : Nat → Int) (ρ : Nat → Nat → Nat) (x : Nat) (p0 p1 p2 p3 : Int) : Array Value → State → Prop := fun v U =>
  v = ((kAs x p0 p1 p2 p3).map (zcv ρ)).toArray ∧ zcs ρ B sl sx U U.heap ∧ zks dC dI aC U ∧ zbad U ∧ zhl B U ∧ B ≤ U.heap.size
theorem kPc_blind : FrameBlind (kPc dC dI aC B sl sx ρ x p0 p1 p2 p3) := by
  intro a U g mk h
  obtain ⟨h1, h2, h3, h4, h5, h6⟩ := h
  exact ⟨h1, zcs.moved (u := U) (U := U.calling g mk a) (Vm.Alike.refl U.vm) h2, va_K.moved (u := U) (U := U.calling g mk a) (Vm.Alike.refl U.vm) h3, zbad.same (u := U) (U := U.calling g mk a) rfl h4, ⟨vx_Zq.moved (u := U) (U := U.calling g mk a) (Vm.Alike.refl U.vm) h5.1, vx_Zq.moved (u := U) (U := U.calling g mk a) (Vm.Alike.refl U.vm) h5.2⟩, h6⟩
def kWs : List Jvm.Cond := .code yX12_rests cX12_rests 9 (some .int) :: lw_tz.filter zgdw
theorem kRun {p : Program} {e : Env} {s : State} {m : MethodId} {below : List Frame} {meth : Method} {c : Code} {R : Room} {Q : State → Prop} {r : Option ZV} {n : Nat} (hF : zFr yX12_rests cX12_rests 9 p s m ((kAs x p0 p1 p2 p3).map (zcv ρ)).toArray meth c) (hc : zcs ρ B sl sx s s.heap) (hs : zks dC dI aC s) (hBs : B ≤ s.heap.size) (hkk : ∀ t i k, ((t = 12 → i < 30) → zr32 (zKI sx t i k)) ∧ zr64 (zKL t i k)) (h0 : zr32 p0) (h1 : zr32 p1) (h2 : zr32 p2) (h3 : zr32 p3)
    (hz : zex zG 5 tb_rs 0 [none, some (vI p0), some (vI p1), some (vI p2), some (vI p3), none, none, none, none] [] (zMz sx) n = some (r, zMz sx)) (hR : 6 ≤ R.frames ∧ 520 ≤ R.locals)
    (hret : ∀ (pc' : Nat) (H' : Heap) (locs' : List Loc) (lsC' : Array Slot), va_S (zA s.heap.size) s.heap H' locs' → zRt cX12_rests pc' (some .int) r (fun vs => W p l e R s m ((kAs x p0 p1 p2 p3).map (zcv ρ)).toArray below meth c H' locs' 0 0 Q (F0 m pc' lsC' vs)) ∧ (zsp pc' = true → r = none → lsC'.size = 9 → W p l e R s m ((kAs x p0 p1 p2 p3).map (zcv ρ)).toArray below meth c H' locs' 0 0 Q (F0 m pc' lsC' []))) :
    W p l e R s m ((kAs x p0 p1 p2 p3).map (zcv ρ)).toArray below meth c s.heap [] 0 0 Q (entryFrame m ((kAs x p0 p1 p2 p3).map (zcv ρ)).toArray 9) := by
  rw [lg_entry_eq]
  have hlv := lv_entry ((kAs x p0 p1 p2 p3).map (zcv ρ)) (n := 9) (by rw [zsz_len]; show 5 ≤ 9; omega)
  have key := zsnd (l := l) (hl := fun _ => False) (B := s.heap.size) (sl := sl) (sx := sx) zchk zR4_ok zR5_no n hz (Q := Q) (ρ := ρ) (ρ0 := ρ) (M0 := zMz sx) (R := R) (e := e) (below := below) hF (fun z => absurd z (by decide)) (sp := zsp) rs_sp rs_ok
    (H := s.heap) (locs := []) (⟨zMz_hp, zMz_wf hkk, zMz_kc, zcs_nw hBs hc, hs, ⟨hlv.1, hlv.2.1, fun i v hi => by
      cases i with
      | zero => cases hi
      | succ i =>
        have h9 : znt (zen 9 (kAs x p0 p1 p2 p3)) (i + 1) = some v := hi
        have := hlv.2.2 _ (zen_nt (ρ := ρ) (i := 0) h9)
        simpa using this⟩, fun i v hi => by
        rcases i with _ | _ | _ | _ | _ | i
        · cases hi
        · cases hi; exact h0
        · cases hi; exact h1
        · cases hi; exact h2
        · cases hi; exact h3
        · rcases i with _ | _ | _ | _ | i <;> (cases hi), (fun v hv => by cases hv), Nat.le_refl _, va_S.rf⟩)
    ⟨fun _ _ _ => rfl, rfl⟩ (zmo_rf _) ⟨hR.1, hR.2, by rw [Nat.sub_self]; exact Nat.zero_le _, by rw [Nat.sub_self]; exact Nat.zero_le _⟩
    (fun pc' ρ' H' locs' lsC' _ _ _ _ hS' => by rw [Nat.sub_self, Nat.sub_self]; exact hret pc' H' locs' lsC' hS')
  rw [Nat.sub_self, Nat.sub_self] at key
  exact key
theorem kFr {p : Program} {e : Env} {s s₁ : State} {m : MethodId} {below : List Frame} {meth : Method} {c : Code} {rm : Room} {args : Array Value} (hB : BodyLoose p l yX12_rests (headSpec kWs rm) cX12_rests 9 (some .int) e s m args below meth c s₁) (hml : c.maxLocals = 9) (hbd : zbad s) : zFr yX12_rests cX12_rests 9 p s m args meth c := by
  have hts := atoms_spec (ws := kWs) hB.pre
  have hown : s.vm.findClass yX12_rests.cls = some m.cls := findClass_of_methodNamed hB.named
  refine ⟨hB.exec, hB.bytes, hml, hown, fun w hw => ?_, fun z => absurd z (by decide)⟩
  rcases zor2 ((List.mem_filter.mp hw).2) with z | z
  · exact hts w (List.mem_cons_of_mem _ (List.mem_filter.mpr ⟨hw, z⟩))
  · exact hbd.use hw z
/-- WakePark.rests where it answers -/
theorem kA (hkk : ∀ t i k, ((t = 12 → i < 30) → zr32 (zKI sx t i k)) ∧ zr64 (zKL t i k)) (h0 : zr32 p0) (h1 : zr32 p1) (h2 : zr32 p2) (h3 : zr32 p3) (hno : ¬ zrt p0 p1 p2 p3 = 1) : Met l yX12_rests kWs { frames := 6, cells := 0, slots := 0, locals := 520 } (kPc dC dI aC B sl sx ρ x p0 p1 p2 p3) (fun _ st oc t => oc = .returned (some (.int (Int32.ofInt (zrv p0 p1 p2 p3)))) ∧ t.heap = st.heap) 0 0 (zA B) := by
  refine va_MetF (by decide +kernel) rfl ?_
  intro p e s m args below meth c s₁ hB hml hP
  obtain ⟨hargs, hc, hs, hbd, hz, hBs⟩ := hP
  subst hargs
  obtain ⟨⟨n, hn⟩, -⟩ := LK_Rsi (d := 3) (KK := mK (zMz sx)) (k_rsI (N := 2000) (M := zMz sx) (Nat.le_refl _) hno) rfl
  refine kRun (kFr hB hml hbd) hc hs hBs hkk h0 h1 h2 h3 hn ⟨Nat.le_refl _, Nat.le_refl _⟩ (fun pc' H' locs' lsC' hS' => ⟨⟨(fun _ z _ => by cases z), (fun y hd hy => ⟨fun _ hv => ?_, (fun z => by cases z)⟩), (fun y hd hy z => by cases z)⟩, (fun _ z => by cases z)⟩)
  cases hv
  refine W_sz (fun hz => ?_)
  exact W.iret hB.exec hB.bytes hB.returns (fun t ht _ => ⟨rfl, by rw [ht]; exact hp_eq hS' hz⟩) (fun q hq => Nat.le_trans hBs (hS'.2.2 q hq)) hd hB.notSynchronized
def kXC : String → State → State → Prop := fun E st t => E = kE ∧ st.heap.size ≤ t.heap.size ∧ ∀ q : Nat, q < st.heap.size → t.heap[q]? = st.heap[q]?
theorem k_words : ∀ w ∈ vx_at0 RX12 291 kE ["java/lang/RuntimeException", "java/lang/Exception"], w ∈ lw_tz := by decide +kernel
theorem k_good : ∀ w ∈ Jvm.Cond.classLink RX12 289 kE :: Jvm.Cond.initialized kE :: vx_at0 RX12 291 kE ["java/lang/RuntimeException", "java/lang/Exception"], vx_ot w = true := by decide +kernel
theorem k_two : ∀ w ∈ ([.classLink RX12 289 kE, .initialized kE] : List Jvm.Cond), w ∈ lw_tz := by decide +kernel
/-- .. and where it throws -/
theorem kB (hst : l.stackTraces = false) (hkk : ∀ t i k, ((t = 12 → i < 30) → zr32 (zKI sx t i k)) ∧ zr64 (zKL t i k)) (h0 : zr32 p0) (h1 : zr32 p1) (h2 : zr32 p2) (h3 : zr32 p3) (hyes : zrt p0 p1 p2 p3 = 1) : vx_Met l yX12_rests kWs { frames := 6, cells := 1, slots := 6, locals := 520 } (kPc dC dI aC B sl sx ρ x p0 p1 p2 p3) (fun _ _ _ _ => False) kXC 1 6 (zA B) := by
  refine vx_ofW (by decide +kernel) rfl ?_
  intro p e s m args below meth c s₁ hB hml htab hP
  obtain ⟨hargs, hc, hs, hbd, hz, hBs⟩ := hP
  subst hargs
  have hF := kFr hB hml hbd
  obtain ⟨-, -, -, hown, hts, -⟩ := id hF
  obtain ⟨⟨n, hn⟩, -⟩ := LK_Rsv (d := 3) (KK := mK (zMz sx)) (k_rsV (N := 2000) (M := zMz sx) (Nat.le_refl _) hyes) rfl
  refine kRun hF hc hs hBs hkk h0 h1 h2 h3 hn ⟨Nat.le_refl _, Nat.le_refl _⟩ (fun pc' H' locs' lsC' hS' => ⟨⟨(fun _ z => by cases z), (fun y hd hy => ⟨(fun _ hv => by cases hv), (fun z => by cases z)⟩), (fun y hd hy z => by cases z)⟩, fun hsp _ hls => ?_⟩)
  have hA : ∀ q, zA s.heap.size q → zA B q := fun q hq => Nat.le_trans hBs hq
  have go : ∀ pc : Nat, decode cX12_rests pc = .ok (.new 289, 3) → decode cX12_rests (pc + 3) = .ok (.dup, 1) → decode cX12_rests (pc + 4) = .ok (.invokespecial 291, 3) → decode cX12_rests (pc + 7) = .ok (.athrow, 1) → W p l e (headSpec kWs { frames := 6, cells := 1, slots := 6, locals := 520 }).room s m ((kAs x p0 p1 p2 p3).map (zcv ρ)).toArray below meth c H' locs' 0 0 (vx_MQ below (fun _ _ _ _ => False) kXC ((kAs x p0 p1 p2 p3).map (zcv ρ)).toArray s 1 6 (zA B)) (F0 m pc lsC' []) := fun pc d0 d3 d4 d7 =>
    vx_throw0 (cc := cX12_rests) (own := RX12) (cls := kE) (names := ["java/lang/RuntimeException", "java/lang/Exception"]) (ik := 289) (ic := 291) (A := zA s.heap.size) hB.exec hB.bytes hst hown (by decide +kernel) (by decide +kernel) (hts _ (k_two _ (by simp))) (hts _ (k_two _ (by simp))) (fun w hw => hts w (k_words w hw)) k_good (hz.1.narrow hA) (hz.2.narrow hA) hS' (hls.trans hml.symm) d0 d3 d4 d7 (fun y hy => (htab y hy).elim) (show 2 + 3 < 6 by omega) (show 0 + (13 * (2 + 1) + 42) ≤ 520 by omega) (show 0 + 1 ≤ 1 by omega) (show 0 + 6 ≤ 6 by omega) hB.notSynchronized
      (fun t _ z1 z2 => ⟨rfl, Nat.le_trans hS'.1 z1, fun q hq => by rw [z2 q (Nat.lt_of_lt_of_le hq hS'.1)]; exact hS'.2.1 q hq (fun z => absurd z (Nat.not_le.mpr hq))⟩) (fun z hz => hA _ (hS'.2.2 z hz)) (by omega) (by omega)
  rcases zor2 hsp with z | z <;> (have z := Nat.eq_of_beq_eq_true z; subst z)
  · exact go 27 (by decide +kernel) (by decide +kernel) (by decide +kernel) (by decide +kernel)
  · exact go 110 (by decide +kernel) (by decide +kernel) (by decide +kernel) (by decide +kernel)
end ZRS1
