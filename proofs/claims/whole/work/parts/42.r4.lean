section ZR4S
variable {l : Launch} {B sl : Nat} {sx : Nat → Int}
def zOws : List Jvm.Cond := .code yJx29ce0_ordinal_8abf5 cJx29ce0_ordinal_8abf5 1 (some .int) :: [.fieldLink "java/lang/Enum" 7 "java/lang/Enum" "ordinal" "I"]
def zOP (a : Nat) (w : Int32) (B : Nat) : Array Value → State → Prop := fun v U => v = #[.ref a] ∧ va_OF "java/lang/Enum" "ordinal" "I" (.int w) a (zA B) U U.heap
def zOQ (w : Int32) : Array Value → State → Outcome → State → Prop := fun _ st oc t => oc = .returned (some (.int w)) ∧ t.heap = st.heap
theorem zOP_blind {a : Nat} {w : Int32} : FrameBlind (zOP a w B) := by
  intro v U g mk h
  exact ⟨h.1, va_OF.moved (u := U) (U := U.calling g mk v) (Vm.Alike.refl U.vm) h.2⟩
theorem zOmet (a : Nat) (w : Int32) : Met l yJx29ce0_ordinal_8abf5 zOws {} (zOP a w B) (zOQ w) 0 0 (fun _ => False) := by
  refine va_MetF (by decide +kernel) rfl ?_
  intro p e s m args below meth c s₁ hB hml hP
  obtain ⟨hargs, hO⟩ := hP
  subst hargs
  have hts := atoms_spec (ws := zOws) hB.pre
  have hown : s.vm.findClass "java/lang/Enum" = some m.cls := findClass_of_methodNamed hB.named
  rw [show (#[Value.ref a] : Array Value) = [Value.ref a].toArray from rfl, lg_entry_eq]
  have hlv := lv_entry [Value.ref a] (n := 1) (by show (1:Nat) ≤ 1; exact Nat.le_refl _)
  refine lv_aload_n hB.exec hB.bytes (show decode cJx29ce0_ordinal_8abf5 0 = .ok (.aload_n 0, 1) by decide +kernel) rfl (hlv.2.2 _ (List.mem_cons_self)) ?_
  refine vk_getf (A := zA B) hB.exec hB.bytes hO ⟨Nat.le_refl _, fun _ _ _ => rfl, fun _ h => by cases h⟩ hown (hts _ (by decide +kernel)) (fun _ z => z) (show decode cJx29ce0_ordinal_8abf5 1 = .ok (.getfield 7, 3) by decide +kernel) ?_
  exact W.iret hB.exec hB.bytes hB.returns (fun t ht _ => ⟨rfl, ht⟩) (fun _ h => by cases h) (show decode cJx29ce0_ordinal_8abf5 4 = .ok (.ireturn, 1) by decide +kernel) hB.notSynchronized
theorem zR4_ok : zR4 l B sl sx := by
  intro p e s m args below meth c R H locs cells slots lsC Q y cc nl pc idx ρ i rest hF hls hdg hlk hcat h1 h2 h3 h4 hc hB hS hi kk
  obtain ⟨hx, hb, hml, hown, hts, -⟩ := hF
  have hts2 : ∀ w ∈ (Jvm.Cond.methodLink y.cls idx ⟨"WakePark$Word", "ordinal", "()I"⟩ :: lw_tz), w.before args s = true := fun w hw => by
    rcases List.mem_cons.mp hw with rfl | z
    · exact hlk
    · exact hts w z
  have hgood : GoodIn (Jvm.Cond.methodLink y.cls idx ⟨"WakePark$Word", "ordinal", "()I"⟩ :: lw_tz) (va_wsU y.cls idx "WakePark$Word" "java/lang/Enum" ⟨"WakePark$Word", "ordinal", "()I"⟩ yJx29ce0_ordinal_8abf5 zOws) := by
    intro w hw
    rcases List.mem_cons.mp hw with rfl | z
    · exact ⟨List.mem_cons_self, .inl rfl⟩
    · have h0 : ∀ w ∈ ([.sameMethod "WakePark$Word" "java/lang/Enum" "ordinal" "()I", .selects "WakePark$Word" ⟨"WakePark$Word", "ordinal", "()I"⟩ yJx29ce0_ordinal_8abf5, .instanceMethod yJx29ce0_ordinal_8abf5, .initialized "java/lang/Enum", .code yJx29ce0_ordinal_8abf5 cJx29ce0_ordinal_8abf5 1 (some .int), .fieldLink "java/lang/Enum" 7 "java/lang/Enum" "ordinal" "I"] : List Jvm.Cond), w ∈ lw_tz ∧ zgdw w = true := by decide +kernel
      have h1 := h0 w z
      exact ⟨List.mem_cons_of_mem _ h1.1, zgdw_of h1.2⟩
  have hO := (hc.2.2.2.2.2.2.1 i hi).kept hS.2.1
  have hcell : ∃ cellB : Cell, H[ρ 12 i]? = some cellB ∧ cellB.vm.isStatics = false ∧ s.vm.findClass "WakePark$Word" = some cellB.cls := by
    obtain ⟨cell, k1, k2, k3, -⟩ := (hc.2.2.2.1 i hi).kept hS.2.1
    exact ⟨cell, k1, k2, k3⟩
  have hr := va_runU (p := p) (e := e) (below := below) (meth := meth) (R := R) (locs := locs) (cells := cells) (slots := slots) (H := H) (cc := cc) (nL := nl) (own := y.cls) (C := "WakePark$Word") (owner := "java/lang/Enum") (x := ⟨"WakePark$Word", "ordinal", "()I"⟩) (As := []) (rest := rest) (g := F0 m pc lsC (.ref (ρ 12 i) :: rest)) (b := ρ 12 i) ⟨hx, hb, hml, hown, hts2⟩ (zOmet (l := l) (B := B) (ρ 12 i) (Int32.ofInt (zKI sx 12 i 2))) (va_cwU 0 hts2 hgood rfl rfl rfl rfl ⟨by decide, by decide, by decide +kernel⟩ ⟨by show 0 + 1 ≤ _; omega, by show 8 + (1 + 11) + 0 ≤ _; omega⟩)
    ⟨zOP_blind, hcell, fun U hU hWm => ⟨rfl, by rw [hU]; exact va_OF.moved hWm.alike hO⟩⟩ rfl rfl hls rfl (by show 2 * 0 + _ ≤ 8; omega) hdg ⟨by show cells + 0 ≤ _; omega, by show slots + 0 ≤ _; omega⟩
  intro T hT X
  obtain ⟨v, st₀, t, T', L, h0, X', hL, e1, e2, ⟨hv, hh⟩, st⟩ := hr T hT X
  have hL0 : L = [] := by
    cases L with
    | nil => rfl
    | cons q L => exact (hL q List.mem_cons_self).elim
  subst hL0
  rw [List.append_nil] at X'
  have hv : v = some (.int (Int32.ofInt (zKI sx 12 i 2))) := Outcome.returned.inj hv
  subst hv
  obtain ⟨t2, a1, b1⟩ := kk T' (by rw [e1, hh, h0]) X'
  exact ⟨t2, st t2 a1, b1⟩
end ZR4S
