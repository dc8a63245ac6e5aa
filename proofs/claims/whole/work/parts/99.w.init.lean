section INIT
def zF0 : ZF := fun t _ k => if t = 100 then (if k < 30 then some k else none) else none
def zN0 (t _i : Nat) : Nat := if t = 100 then 30 else if t = 101 then 30 else if t = 102 then 30 else 0
def zC0 (t : Nat) : Nat := if t = 12 then 30 else if t = 13 then 1 else if t = 100 then 1 else if t = 101 then 1 else 0
/-- before the law runs: nothing is made; what is no constant of the class is left out -/
def zM0 : ZM := (fun _ _ _ => 0, fun _ _ _ => 0, (none, none, none, none), (zF0, zN0, zKI zswm, zKL, zC0), 0, 0)
def zgM (o : Option ZR) : ZM := match o with
  | some p => p.2
  | none => zM0
def zgN (o : Option ZR) : Bool := match o with
  | some (none, _) => true
  | _ => false
theorem zgN_s {o : Option ZR} (h : zgN o = true) : o = some (none, zgM o) := by
  rcases o with _ | ⟨_ | v, M⟩
  · cases h
  · rfl
  · cases h
def zMa : ZM := pNew zM0 10 15
def zMb : ZM := zgM (zex zG 12 tb_X12_init 0 (zen 2 [vR 10 (some 0)]) [] zMa 3000)
def zMc : ZM := pNew zMb 11 60
def zMd : ZM := zgM (zex zG 12 tb_X13_init 0 (zen 1 [vR 11 (some 0)]) [] zMc 3000)
def zMe : ZM := pNew (pLen zMd 103 0 1) 103 1
theorem i_run1 : zex zG 12 tb_X12_init 0 (zen 2 [vR 10 (some 0)]) [] zMa 3000 = some (none, zMb) := zgN_s (by decide +kernel)
theorem i_run2 : zex zG 12 tb_X13_init 0 (zen 1 [vR 11 (some 0)]) [] zMc 3000 = some (none, zMd) := zgN_s (by decide +kernel)
/-- counts and references agree -/
def zagF (M : ZM) (t i : Nat) : Bool := (List.range (znf t)).all fun k => !(Nat.beq (zfp t k).1 3) || decide (mF M t i k = zFc t i k)
def zagA (M : ZM) (t i : Nat) : Bool := decide (mN M t i = zlen 0 t i) && (!(Nat.beq (zek t) 4) || (List.range (zlen 0 t i)).all fun k => decide (mF M t i k = zFc t i k))
def zagr (M : ZM) : Bool := (List.range 104).all fun t => (Nat.beq t 13 || Nat.beq t 102 || decide (mC M t = zcn t)) && (if t < 12 then (List.range (zcn t)).all (zagF M t) else !(zmt t) || (List.range (zcn t)).all (zagA M t))
theorem i_agr : zagr zMe = true := by decide +kernel
theorem i_mc : mC zMd 103 = 0 ∧ mC zM0 10 = 0 ∧ mC zMb 11 = 0 ∧ mC zMe 102 = 0 ∧ mC zMe 13 = 1 := by decide +kernel
theorem i_cells : zMe.2.2.2.2.1 ≤ 1000 ∧ zMe.2.2.2.2.2 ≤ 100000 := by decide +kernel
end INIT
