section ZPRE
variable {l : Launch} {dC : Nat → ClassId} {dI : Nat → Nat → Nat} {aC : Nat → ClassId} {B sl : Nat} {sx : Nat → Int} {p : Program} {e : Env} {s : State} {m : MethodId} {args : Array Value} {below : List Frame} {meth : Method} {c : Code} {R : Room} {Q : State → Prop} {ρ0 : Nat → Nat → Nat}
theorem lw_ok {z : Nat × ZE} (hz : z ∈ tb_L_law) : zok yL_law.cls (decide (yL_law.name = "<init>")) 7 cL_law z = true := by
  have h := (zand2 (List.all_eq_true.mp ck_L_law z hz)).1
  rw [show decide (yL_law.name = "<init>") = false by decide]
  exact h
def lsS : ZL := [some (vR 13 (some 0)), none, none, none, none, none, none]
def lsE : ZL := [some (vR 13 (some 0)), some (vR 10 (some 0)), some (vR 11 (some 0)), some (vR 103 (some 0)), some (vI 0), none, none]
/-- the law up to its loop: both constructors, the row for answers -/
theorem pre_gen {Ma Mb Mc Md Me : ZM} (hA : Ma = pNew zM0 10 15) (run1 : zex zG 12 tb_X12_init 0 (zen 2 [vR 10 (some 0)]) [] Ma 3000 = some (none, Mb)) (hC : Mc = pNew Mb 11 60) (hb : mC Mb 11 = 0) (run2 : zex zG 12 tb_X13_init 0 (zen 1 [vR 11 (some 0)]) [] Mc 3000 = some (none, Md)) (hd : mC Md 103 = 0) (hE : Me = pNew (pLen Md 103 0 1) 103 1) (hc : zcells Me ≤ 1000 ∧ zslots Me ≤ 100000)
    (hF : zFr yL_law cL_law 7 p s m args meth c) (hR : 14 ≤ R.frames ∧ 1032 ≤ R.locals ∧ 1000 ≤ R.cells ∧ 100000 ≤ R.slots) (k : zGo l dC dI aC B sl sx p e s m args below meth c R 7 Q ρ0 zM0 23 lsE [] Me) : zGo l dC dI aC B sl sx p e s m args below meth c R 7 Q ρ0 zM0 0 lsS [] zM0 := by
  obtain ⟨r1, r2, r3, r4⟩ := hR
  have ih : zSnd l dC dI aC B sl sx (fun _ => False) 3000 := zsnd zchk zR4_ok zR5_no 3000
  have pr_1 : zmo zM0 Ma := by rw [hA]; exact zmo_new _ _ _
  have pr_2 : zmo Ma Mb := zex_mo run1
  have pr_3 : zmo Mb Mc := by rw [hC]; exact zmo_new _ _ _
  have pr_4 : zmo Mc Md := zex_mo run2
  have e1 : zcells Me = zcells Md + 1 := by rw [hE]; rfl
  have e2 : zcells Mc = zcells Mb + 1 := by rw [hC]; rfl
  have f1 : zslots Me = zslots Md + 1 := by rw [hE]; rfl
  have f2 : zslots Mc = zslots Mb + 60 := by rw [hC]; rfl
  have a2 : zcells Ma ≤ zcells Mb := pr_2.2.1
  have a4 : zcells Mc ≤ zcells Md := pr_4.2.1
  have b2 : zslots Ma ≤ zslots Mb := pr_2.2.2.1
  have b4 : zslots Mc ≤ zslots Md := pr_4.2.2.1
  have s20 : zGo l dC dI aC B sl sx p e s m args below meth c R 7 Q ρ0 zM0 20 [some (vR 13 (some 0)), some (vR 10 (some 0)), some (vR 11 (some 0)), some (vR 103 (some 0)), none, none, none] [] Me :=
    zg_iconst hF (lw_ok (zfd_mem (pc := 20) rfl)) (zg_istore hF (i := 4) (lw_ok (zfd_mem (pc := 21) rfl)) k)
  have s19 : zGo l dC dI aC B sl sx p e s m args below meth c R 7 Q ρ0 zM0 19 [some (vR 13 (some 0)), some (vR 10 (some 0)), some (vR 11 (some 0)), none, none, none, none] [vR 103 (some 0)] Me :=
    zg_astore hF (i := 3) (lw_ok (zfd_mem (pc := 19) rfl)) s20
  have s16 : zGo l dC dI aC B sl sx p e s m args below meth c R 7 Q ρ0 zM0 16 [some (vR 13 (some 0)), some (vR 10 (some 0)), some (vR 11 (some 0)), none, none, none, none] [] Md := by
    refine zg_iconst hF (lw_ok (zfd_mem (pc := 16) rfl)) (zg_newl hF (t := 103) (x := 1) (lw_ok (zfd_mem (pc := 17) rfl)) rfl (by decide) ⟨by decide, by decide⟩ (zmo_tr (zmo_tr (zmo_tr pr_1 pr_2) pr_3) pr_4) ⟨by omega, by omega⟩ ?_)
    rw [hd]
    rw [hE] at s19
    exact s19
  have s15 : zGo l dC dI aC B sl sx p e s m args below meth c R 7 Q ρ0 zM0 15 [some (vR 13 (some 0)), some (vR 10 (some 0)), none, none, none, none, none] [vR 11 (some 0)] Md :=
    zg_astore hF (i := 2) (lw_ok (zfd_mem (pc := 15) rfl)) s16
  have s11 : zGo l dC dI aC B sl sx p e s m args below meth c R 7 Q ρ0 zM0 11 [some (vR 13 (some 0)), some (vR 10 (some 0)), none, none, none, none, none] [vR 11 (some 0)] Mc :=
    zg_dup hF (lw_ok (zfd_mem (pc := 11) rfl)) (zg_init hF (lw_ok (zfd_mem (pc := 12) rfl)) ih (zchk 149 tb_X13_init 1 rfl) run2 (by decide) (by decide) (zmo_tr (zmo_tr pr_1 pr_2) pr_3) ⟨by omega, by omega, by omega, by omega⟩ s15)
  have s8 : zGo l dC dI aC B sl sx p e s m args below meth c R 7 Q ρ0 zM0 8 [some (vR 13 (some 0)), some (vR 10 (some 0)), none, none, none, none, none] [] Mb := by
    refine zg_new hF (t := 11) (lw_ok (zfd_mem (pc := 8) rfl)) rfl (zmo_tr pr_1 pr_2) ⟨by omega, by show zslots Mb + 60 - zslots zM0 ≤ _; omega⟩ ?_
    rw [hb]
    rw [hC] at s11
    exact s11
  have s7 : zGo l dC dI aC B sl sx p e s m args below meth c R 7 Q ρ0 zM0 7 lsS [vR 10 (some 0)] Mb :=
    zg_astore hF (i := 1) (lw_ok (zfd_mem (pc := 7) rfl)) s8
  have s3 : zGo l dC dI aC B sl sx p e s m args below meth c R 7 Q ρ0 zM0 3 lsS [vR 10 (some 0)] Ma :=
    zg_dup hF (lw_ok (zfd_mem (pc := 3) rfl)) (zg_init hF (lw_ok (zfd_mem (pc := 4) rfl)) ih (zchk 96 tb_X12_init 2 rfl) run1 (by decide) (by decide) pr_1 ⟨by omega, by omega, by omega, by omega⟩ s7)
  have s3' : zGo l dC dI aC B sl sx p e s m args below meth c R 7 Q ρ0 zM0 (0 + 3) lsS (.inr (.inr (10, some (mC zM0 10))) :: []) (pNew zM0 10 (znf 10)) := by
    rw [i_mc.2.1]
    rw [hA] at s3
    exact s3
  have n1 : znw zM0 10 = true := by rw [show znw zM0 10 = Nat.beq (mC zM0 10) 0 from rfl, i_mc.2.1]; rfl
  have n2 : zcells zM0 + 1 - zcells zM0 ≤ R.cells ∧ zslots zM0 + znf 10 - zslots zM0 ≤ R.slots := ⟨Nat.le_trans (show (0 + 1 - 0 : Nat) ≤ 1000 by decide) r3, Nat.le_trans (show (0 + 15 - 0 : Nat) ≤ 100000 by decide) r4⟩
  intro H locs lsC ρ hC hag
  exact zg_new (j := 135) (idx := 8) hF (lw_ok (zfd_mem (pc := 0) rfl)) n1 (zmo_rf _) n2 s3' hC hag
theorem pre_go (hF : zFr yL_law cL_law 7 p s m args meth c) (hR : 14 ≤ R.frames ∧ 1032 ≤ R.locals ∧ 1000 ≤ R.cells ∧ 100000 ≤ R.slots) (k : zGo l dC dI aC B sl sx p e s m args below meth c R 7 Q ρ0 zM0 23 lsE [] zMe) : zGo l dC dI aC B sl sx p e s m args below meth c R 7 Q ρ0 zM0 0 lsS [] zM0 :=
  pre_gen (Ma := zMa) (Mb := zMb) (Mc := zMc) (Md := zMd) (Me := zMe) rfl i_run1 rfl i_mc.2.2.1 i_run2 i_mc.1 rfl i_cells hF hR k
end ZPRE
