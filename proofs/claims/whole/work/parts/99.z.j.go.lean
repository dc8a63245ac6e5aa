section ZGOL
variable {l : Launch} {dC : Nat → ClassId} {dI : Nat → Nat → Nat} {aC : Nat → ClassId} {B sl b : Nat} {sx : Nat → Int} {p : Program} {e : Env} {s : State} {m : MethodId} {args : Array Value} {below : List Frame} {meth : Method} {c : Code} {R : Room} {Q : State → Prop} {ρ : Nat → Nat → Nat} {M : ZM}
def zMy (sx : Nat → Int) : ZM := (fun _ _ _ => 0, fun _ _ _ => 0, (none, none, none, none), (zF0, zN0, zKI sx, zKL, fun _ => 0), 0, 0)
theorem orF {a : Bool} (h : a = true) : (false || a) = true := by rw [Bool.false_or]; exact h
theorem andT {a b : Bool} (h : a = true) (h' : b = true) : (a && b) = true := by rw [h, h']; rfl
theorem lw_all : tb_L_law.all (fun z => (fun _ : Nat => false) z.1 || (zok yL_law.cls (decide (yL_law.name = "<init>")) 7 cL_law z && zokr (some .boolean) z.2)) = true := List.all_eq_true.mpr (fun z hz => orF (andT (lw_ok hz) (zand2 (List.all_eq_true.mp ck_L_law z hz)).2))
/-- the law's loop, from its head to the end -/
theorem loop_go (hst : l.stackTraces = false) (hF : zFr yL_law cL_law 7 p s m args meth c) (hsl : sl ≤ 448) (hzl : zhl B s) (hM : iOK M) {H : Heap} {lsC : Array Slot} {locs : List Loc} (hctx : zctx dC dI aC B sl sx ρ (zSw M sl sx) H s lsL lsC 7 [] locs) (hR : 47 ≤ R.frames ∧ 3144 ≤ R.locals ∧ zcells M + 65 ≤ R.cells ∧ zslots M + 390 ≤ R.slots)
    (hend : ∀ (pc' : Nat) (H' : Heap) (locs' : List Loc) (lsC' : Array Slot) (v : Int32) (c' s' : Nat), decode cL_law pc' = .ok (.ireturn, 1) → narrow .boolean (.int v) = .int 1 → va_S (zA B) s.heap H' locs' → c' ≤ zcells M + 65 → s' ≤ zslots M + 390 → W p l e R s m args below meth c H' locs' c' s' Q (F0 m pc' lsC' [.int v])) :
    W p l e R s m args below meth c H locs (zcells M) (zslots M) Q (F0 m 23 lsC []) := by
  obtain ⟨M', hgo, hc1, hs1⟩ := law_go (N := 20000) (sx := sx) (Nat.le_refl _) hsl 65 0 (zSw M sl sx) (by omega) (by omega) rfl ⟨aI, aI_v.1, aI_v.2, aI_c hM, aI_r hM⟩
  have hgo' : Lw_law_23 20000 65 0 0 0 0 0 (zSw M sl sx) = some (1, M') := hgo
  obtain ⟨⟨n, hz⟩, -⟩ := L_Lw_law_23 (d := 0) hgo' rfl
  replace hc1 : zcells M' ≤ zcells M + 65 := hc1
  replace hs1 : zslots M' ≤ zslots M + 390 := hs1
  obtain ⟨r1, r2, r3, r4⟩ := hR
  have hmo : zmo (zMy sx) (zSw M sl sx) := ⟨fun _ => Nat.zero_le _, Nat.zero_le _, Nat.zero_le _, rfl, rfl⟩
  have key := zsnd (l := l) (hl := zhl B) zchk zR4_ok (zr5 hst) n hz (Q := Q) (ρ := ρ) (ρ0 := ρ) (M0 := zMy sx) (R := R) (e := e) (below := below) hF (fun _ => ⟨hzl, by decide⟩) (sp := fun _ => false) (fun _ _ z => by cases z) lw_all hctx ⟨fun _ _ z => absurd z (Nat.not_lt_zero _), rfl⟩ hmo ⟨r1, r2, Nat.le_trans (Nat.sub_le _ _) (Nat.le_trans hc1 r3), Nat.le_trans (Nat.sub_le _ _) (Nat.le_trans hs1 r4)⟩
    (fun pc' ρ' H' locs' lsC' _ _ _ _ hS' => ⟨⟨(fun _ z => by cases z), fun y hd hy => ⟨(fun z => by cases z), fun _ hv => hend pc' H' locs' lsC' (Int32.ofInt y) _ _ hd (by
      have h1 : (1 : Int) = z_b1 y := Sum.inl.inj (Option.some.inj hv)
      have h2 : narrow .boolean (.int (Int32.ofInt y)) = .int (Int32.ofInt (z_b1 y)) := congrArg Value.int (zn_b1 hy)
      rw [h2, ← h1]
      rfl) hS' (Nat.le_trans (Nat.sub_le _ _) hc1) (Nat.le_trans (Nat.sub_le _ _) hs1)⟩, (fun _ _ _ z => by cases z)⟩, (fun z => by cases z)⟩)
  exact key
/-- the law from its entry -/
theorem start_go (hst : l.stackTraces = false) (hF : zFr yL_law cL_law 7 p s m args meth c) (hsl : sl ≤ 448) (hsx : ∀ k, zr32 (sx k)) (hzl : zhl B s) {lsC : Array Slot} (hctx : zctx dC dI aC B 30 zswm ρ zM0 s.heap s lsS lsC 7 [] []) (h13 : ρ 13 0 = b) (hb : va_T .int b sl (fun j => .int (Int32.ofInt (sx j))) (zA B) s s.heap) (hR : 47 ≤ R.frames ∧ 3144 ≤ R.locals ∧ 2000 ≤ R.cells ∧ 200000 ≤ R.slots)
    (hend : ∀ (pc' : Nat) (H' : Heap) (locs' : List Loc) (lsC' : Array Slot) (v : Int32) (c' s' : Nat), decode cL_law pc' = .ok (.ireturn, 1) → narrow .boolean (.int v) = .int 1 → va_S (zA B) s.heap H' locs' → c' ≤ 2000 → s' ≤ 200000 → W p l e R s m args below meth c H' locs' c' s' Q (F0 m pc' lsC' [.int v])) :
    W p l e R s m args below meth c s.heap [] 0 0 Q (F0 m 0 lsC []) := by
  obtain ⟨r1, r2, r3, r4⟩ := hR
  have c1 : zcells zMe ≤ 1000 := i_cells.1
  have c2 : zslots zMe ≤ 100000 := i_cells.2
  have q1 : zcells zMe + 65 ≤ 2000 := Nat.le_trans (Nat.add_le_add_right c1 65) (by decide)
  have q2 : zslots zMe + 390 ≤ 200000 := Nat.le_trans (Nat.add_le_add_right c2 390) (by decide)
  have z1 : zcells zM0 = 0 := rfl
  have z2 : zslots zM0 = 0 := rfl
  have k : zGo l dC dI aC B 30 zswm p e s m args below meth c R 7 Q ρ zM0 23 lsE [] zMe := by
    intro H locs lsC ρ' hC hag
    have hb13 : ρ' 13 0 = b := (hag.1 13 0 (by decide)).trans h13
    have h2 := sw_ctx (sl := sl) (sx := sx) i_agr (by omega) hsx hC hb13 hb
    rw [z1, z2, Nat.sub_zero, Nat.sub_zero]
    exact loop_go hst hF hsl hzl i_ok h2 ⟨r1, r2, Nat.le_trans q1 r3, Nat.le_trans q2 r4⟩ (fun pc' H' locs' lsC' v c' s' h1 h2 h3 h4 h5 => hend pc' H' locs' lsC' v c' s' h1 h2 h3 (Nat.le_trans h4 q1) (Nat.le_trans h5 q2))
  have key := pre_go hF ⟨Nat.le_trans (by decide) r1, Nat.le_trans (by decide) r2, Nat.le_trans (by decide) r3, Nat.le_trans (by decide) r4⟩ k hctx ⟨fun _ _ _ => rfl, rfl⟩
  rw [Nat.sub_self, Nat.sub_self] at key
  exact key
end ZGOL
