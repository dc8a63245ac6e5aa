def mCan (P : PK) (S : SK) (d : Int) (t : Nat) : Bool := if d = 0 then true else if d = 1 then zbt (sO S) t else if d = 2 then !zbt (sO S) t else if d = 3 then (zbt (sB S) t && decide ((sT S).tmod (qT P 11 1) = 0)) else false
def mAct (S : SK) (d : Int) (t : Nat) (a : Int) : SK := if d = 0 then (mPut (sA S) t a, S.2) else if d = 1 then sWO S (zdif (sO S) (2 ^ t)) else if d = 2 then sWO S (sO S ||| 2 ^ t) else (sA S, mPut (sW S) t 0, sO S, zdif (sB S) (2 ^ t), sT S, sS S)
def mBeg (P : PK) : SK := (fun _ => 2, fun _ => 0, 2 ^ qN P - 1, 0, 0, 0)
theorem mBeg_v {P : PK} : VS 0 P (mBeg P) := ⟨Nat.sub_lt (Nat.pow_pos (by decide)) (by decide), Nat.pow_pos (by decide), fun k _ => by show (0 : Int) ≤ 2 ∧ (2 : Int) ≤ 4; omega, ⟨Int.le_refl 0, fun k _ => by show zr32 0; unfold zr32; omega⟩, Int.le_refl 0⟩
theorem VS.act {c : Nat} {P : PK} {S : SK} (h : VS c P S) {d a : Int} {t : Nat} (ht : t < qN P) (ha : 0 ≤ a ∧ a ≤ 4) : VS c P (mAct S d t a) := by
  have hp : 2 ^ t < 2 ^ qN P := Nat.pow_lt_pow_right (by decide) ht
  obtain ⟨h1, h2, h3, h4, h5⟩ := h
  unfold mAct
  split
  · refine ⟨h1, h2, fun k hk => ?_, h4, h5⟩
    show 0 ≤ mPut (sA S) t a k ∧ mPut (sA S) t a k ≤ 4
    unfold mPut
    split
    · exact ha
    · exact h3 k hk
  · split
    · exact ⟨Nat.lt_of_le_of_lt zdif_lt h1, h2, h3, h4, h5⟩
    · split
      · exact ⟨Nat.or_lt_two_pow h1 hp, h2, h3, h4, h5⟩
      · refine ⟨h1, Nat.lt_of_le_of_lt zdif_lt h2, h3, ⟨h4.1, fun k hk => ?_⟩, h5⟩
        show zr32 (mPut (sW S) t 0 k)
        unfold mPut
        split
        · unfold zr32; omega
        · exact h4.2 k hk
section ACT
variable {N c p i : Nat} {P : PK} {S : SK} {M : ZM}
theorem c_can (hv : VP P) (hz : VS c P S) (hp : CP p P M) (hs : CS i S M) (d : Int) {t : Nat} (ht : t < qN P) : St_can N i p d t M = some (if mCan P S d t then 1 else 0, M) := by
  have h6 := hv.n
  unfold St_can mCan
  rw [if_neg (by omega), hp.n, if_pos (by omega)]
  by_cases b0 : d = 0
  · simp [b0]
  · rw [if_neg b0, if_neg b0]
    by_cases b1 : d = 1
    · rw [if_pos b1, if_pos b1, c_isOpen hs (hz.o hv) (by omega), zB_s]
      cases zbt (sO S) t <;> rfl
    · rw [if_neg b1, if_neg b1]
      by_cases b2 : d = 2
      · rw [if_pos b2, if_pos b2, c_isOpen hs (hz.o hv) (by omega), zB_s]
        cases zbt (sO S) t <;> rfl
      · rw [if_neg b2, if_neg b2]
        by_cases b3 : d = 3
        · rw [if_pos b3, if_pos b3, c_isBroken hs (hz.b hv) (by omega), zB_s]
          cases hb : zbt (sB S) t
          · rfl
          · have hsl := hv.sl
            rw [if_pos rfl, if_neg (by decide)]
            unfold Pa_isSlack
            rw [hp.sl, hs.t, if_pos (by omega), if_neg (by omega)]
            by_cases b4 : (sT S).tmod (qT P 11 1) = 0
            · rw [if_pos b4, zB_s]; simp [b4]
            · rw [if_neg b4, zB_s]; simp [b4]
        · rw [if_neg b3, if_neg b3]; rfl
theorem c_can0 (hp : CP p P M) {d x : Int} (hx : ¬ (0 ≤ x ∧ x < qN P)) : St_can N i p d x M = some (0, M) := by
  unfold St_can
  rw [hp.n]
  by_cases b : x < 0
  · rw [if_pos b]
  · rw [if_neg b, if_neg (by omega)]
theorem c_act (hv : VP P) (hz : VS c P S) (hp : CP p P M) (hs : CS i S M) {d a : Int} (hd : 0 ≤ d ∧ d ≤ 3) {t : Nat} (ht : t < qN P) : (mCan P S d t = false ∧ St_act N i p d t a M = some (0, M)) ∨ (mCan P S d t = true ∧ ∃ M', St_act N i p d t a M = some (1, M') ∧ zfr (fS i) M M' ∧ CS i (mAct S d t a) M') := by
  have h6 := hv.n
  have h64 := hz.o hv
  have hb64 := hz.b hv
  have hp2 : 2 ^ t < 64 := p2_64 (by omega)
  unfold St_act
  rw [c_can hv hz hp hs d ht, zB_s]
  cases hc : mCan P S d t
  · exact .inl ⟨rfl, rfl⟩
  · refine .inr ⟨rfl, ?_⟩
    rw [if_pos rfl, if_neg (by decide)]
    simp only [zW_e]
    unfold mAct
    have ho := hs.o
    have hbr := hs.b
    obtain ⟨q1, q2, q3, q4, q5⟩ := hs
    rw [zsh_n t (by omega), ho, hbr, zdif_n _ h64 _ hp2, zdif_n _ hb64 _ hp2, zor_n _ h64 _ hp2]
    by_cases b0 : d = 0
    · rw [if_pos b0, if_pos b0, zI_t (by omega), Int.toNat_natCast]
      refine ⟨_, rfl, (zfr.rf M).pI (by simp [fS]), fun k hk => ⟨?_, ?_⟩, ?_, ?_, ?_, ?_⟩
      · rw [mI_pI]
        show _ = mPut (sA S) t a k
        unfold mPut
        by_cases e : k = t
        · rw [if_pos ⟨rfl, rfl, e⟩, if_pos e]
        · rw [if_neg (by omega), if_neg e]; exact (q1 k hk).1
      · rw [mI_pI_ne (by omega)]; exact (q1 k hk).2
      all_goals rw [mI_pI_ne (by omega)]; assumption
    · rw [if_neg b0, if_neg b0]
      by_cases b1 : d = 1
      · rw [if_pos b1, if_pos b1]
        refine ⟨_, rfl, (zfr.rf M).pI (by simp [fS]), fun k hk => ⟨?_, ?_⟩, mI_pI_eq, ?_, ?_, ?_⟩
        · rw [mI_pI_ne (by omega)]; exact (q1 k hk).1
        · rw [mI_pI_ne (by omega)]; exact (q1 k hk).2
        all_goals rw [mI_pI_ne (by omega)]; assumption
      · rw [if_neg b1, if_neg b1]
        by_cases b2 : d = 2
        · rw [if_pos b2, if_pos b2]
          refine ⟨_, rfl, (zfr.rf M).pI (by simp [fS]), fun k hk => ⟨?_, ?_⟩, mI_pI_eq, ?_, ?_, ?_⟩
          · rw [mI_pI_ne (by omega)]; exact (q1 k hk).1
          · rw [mI_pI_ne (by omega)]; exact (q1 k hk).2
          all_goals rw [mI_pI_ne (by omega)]; assumption
        · rw [if_neg b2, if_neg b2, zI_t (by omega), Int.toNat_natCast]
          refine ⟨_, rfl, ((zfr.rf M).pI (by simp [fS])).pI (by simp [fS]), fun k hk => ⟨?_, ?_⟩, ?_, ?_, ?_, ?_⟩
          · rw [mI_pI_ne (by omega), mI_pI_ne (by omega)]; exact (q1 k hk).1
          · rw [mI_pI]
            show _ = mPut (sW S) t 0 k
            unfold mPut
            by_cases e : k = t
            · rw [if_pos ⟨rfl, rfl, e⟩, if_pos e]
            · rw [if_neg (by omega), if_neg e, mI_pI_ne (by omega)]; exact (q1 k hk).2
          · rw [mI_pI_ne (by omega), mI_pI_ne (by omega)]; exact q2
          · rw [mI_pI_ne (by omega)]; exact mI_pI_eq
          all_goals rw [mI_pI_ne (by omega), mI_pI_ne (by omega)]; assumption
theorem c_begin (hv : VP P) (hk : KM M) (hp : CP p P M) (hN : 2000 ≤ N) : ∃ M', St_begin N i p M = some M' ∧ zfr (fS i) M M' ∧ CS i (mBeg P) M' := by
  have h6 := hv.n
  unfold St_begin
  obtain ⟨M1, e1, k1, a1, b1⟩ := c_fill (N := N) (M := M) (t := 40) (a := i) (x := 2) (m := 6) (by omega) hN (hk.n 6 (fun _ => rfl))
  rw [e1, zBv_s]
  obtain ⟨M2, e2, k2, a2, b2⟩ := c_fill (N := N) (M := M1) (t := 41) (a := i) (x := 0) (m := 6) (by omega) hN ((hk.e k1).n 6 (fun _ => rfl))
  rw [e2, zBv_s]
  have f2 : zfr (fS i) M M2 := ⟨k2.trans k1, fun t j k h => by
    simp [fS] at h
    rw [b2 t j k (by omega), b1 t j k (by omega)]⟩
  unfold St_everyone
  rw [zB_s]
  simp only [zW_e]
  rw [(hp.fr f2 fS_p).n]
  have e3 : z32 (z_shl 1 ((qN P : Nat) : Int) - 1) = ((2 ^ qN P - 1 : Nat) : Int) := by
    have : ∀ n : Nat, n ≤ 6 → z32 (z_shl 1 ((n : Nat) : Int) - 1) = ((2 ^ n - 1 : Nat) : Int) := by decide +kernel
    exact this _ h6
  rw [e3]
  refine ⟨_, rfl, (((f2.pI (by simp [fS])).pI (by simp [fS])).pI (by simp [fS])).pI (by simp [fS]), fun k hk => ⟨?_, ?_⟩, ?_, ?_, ?_, ?_⟩
  · rw [mI_pI_ne (by omega), mI_pI_ne (by omega), mI_pI_ne (by omega), mI_pI_ne (by omega), b2 _ _ _ (by omega), a1 k hk]; rfl
  · rw [mI_pI_ne (by omega), mI_pI_ne (by omega), mI_pI_ne (by omega), mI_pI_ne (by omega), a2 k hk]; rfl
  · simp [mI_pI]; rfl
  · simp [mI_pI]; rfl
  · simp [mI_pI]; rfl
  · simp [mI_pI]; rfl
end ACT
/-- one line judged: state, first that can't be, first that breaks -/
def mJ1 (P : PK) (i : Nat) (x : Int) (q : SK × Int × Int) : SK × Int × Int := if x / 100 = 4 then (mStep P q.1, q.2.1, if q.2.2 = -1 ∧ sB (mStep P q.1) ≠ sB q.1 then (i : Int) else q.2.2) else if mCan P q.1 (x / 100) (x / 10 % 10).toNat then (mAct q.1 (x / 100) (x / 10 % 10).toNat (x % 10), q.2.1, q.2.2) else (q.1, if q.2.1 = -1 then (i : Int) else q.2.1, q.2.2)
def mJd (P : PK) : List Int → Nat → SK × Int × Int → SK × Int × Int
  | [], _, q => q
  | x :: l, i, q => mJd P l (i + 1) (mJ1 P i x q)
def qJudged (A : AK) (x : Int) : Int := if x = 0 then (mJd (aP A) (aL A) 0 (mBeg (aP A), -1, -1)).2.1 else if x = 1 then (mJd (aP A) (aL A) 0 (mBeg (aP A), -1, -1)).2.2 else if x = 2 then sS (mJd (aP A) (aL A) 0 (mBeg (aP A), -1, -1)).1 else -1000000
section JUD
variable {N c p : Nat} {A : AK} {M : ZM}
theorem VL.d {n : Nat} {x : Int} (h : 0 ≤ x ∧ x < 500 ∧ (x / 100 ≠ 4 → x / 10 % 10 < n) ∧ (x / 100 = 0 → x % 10 ≤ 4)) : (0 ≤ x / 100 ∧ x / 100 ≤ 4) ∧ z32 (x.tdiv 100) = x / 100 ∧ (z32 (x.tdiv 10)).tmod 10 = x / 10 % 10 ∧ x.tmod 10 = x % 10 := by
  rw [Int.tdiv_eq_ediv_of_nonneg h.1, Int.tdiv_eq_ediv_of_nonneg h.1, Int.tmod_eq_emod_of_nonneg h.1, zs (x := x / 100) (by omega), zs (x := x / 10) (by omega), Int.tmod_eq_emod_of_nonneg (by omega)]
  refine ⟨by omega, rfl, rfl, rfl⟩
theorem w_jud30 (hv : VP (aP A)) (hvl : VL (qN (aP A)) (aL A)) (hN : 2000 ≤ N) {w : Int} (hw : 0 ≤ w ∧ w ≤ 2) : ∀ (l : List Int) (n i : Nat) (M : ZM) (q : SK × Int × Int), (aL A).drop i = l → i ≤ (aL A).length → KM M → CR p M → CP p (aP A) M → CN 13 (aL A) M → CS 1 q.1 M → VS i (aP A) q.1 → (∀ d, (q.2.1 = d ∨ q.2.2 = d) → -1 ≤ d) → l.length < n → ∃ M', Wp_judged_30 N n 0 w q.2.1 q.2.2 i M = some (if w = 0 then (mJd (aP A) l i q).2.1 else if w = 1 then (mJd (aP A) l i q).2.2 else sS (mJd (aP A) l i q).1, M') ∧ zfr fX M M' := by
  intro l
  induction l with
  | nil =>
    intro n i M q hd hi hk hr hp hcn hs hz hm hn
    have hl : (aL A).length ≤ i := List.drop_eq_nil_iff.1 hd
    cases n with
    | zero => simp at hn
    | succ n =>
      unfold Wp_judged_30
      rw [hcn.1, if_neg (by omega), hs.s]
      unfold mJd
      by_cases b0 : w = 0
      · rw [if_pos b0, if_pos b0]; exact ⟨M, rfl, zfr.rf M⟩
      · rw [if_neg b0, if_neg b0]
        by_cases b1 : w = 1
        · rw [if_pos b1, if_pos b1]; exact ⟨M, rfl, zfr.rf M⟩
        · rw [if_neg b1, if_neg b1]; exact ⟨M, rfl, zfr.rf M⟩
  | cons x l ih =>
    intro n i M q hd hi hk hr hp hcn hs hz hm hn
    have hil : i < (aL A).length := by
      rcases Nat.lt_or_ge i (aL A).length with h | h
      · exact h
      · rw [List.drop_eq_nil_iff.2 h] at hd; cases hd
    have hd2 := List.drop_eq_getElem_cons hil
    rw [hd] at hd2
    injection hd2 with hx hd3
    have hxm : x ∈ aL A := by rw [hx]; exact List.getElem_mem _
    have hxv := hvl.2 x hxm
    obtain ⟨v1, v2, v3, v4⟩ := VL.d hxv
    have hle := hvl.1
    cases n with
    | zero => simp at hn
    | succ n =>
      simp only [List.length_cons] at hn
      unfold Wp_judged_30
      rw [hcn.1, if_pos (by omega), c_get hcn.1 (by omega) (by show _ ≤ ((40 : Nat) : Int); omega) (hcn.2 i hil), zB_s, ← hx]
      simp only [zW_e]
      rw [v2, v3, v4, hr.1, hs.b]
      simp only [zO_s]
      clear v2 v3 v4
      rw [zsucc (by omega)]
      have hnext : ∀ (M1 : ZM) (q1 : SK × Int × Int), zfr fX M M1 → CS 1 q1.1 M1 → VS (i + 1) (aP A) q1.1 → (∀ d, (q1.2.1 = d ∨ q1.2.2 = d) → -1 ≤ d) → mJ1 (aP A) i x q = q1 → ∃ M', Wp_judged_30 N n 0 w q1.2.1 q1.2.2 ((i + 1 : Nat) : Int) M1 = some (if w = 0 then (mJd (aP A) (x :: l) i q).2.1 else if w = 1 then (mJd (aP A) (x :: l) i q).2.2 else sS (mJd (aP A) (x :: l) i q).1, M') ∧ zfr fX M M' := by
        intro M1 q1 f1 s1 z1 m1 hq
        obtain ⟨M', e, f2⟩ := ih n (i + 1) M1 q1 hd3.symm (by omega) (hk.e f1.1) (hr.e f1.1) (hp.fr f1 (fun t i k h => by simp [fX, fF, fS]; omega)) (hcn.g (fun t k ht => f1.2 _ _ _ (by simp [fX, fF, fS]; omega))) s1 z1 m1 (by omega)
        rw [mJd, hq]
        exact ⟨M', e, f1.tr f2⟩
      by_cases b4 : x / 100 = 4
      · rw [if_pos b4]
        obtain ⟨M1, e1, f1, s1⟩ := c_runStep (N := N) hv hz (by omega) hk hp hs hN
        rw [e1, zB_s, s1.b]
        have hq : mJ1 (aP A) i x q = (mStep (aP A) q.1, q.2.1, if q.2.2 = -1 ∧ sB (mStep (aP A) q.1) ≠ sB q.1 then (i : Int) else q.2.2) := by rw [mJ1, if_pos b4]
        have hm2 : ∀ d, (q.2.1 = d ∨ (if q.2.2 = -1 ∧ sB (mStep (aP A) q.1) ≠ sB q.1 then (i : Int) else q.2.2) = d) → -1 ≤ d := by
          intro d hd
          rcases hd with hd | hd
          · exact hm d (.inl hd)
          · split at hd
            · omega
            · exact hm d (.inr hd)
        have key := hnext M1 (mStep (aP A) q.1, q.2.1, if q.2.2 = -1 ∧ sB (mStep (aP A) q.1) ≠ sB q.1 then (i : Int) else q.2.2) (f1.mo fG_X) s1 hz.step hm2 hq
        by_cases b5 : q.2.2 = -1
        · rw [if_pos b5]
          by_cases b6 : sB (mStep (aP A) q.1) = sB q.1
          · rw [if_pos (by omega)]
            rw [if_neg (fun h => h.2 b6)] at key
            exact key
          · rw [if_neg (by omega)]
            rw [if_pos ⟨b5, b6⟩] at key
            exact key
        · rw [if_neg b5]
          rw [if_neg (fun h => b5 h.1)] at key
          exact key
      · rw [if_neg b4]
        have ht : (x / 10 % 10).toNat < qN (aP A) := by have := hxv.2.2.1 b4; omega
        have ex : x / 10 % 10 = ((x / 10 % 10).toNat : Int) := by omega
        have hd9 : 0 ≤ x % 10 ∧ x % 10 ≤ 9 := by omega
        rw [ex]
        have hact := c_act (N := N) (p := p) (i := 1) (a := x % 10) hv hz hp hs (d := x / 100) (by omega) ht
        rcases hact with ⟨h1, h2⟩ | ⟨h1, M1, h2, f1, s1⟩
        · rw [h2, zB_s, if_pos rfl]
          have hq : mJ1 (aP A) i x q = (q.1, if q.2.1 = -1 then (i : Int) else q.2.1, q.2.2) := by rw [mJ1, if_neg b4, h1]; simp
          have hm2 : ∀ d, ((if q.2.1 = -1 then (i : Int) else q.2.1) = d ∨ q.2.2 = d) → -1 ≤ d := by
            intro d hd
            rcases hd with hd | hd
            · split at hd
              · omega
              · exact hm d (.inl hd)
            · exact hm d (.inr hd)
          have key := hnext M (q.1, if q.2.1 = -1 then (i : Int) else q.2.1, q.2.2) (zfr.rf M) hs (hz.up (by omega)) hm2 hq
          by_cases b5 : q.2.1 = -1
          · rw [if_pos b5]
            rw [if_pos b5] at key
            exact key
          · rw [if_neg b5]
            rw [if_neg b5] at key
            exact key
        · rw [h2, zB_s, if_neg (by decide)]
          have hq : mJ1 (aP A) i x q = (mAct q.1 (x / 100) (x / 10 % 10).toNat (x % 10), q.2.1, q.2.2) := by rw [mJ1, if_neg b4, h1]; simp
          refine hnext M1 (mAct q.1 (x / 100) (x / 10 % 10).toNat (x % 10), q.2.1, q.2.2) (f1.mo fS_X) s1 ?_ hm hq
          have hz1 : VS (i + 1) (aP A) q.1 := hz.up (by omega)
          show VS (i + 1) (aP A) (mAct q.1 (x / 100) (x / 10 % 10).toNat (x % 10))
          by_cases b0 : x / 100 = 0
          · exact hz1.act ht (by have := hxv.2.2.2 b0; omega)
          · have hsame : mAct q.1 (x / 100) (x / 10 % 10).toNat (x % 10) = mAct q.1 (x / 100) (x / 10 % 10).toNat 0 := by unfold mAct; rw [if_neg b0, if_neg b0]
            rw [hsame]
            exact hz1.act ht (by omega)
theorem w_judged (h : CA A M) (hv : VA c A) (hN : 2000 ≤ N) (x : Int) : ∃ M', Wp_judged N 0 x M = some (qJudged A x, M') ∧ zfr fX M M' := by
  unfold Wp_judged qJudged
  by_cases b1 : x < 0
  · rw [if_pos b1, if_neg (by omega), if_neg (by omega), if_neg (by omega)]; exact ⟨M, rfl, zfr.rf M⟩
  · by_cases b2 : 2 < x
    · rw [if_neg b1, if_pos b2, if_neg (by omega), if_neg (by omega), if_neg (by omega)]; exact ⟨M, rfl, zfr.rf M⟩
    · rw [if_neg b1, if_neg b2]
      obtain ⟨p, hr, hp⟩ := h.2.1
      rw [hr.1, zO_s]
      obtain ⟨M1, e1, f1, s1⟩ := c_begin (N := N) (i := 1) hv.p h.k hp hN
      rw [e1, zBv_s]
      have h1 := h.fx (f1.mo fS_X)
      obtain ⟨M', e2, f2⟩ := w_jud30 (N := N) (p := p) (A := A) hv.p hv.2.2.1 hN (w := x) (by omega) (aL A) N 0 M1 (mBeg (aP A), -1, -1) rfl (by omega) h1.k (hr.e f1.1) (hp.fr f1 fS_p) h1.2.2.2.1 s1 mBeg_v (by intro d hd; simp only at hd; omega) (by have := hv.2.2.1.1; omega)
      refine ⟨M', ?_, (f1.mo fS_X).tr f2⟩
      have e2' : Wp_judged_30 N N 0 x (-1) (-1) 0 M1 = some (if x = 0 then (mJd (aP A) (aL A) 0 (mBeg (aP A), -1, -1)).2.1 else if x = 1 then (mJd (aP A) (aL A) 0 (mBeg (aP A), -1, -1)).2.2 else sS (mJd (aP A) (aL A) 0 (mBeg (aP A), -1, -1)).1, M') := e2
      rw [e2']
      by_cases b0 : x = 0
      · rw [if_pos b0, if_pos b0]
      · rw [if_neg b0, if_neg b0]
        by_cases b1 : x = 1
        · rw [if_pos b1, if_pos b1]
        · rw [if_neg b1, if_neg b1, if_pos (by omega)]
end JUD
