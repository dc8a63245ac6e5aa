theorem evn : ∀ n : Nat, n ≤ 6 → z32 (z_shl 1 ((n : Nat) : Int) - 1) = ((2 ^ n - 1 : Nat) : Int) := by decide +kernel
def mWh (P : PK) (S : SK) : Nat := zdif (2 ^ qN P - 1) (sB S)
def mIs (P : PK) (S : SK) (k : Nat) : SK := sWO S (zdif (sO S) (mWh P S) ||| zdif (mWh P S) k)
def mId (P : PK) (S : SK) : Nat → Int × Int
  | 0 => (0, -1)
  | k + 1 => if zdif k (mWh P S) = 0 ∧ ((mId P S k).2 = -1 ∨ (mId P S k).1 < mSold P (mIs P S k)) then (mSold P (mIs P S k), (k : Int)) else mId P S k
def qIdle (A : AK) : Int := (mId (aP A) (aS A) (mWh (aP A) (aS A) + 1)).2
theorem p2s {n : Nat} : 2 ^ n - 1 < 2 ^ n := Nat.sub_lt (Nat.pow_pos (by decide)) (by decide)
theorem mWh_lt {P : PK} {S : SK} : mWh P S < 2 ^ qN P := Nat.lt_of_le_of_lt zdif_lt p2s
theorem mIs_v {c : Nat} {P : PK} {S : SK} {k : Nat} (h : VS c P S) : VS c P (mIs P S k) := ⟨Nat.or_lt_two_pow (Nat.lt_of_le_of_lt zdif_lt h.1) (Nat.lt_of_le_of_lt zdif_lt mWh_lt), h.2.1, h.2.2.1, h.2.2.2.1, h.2.2.2.2⟩
/-- draws -/
def mDrw (g : Int) : Int := (z64 ((z64 (g * 1103515245)) + 12345)).tmod 2147483648
def mBel (g m : Int) : Int := z32 ((z64 (g.tdiv 65536)).tmod m)
theorem mDrw_b {g : Int} (h : 0 ≤ g ∧ g < 2147483648) : 0 ≤ mDrw g ∧ mDrw g < 2147483648 := by
  unfold mDrw
  rw [z64_id (x := g * 1103515245) ⟨by omega, by omega⟩, z64_id ⟨by omega, by omega⟩]
  exact tmod_in (by omega) (by decide)
theorem mBel_b {g m : Int} (h : 0 ≤ g ∧ g < 2147483648) (hm : 1 ≤ m ∧ m ≤ 100) : 0 ≤ mBel g m ∧ mBel g m < m := by
  unfold mBel
  rw [Int.tdiv_eq_ediv_of_nonneg h.1, z64_id ⟨by omega, by omega⟩]
  have := tmod_in (a := g / 65536) (b := m) (by omega) hm.1
  rw [zs (by omega)]
  exact this
/-- what a drawn deed makes of it -/
def mDo (P : PK) (S : SK) (d : Int) (t : Nat) (a : Int) : SK := if d ≤ 3 ∧ mCan P S d t = true then mAct S d t a else S
/-- a day's step: state and seed -/
def mDy (P : PK) (q : SK × Int) : SK × Int :=
  if 0 < qN P then (if mBel (mDrw (mDrw q.2)) 6 = 0 then (mStep P (mDo P q.1 0 (mBel (mDrw q.2) (qN P)).toNat (mBel (mDrw (mDrw (mDrw q.2))) 5)), mDrw (mDrw (mDrw q.2)))
    else (mStep P (mDo P q.1 (mBel (mDrw (mDrw q.2)) 6) (mBel (mDrw q.2) (qN P)).toNat 2), mDrw (mDrw q.2)))
  else (mStep P q.1, q.2)
/-- how it is just before that step -/
def mDb (P : PK) (q : SK × Int) : SK :=
  if 0 < qN P then (if mBel (mDrw (mDrw q.2)) 6 = 0 then mDo P q.1 0 (mBel (mDrw q.2) (qN P)).toNat (mBel (mDrw (mDrw (mDrw q.2))) 5)
    else mDo P q.1 (mBel (mDrw (mDrw q.2)) 6) (mBel (mDrw q.2) (qN P)).toNat 2)
  else q.1
theorem mDy_b {P : PK} {q : SK × Int} : (mDy P q).1 = mStep P (mDb P q) := by
  unfold mDy mDb
  split
  · split <;> rfl
  · rfl
def mDn (P : PK) (S : SK) (g : Int) : Nat → SK × Int
  | 0 => (S, g)
  | n + 1 => mDy P (mDn P S g n)
theorem mDo_v {c : Nat} {P : PK} {S : SK} {d a : Int} {t : Nat} (h : VS c P S) (ht : t < qN P) (ha : 0 ≤ a ∧ a ≤ 4) : VS c P (mDo P S d t a) := by
  unfold mDo
  split
  · exact h.act ht ha
  · exact h
theorem mDb_v {c : Nat} {P : PK} (hv : VP P) {q : SK × Int} (h : VS c P q.1) (hg : 0 ≤ q.2 ∧ q.2 < 2147483648) : VS c P (mDb P q) := by
  have h6 := hv.n
  unfold mDb
  split
  · next hN =>
    have b1 := mDrw_b hg
    have b2 := mDrw_b b1
    have b3 := mDrw_b b2
    have c1 := mBel_b (m := qN P) b1 (by omega)
    have c2 := mBel_b (m := 5) b3 (by omega)
    split
    · exact mDo_v h (by omega) (by omega)
    · exact mDo_v h (by omega) (by omega)
  · exact h
theorem mDn_v {c : Nat} {P : PK} (hv : VP P) {S : SK} {g : Int} (h : VS c P S) (hg : 0 ≤ g ∧ g < 2147483648) : ∀ n, VS (c + n) P (mDn P S g n).1 ∧ 0 ≤ (mDn P S g n).2 ∧ (mDn P S g n).2 < 2147483648
  | 0 => ⟨h, hg⟩
  | n + 1 => by
    obtain ⟨i1, i2⟩ := mDn_v hv h hg n
    refine ⟨?_, ?_⟩
    · show VS (c + n + 1) P (mDy P (mDn P S g n)).1
      rw [mDy_b]
      exact (mDb_v hv i1 i2).step
    · show 0 ≤ (mDy P (mDn P S g n)).2 ∧ (mDy P (mDn P S g n)).2 < 2147483648
      unfold mDy
      split
      · split
        · exact mDrw_b (mDrw_b (mDrw_b i2))
        · exact mDrw_b (mDrw_b i2)
      · exact i2
/-- what is sold by n days -/
def mDs (P : PK) (S : SK) (g : Int) (n : Nat) : Int := zsum (fun j => mSold P (mDb P (mDn P S g j))) n
def qDays (A : AK) (x y z : Int) : Int := if (0 ≤ x ∧ x ≤ 9999) ∧ (1 ≤ y ∧ y ≤ 99) ∧ (0 ≤ z ∧ z ≤ 2) then (if z = 0 then mDs (aP A) (aS A) x y.toNat else if z = 1 then (sB (mDn (aP A) (aS A) x y.toNat).1 : Int) else mHome (aP A) (mDn (aP A) (aS A) x y.toNat).1) else -1000000
section CQ4
variable {N c : Nat} {A : AK} {M : ZM}
theorem w_idle40 {p : Nat} (hv : VA c A) (hN : 2000 ≤ N) : ∀ (n k : Nat) (M : ZM), KM M → CR p M → CP p (aP A) M → CS 0 (aS A) M → (∀ s, CS 1 (sWO (aS A) s) (pI M 7 1 2 (s : Int))) → k ≤ mWh (aP A) (aS A) + 1 → mWh (aP A) (aS A) + 1 - k < n → ∃ M', Wp_idle_40 N n 0 (mWh (aP A) (aS A) : Nat) (mId (aP A) (aS A) k).1 (mId (aP A) (aS A) k).2 k M = some ((mId (aP A) (aS A) (mWh (aP A) (aS A) + 1)).2, M') ∧ zfr fX M M' := by
  intro n
  induction n with
  | zero => intros; omega
  | succ n ih =>
    intro k M hk' hr hp hs hs1 hk hn
    have h6 := hv.p.n
    have w64 : mWh (aP A) (aS A) < 64 := pow64 h6 mWh_lt
    have o64 := hv.s.o hv.p
    have hi := ih (k + 1)
    unfold Wp_idle_40
    by_cases b : k = mWh (aP A) (aS A) + 1
    · rw [if_pos (by omega), b]
      exact ⟨M, rfl, zfr.rf M⟩
    · rw [if_neg (by omega), zdif_n k (by omega) _ w64]
      simp only [zW_e]
      rw [zsucc (by omega)]
      rw [mId] at hi
      by_cases b2 : zdif k (mWh (aP A) (aS A)) = 0
      · rw [if_pos (by omega), hs.o, zdif_n _ o64 _ w64, zdif_n _ w64 k (by omega), zor_n _ (Nat.lt_of_le_of_lt zdif_lt o64) _ (Nat.lt_of_le_of_lt zdif_lt w64)]
        have f1 : zfr (fS 1) M (pI M 7 1 2 ((zdif (sO (aS A)) (mWh (aP A) (aS A)) ||| zdif (mWh (aP A) (aS A)) k : Nat) : Int)) := (zfr.rf M).pI (by simp [fS])
        have s1 : CS 1 (mIs (aP A) (aS A) k) _ := hs1 (zdif (sO (aS A)) (mWh (aP A) (aS A)) ||| zdif (mWh (aP A) (aS A)) k)
        have hp1 := hp.fr f1 fS_p
        rw [(hr.e f1.1).1, zO_s]
        obtain ⟨M2, e2, f2⟩ := c_sold (N := N) hv.p (mIs_v (k := k) hv.s) (hk'.e f1.1) hp1 s1 hN
        rw [e2, zB_s]
        have f3 := (f1.mo fS_X).tr (f2.mo fF_X)
        have hs2 : ∀ s, CS 1 (sWO (aS A) s) (pI M2 7 1 2 (s : Int)) := fun s => by
          have s3 := s1.fr f2 (fun t k h => fF_s t 1 k h)
          obtain ⟨q1, q2, q3, q4, q5⟩ := s3
          exact ⟨fun j hj => ⟨(mI_pI_ne (by omega)).trans (q1 j hj).1, (mI_pI_ne (by omega)).trans (q1 j hj).2⟩, mI_pI_eq, (mI_pI_ne (by omega)).trans q3, (mI_pI_ne (by omega)).trans q4, (mI_pI_ne (by omega)).trans q5⟩
        have hh := hi M2 (hk'.e f3.1) (hr.e f3.1) (hp1.fr f2 fF_p) ((hs.fr f1 (fS_s (by decide))).fr f2 (fun t k h => fF_s t 0 k h)) hs2 (by omega) (by omega)
        by_cases b3 : (mId (aP A) (aS A) k).2 = -1
        · rw [if_pos b3]
          rw [if_pos ⟨b2, .inl b3⟩] at hh
          obtain ⟨M', e3, f4⟩ := hh
          exact ⟨M', e3, f3.tr f4⟩
        · rw [if_neg b3]
          by_cases b4 : (mId (aP A) (aS A) k).1 < mSold (aP A) (mIs (aP A) (aS A) k)
          · rw [if_pos b4]
            rw [if_pos ⟨b2, .inr b4⟩] at hh
            obtain ⟨M', e3, f4⟩ := hh
            exact ⟨M', e3, f3.tr f4⟩
          · rw [if_neg b4]
            rw [if_neg (fun h => h.2.elim b3 b4)] at hh
            obtain ⟨M', e3, f4⟩ := hh
            exact ⟨M', e3, f3.tr f4⟩
      · rw [if_neg (by omega)]
        rw [if_neg (fun h => b2 h.1)] at hi
        exact hi M hk' hr hp hs hs1 (by omega) (by omega)
theorem w_idle (h : CA A M) (hv : VA c A) (hN : 2000 ≤ N) : ∃ M', Wp_idle N 0 M = some (qIdle A, M') ∧ zfr fX M M' := by
  obtain ⟨p, hr, hp⟩ := h.2.1
  have h6 := hv.p.n
  have w64 : mWh (aP A) (aS A) < 64 := pow64 h6 mWh_lt
  unfold Wp_idle qIdle St_everyone
  rw [hr.1, zO_s, zB_s, hp.n, evn _ h6, h.s.b, zdif_n _ (pow64 h6 p2s) _ (hv.s.b hv.p)]
  simp only [zW_e]
  obtain ⟨M1, e1, f1, g1⟩ := c_try (N := N) h
  rw [e1, zBv_s]
  have h1 := h.fx f1
  obtain ⟨p', hr', hp'⟩ := h1.2.1
  obtain ⟨M', e2, f2⟩ := w_idle40 (N := N) hv hN N 0 M1 h1.k hr' hp' h1.s (fun s => by
    obtain ⟨q1, q2, q3, q4, q5⟩ := g1
    exact ⟨fun j hj => ⟨(mI_pI_ne (by omega)).trans (q1 j hj).1, (mI_pI_ne (by omega)).trans (q1 j hj).2⟩, mI_pI_eq, (mI_pI_ne (by omega)).trans q3, (mI_pI_ne (by omega)).trans q4, (mI_pI_ne (by omega)).trans q5⟩) (by omega) (by omega)
  exact ⟨M', e2, f1.tr f2⟩
theorem w_days55 {p : Nat} (hv : VA c A) (hc : c < 1000) (hN : 2000 ≤ N) {m : Nat} (hm : m ≤ 99) {z g : Int} (hg : 0 ≤ g ∧ g < 2147483648) : ∀ (n k : Nat) (M : ZM), KM M → CR p M → CP p (aP A) M → CS 1 (mDn (aP A) (aS A) g k).1 M → k ≤ m → m - k < n → ∃ M', Wp_days_55 N n 0 m z (mDs (aP A) (aS A) g k) (mDn (aP A) (aS A) g k).2 k M = some (if z = 0 then mDs (aP A) (aS A) g m else if z = 1 then (sB (mDn (aP A) (aS A) g m).1 : Int) else mHome (aP A) (mDn (aP A) (aS A) g m).1, M') ∧ zfr fX M M' := by
  intro n
  induction n with
  | zero => intros; omega
  | succ n ih =>
    intro k M hk' hr hp hs hk hn
    have h6 := hv.p.n
    obtain ⟨hz, hg2⟩ := mDn_v hv.p hv.s hg k
    unfold Wp_days_55
    rw [hr.1]
    simp only [zO_s]
    by_cases b : k = m
    · subst b
      rw [if_neg (by omega)]
      obtain ⟨M1, e1, f1, _, _, _, g1⟩ := c_measure (N := N) (a := 0) hv.p hz hk' hp hs hN
      rw [e1, zBv_s, g1, (hs.fr f1 (fun t k h => fF_s t 1 k h)).b]
      by_cases b0 : z = 0
      · rw [if_pos b0, if_pos b0]; exact ⟨M1, rfl, f1.mo fF_X⟩
      · rw [if_neg b0, if_neg b0]
        by_cases b1 : z = 1
        · rw [if_pos b1, if_pos b1]; exact ⟨M1, rfl, f1.mo fF_X⟩
        · rw [if_neg b1, if_neg b1]; exact ⟨M1, rfl, f1.mo fF_X⟩
    · rw [if_pos (by omega), hp.n]
      have hb := mDb_v hv.p hz hg2
      -- the step itself
      have k155 : ∀ (M1 : ZM) (g1 : Int), zfr fX M M1 → CS 1 (mDb (aP A) (mDn (aP A) (aS A) g k)) M1 → g1 = (mDy (aP A) (mDn (aP A) (aS A) g k)).2 → ∃ M', Wp_days_155 N (Wp_days_55 N n) 0 m z (mDs (aP A) (aS A) g k) g1 k M1 = some (if z = 0 then mDs (aP A) (aS A) g m else if z = 1 then (sB (mDn (aP A) (aS A) g m).1 : Int) else mHome (aP A) (mDn (aP A) (aS A) g m).1, M') ∧ zfr fX M M' := by
        intro M1 g1 f1 s1 hg1
        unfold Wp_days_155
        have hp1 := hp.fr f1 (fun t i k h => by simp [fX, fF, fS]; omega)
        rw [(hr.e f1.1).1, zO_s]
        obtain ⟨M2, e2, f2, s2⟩ := c_runStep (N := N) hv.p hb (by omega) (hk'.e f1.1) hp1 s1 hN
        rw [e2, zB_s]
        simp only [zW_e]
        have a1 := zsum_ge (f := fun j => mSold (aP A) (mDb (aP A) (mDn (aP A) (aS A) g j))) (n := k) (a := -12000) (fun j _ => (mSold_b hv.p (mDb_v hv.p (mDn_v hv.p hv.s hg j).1 (mDn_v hv.p hv.s hg j).2)).1)
        have a2 := zsum_le (f := fun j => mSold (aP A) (mDb (aP A) (mDn (aP A) (aS A) g j))) (n := k) (a := 12000) (fun j _ => (mSold_b hv.p (mDb_v hv.p (mDn_v hv.p hv.s hg j).1 (mDn_v hv.p hv.s hg j).2)).2)
        have a3 := mSold_b hv.p hb
        have e3 : z32 (mDs (aP A) (aS A) g k + mSold (aP A) (mDb (aP A) (mDn (aP A) (aS A) g k))) = mDs (aP A) (aS A) g (k + 1) := by
          unfold mDs
          rw [zs (by omega)]
          rfl
        rw [e3, zsucc (by omega), hg1]
        clear e3
        have s3 : CS 1 (mDn (aP A) (aS A) g (k + 1)).1 M2 := by
          show CS 1 (mDy (aP A) (mDn (aP A) (aS A) g k)).1 M2
          rw [mDy_b]; exact s2
        obtain ⟨M', e4, f4⟩ := ih (k + 1) M2 ((hk'.e f1.1).e f2.1) ((hr.e f1.1).e f2.1) (hp1.fr f2 fG_p) s3 (by omega) (by omega)
        exact ⟨M', e4, (f1.tr (f2.mo fG_X)).tr f4⟩
      by_cases b0 : 0 < qN (aP A)
      · rw [if_pos (by omega)]
        have b1 := mDrw_b hg2
        have b2 := mDrw_b b1
        have b3 := mDrw_b b2
        have c1 := mBel_b (m := qN (aP A)) b1 (by omega)
        have c2 := mBel_b (m := 6) b2 (by omega)
        have c3 := mBel_b (m := 5) b3 (by omega)
        have dr : ∀ g : Int, Wp_drawn N g M = some (mDrw g, M) := fun g => rfl
        have be : ∀ (g m : Int), 0 < m → Wp_below N g m M = some (mBel g m, M) := fun g m h => by
          unfold Wp_below; rw [if_pos h, if_neg (by omega)]; rfl
        rw [dr, zB_s, hr.1, zO_s, hp.n, be _ _ (by omega), zB_s, dr, zB_s, be _ _ (by omega), zB_s, dr]
        simp only [zB_s]
        rw [be _ _ (by omega), zB_s]
        have k131 : ∀ (d a g1 : Int), 0 ≤ d → d ≤ 5 → mDb (aP A) (mDn (aP A) (aS A) g k) = mDo (aP A) (mDn (aP A) (aS A) g k).1 d (mBel (mDrw (mDn (aP A) (aS A) g k).2) (qN (aP A))).toNat a → g1 = (mDy (aP A) (mDn (aP A) (aS A) g k)).2 → ∃ M', Wp_days_131 N (Wp_days_55 N n) 0 m z (mDs (aP A) (aS A) g k) g1 k (mBel (mDrw (mDn (aP A) (aS A) g k).2) (qN (aP A))) d a M = some (if z = 0 then mDs (aP A) (aS A) g m else if z = 1 then (sB (mDn (aP A) (aS A) g m).1 : Int) else mHome (aP A) (mDn (aP A) (aS A) g m).1, M') ∧ zfr fX M M' := by
          intro d a g1 hd0 hd5 hdo hg1
          unfold Wp_days_131
          rw [hr.1, zO_s]
          have ht : (mBel (mDrw (mDn (aP A) (aS A) g k).2) (qN (aP A))).toNat < qN (aP A) := by omega
          have ex : mBel (mDrw (mDn (aP A) (aS A) g k).2) (qN (aP A)) = ((mBel (mDrw (mDn (aP A) (aS A) g k).2) (qN (aP A))).toNat : Int) := by omega
          by_cases bd : 3 < d
          · rw [if_pos bd]
            refine k155 M g1 (zfr.rf M) ?_ hg1
            rw [hdo, mDo, if_neg (by omega)]; exact hs
          · rw [if_neg bd, ex]
            rcases c_act (N := N) (p := p) (i := 1) (a := a) hv.p hz hp hs (d := d) (by omega) ht with ⟨h1, h2⟩ | ⟨h1, M1, h2, f1, s1⟩
            · rw [h2, zB_s]
              refine k155 M g1 (zfr.rf M) ?_ hg1
              rw [hdo, mDo, if_neg (by rw [h1]; simp)]; exact hs
            · rw [h2, zB_s]
              refine k155 M1 g1 (f1.mo fS_X) ?_ hg1
              rw [hdo, mDo, if_pos ⟨by omega, h1⟩]; exact s1
        by_cases bd : mBel (mDrw (mDrw (mDn (aP A) (aS A) g k).2)) 6 = 0
        · rw [if_pos bd, bd]
          exact k131 0 _ _ (by omega) (by omega) (by rw [mDb, if_pos b0, if_pos bd]) (by rw [mDy, if_pos b0, if_pos bd])
        · rw [if_neg bd]
          exact k131 _ 2 _ (by omega) (by omega) (by rw [mDb, if_pos b0, if_neg bd]) (by rw [mDy, if_pos b0, if_neg bd])
      · rw [if_neg (by omega)]
        exact k155 M _ (zfr.rf M) (by rw [mDb, if_neg b0]; exact hs) (by rw [mDy, if_neg b0])
theorem w_days (h : CA A M) (hv : VA c A) (hc : c < 1000) (hN : 2000 ≤ N) (x y z : Int) : ∃ M', Wp_days N 0 x y z M = some (qDays A x y z, M') ∧ zfr fX M M' := by
  unfold Wp_days qDays
  have stop : ∀ v : Int, ∃ M', some (v, M) = some (v, M') ∧ zfr fX M M' := fun v => ⟨M, rfl, zfr.rf M⟩
  by_cases b1 : x < 0
  · rw [if_pos b1, if_neg (by omega)]; exact stop _
  rw [if_neg b1]
  by_cases b2 : 9999 < x
  · rw [if_pos b2, if_neg (by omega)]; exact stop _
  rw [if_neg b2]
  by_cases b3 : y < 1
  · rw [if_pos b3, if_neg (by omega)]; exact stop _
  rw [if_neg b3]
  by_cases b4 : 99 < y
  · rw [if_pos b4, if_neg (by omega)]; exact stop _
  rw [if_neg b4]
  by_cases b5 : z < 0
  · rw [if_pos b5, if_neg (by omega)]; exact stop _
  rw [if_neg b5]
  by_cases b6 : 2 < z
  · rw [if_pos b6, if_neg (by omega)]; exact stop _
  rw [if_neg b6, if_pos (by omega)]
  obtain ⟨k, rfl⟩ : ∃ k : Nat, y = k := ⟨y.toNat, by omega⟩
  obtain ⟨M1, e1, f1, g1⟩ := c_try (N := N) h
  rw [e1, zBv_s, Int.toNat_natCast]
  have h1 := h.fx f1
  obtain ⟨p, hr, hp⟩ := h1.2.1
  obtain ⟨M', e2, f2⟩ := w_days55 (N := N) hv hc hN (m := k) (z := z) (g := x) (by omega) (by omega) N 0 M1 h1.k hr hp g1 (by omega) (by omega)
  exact ⟨M', e2, f1.tr f2⟩
end CQ4
