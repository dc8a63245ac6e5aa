theorem zdif_z {a b : Nat} (ha : a < 64) (hb : b < 64) : zdif a b = 0 ↔ ∀ t, t < 6 → zbt a t = true → zbt b t = true := by
  constructor
  · intro h t ht h1
    have := zdif_t a ha b hb t ht
    rw [h, show zbt 0 t = false from Nat.zero_testBit t, h1] at this
    revert this
    cases zbt b t <;> simp
  · intro h
    refine ext64 (Nat.lt_of_le_of_lt zdif_lt ha) (by decide) fun t ht => ?_
    rw [zdif_t a ha b hb t ht, show zbt 0 t = false from Nat.zero_testBit t]
    have := h t ht
    revert this
    cases zbt a t <;> cases zbt b t <;> simp
theorem zdif_or {a b : Nat} (ha : a < 64) (hb : b < 64) : zdif (a ||| b) a = 0 ↔ a ||| b = a := by
  have hab : a ||| b < 64 := Nat.or_lt_two_pow (n := 6) ha hb
  rw [zdif_z hab ha]
  constructor
  · intro h
    refine ext64 hab ha fun t ht => ?_
    have := h t ht
    rw [zbt_or] at this ⊢
    revert this
    cases zbt a t <;> cases zbt b t <;> simp
  · intro h t ht h1
    rw [h] at h1; exact h1
theorem zdif_s {a b : Nat} (ha : a < 64) (hb : b < 64) : zdif (zdif a b) a = 0 := by
  rw [zdif_z (Nat.lt_of_le_of_lt zdif_lt ha) ha]
  intro t ht h
  rw [zdif_t a ha b hb t ht] at h
  revert h
  cases zbt a t <;> simp
theorem zdif_r {a : Nat} (ha : a < 64) : zdif a a = 0 := by
  rw [zdif_z ha ha]; intro t _ h; exact h
section RQ4
variable {N c : Nat} {A : AK} {M : ZM}
theorem r_fresh2 : ∀ (n k : Nat) (M : ZM), k ≤ 16 → 16 - k < n → ∃ M', Mo_fresh0_2 N n 0 k M = some M' ∧ zfr f81 M M' ∧ (∀ j, k ≤ j → j < 16 → mI M' 81 0 j = if 4 ≤ j ∧ j < 10 then 2 else 0) ∧ (∀ j, j < k → mI M' 81 0 j = mI M 81 0 j) := by
  intro n
  induction n with
  | zero => intros; omega
  | succ n ih =>
    intro k M hk hn
    unfold Mo_fresh0_2
    by_cases e : k = 16
    · subst e
      rw [if_neg (by omega)]
      exact ⟨M, rfl, zfr.rf M, fun j _ _ => by omega, fun _ _ => rfl⟩
    · rw [if_pos (by omega), zI_t (by omega), zI_t (by omega)]
      simp only [zW_e, Int.toNat_natCast]
      rw [zsucc (by omega)]
      have fin : ∀ y : Int, y = (if 4 ≤ k ∧ k < 10 then 2 else 0) → ∃ M', Mo_fresh0_2 N n 0 ((k + 1 : Nat) : Int) (pI M 81 0 k y) = some M' ∧ zfr f81 M M' ∧ (∀ j, k ≤ j → j < 16 → mI M' 81 0 j = if 4 ≤ j ∧ j < 10 then 2 else 0) ∧ (∀ j, j < k → mI M' 81 0 j = mI M 81 0 j) := by
        intro y hy
        obtain ⟨M', e2, f2, g2, r2⟩ := ih (k + 1) (pI M 81 0 k y) (by omega) (by omega)
        refine ⟨M', e2, ((zfr.rf M).pI (by simp [f81])).tr f2, fun j h1 h2 => ?_, fun j hj => ?_⟩
        · by_cases e3 : j = k
          · subst e3; rw [r2 j (by omega), mI_pI_eq, hy]
          · exact g2 j (by omega) h2
        · rw [r2 j (by omega), mI_pI_ne (by omega)]
      by_cases b1 : (k : Int) < 4
      · rw [if_pos b1]; exact fin 0 (by rw [if_neg (by omega)])
      · rw [if_neg b1]
        by_cases b2 : (k : Int) < 10
        · rw [if_pos b2]; exact fin 2 (by rw [if_pos (by omega)])
        · rw [if_neg b2]; exact fin 0 (by rw [if_neg (by omega)])
theorem r_fresh {P : PK} (hN : 2000 ≤ N) : ∃ M', Mo_fresh0 N 0 M = some M' ∧ zfr f81 M M' ∧ R0 (qN P) (mBeg P) M' := by
  obtain ⟨M', e, f, g, _⟩ := r_fresh2 (N := N) N 0 M (by omega) (by omega)
  refine ⟨M', e, f, fun k hk => ⟨?_, ?_⟩, ?_, ?_, ?_, ?_⟩
  · rw [g _ (by omega) (by omega), if_pos (by omega)]; rfl
  · rw [g _ (by omega) (by omega), if_neg (by omega)]; rfl
  · rw [g _ (by omega) (by omega), if_neg (by omega)]; rfl
  · rw [g _ (by omega) (by omega), if_neg (by omega)]; rfl
  · rw [g _ (by omega) (by omega), if_neg (by omega)]
    show (0 : Int) = ((zshu (qN P) (2 ^ qN P - 1) : Nat) : Int)
    rw [zshu_0]; rfl
  · rw [g _ (by omega) (by omega), if_neg (by omega)]; rfl
/-- a line done by the reference -/
theorem r_done {S : SK} (hv : VP (aP A)) (hz : VS c (aP A) S) (hc : c < 1000) (hN : 2000 ≤ N) (hp : RP (aP A) M) (hs : R0 (qN (aP A)) S M) {x : Int} (hx : 0 ≤ x ∧ x < 500 ∧ (x / 100 ≠ 4 → x / 10 % 10 < qN (aP A)) ∧ (x / 100 = 0 → x % 10 ≤ 4)) {k : Nat} (hk : k < 240) (l1 : mI M 75 0 k = x / 100) (l2 : x / 100 ≠ 4 → mI M 76 0 k = x / 10 % 10) (l3 : x / 100 = 0 → mI M 77 0 k = x % 10) (b1 b2 : Int) : ∃ M', Mo_isDone N 0 k M = some (if x / 100 = 4 ∨ mCan (aP A) S (x / 100) (x / 10 % 10).toNat = true then 1 else 0, M') ∧ zfr fp M M' ∧ R0 (qN (aP A)) (mJ1 (aP A) k x (S, b1, b2)).1 M' := by
  have h6 := hv.n
  have i240 : (0 : Int) ≤ (k : Int) ∧ (k : Int) < 240 := by omega
  unfold Mo_isDone
  simp only [zW_e, Int.toNat_natCast]
  rw [zI_t i240, zI_t i240, l1]
  by_cases b4 : x / 100 = 4
  · rw [if_neg (by omega), if_neg (by omega), if_neg (by omega), if_neg (by omega), if_pos (.inl b4)]
    obtain ⟨M1, e1, f1, s1⟩ := r_passes (N := N) hv hz (by omega) hN hp hs
    rw [e1, zB_s]
    refine ⟨M1, rfl, f1, ?_⟩
    rw [mJ1, if_pos b4]; exact s1
  · have hlt := hx.2.2.1 b4
    have ht : (x / 10 % 10).toNat < qN (aP A) := by omega
    have et : x / 10 % 10 = ((x / 10 % 10).toNat : Int) := by omega
    rw [l2 b4]
    generalize hT : (x / 10 % 10).toNat = t at *
    rw [et]
    have hj : (mJ1 (aP A) k x (S, b1, b2)).1 = if mCan (aP A) S (x / 100) t = true then mAct S (x / 100) t (x % 10) else S := by
      rw [mJ1, if_neg b4, hT]
      by_cases e : mCan (aP A) S (x / 100) t = true
      · rw [if_pos e, if_pos e]
      · rw [if_neg e, if_neg e]
    rw [hj]
    have o64 := hz.o hv
    have hp2 := p2_64 (t := t) (by omega)
    by_cases d0 : x / 100 = 0
    · have e4 : z32 (4 + (t : Int)) = ((4 + t : Nat) : Int) := by rw [zs (by omega)]; omega
      rw [if_pos d0, zI_t (by omega), e4, l3 d0]
      clear e4
      have hcan : mCan (aP A) S (x / 100) t = true := by rw [d0]; rfl
      rw [zI_t (by omega), Int.toNat_natCast, if_pos (.inr hcan), if_pos hcan]
      refine ⟨_, rfl, ((zfr.rf M).pI (by simp [fp])), ?_⟩
      rw [d0, mAct, if_pos rfl]
      exact R0.wa hs (by omega) _
    · rw [if_neg d0]
      have k60 : ∀ y1 : Int, (y1 = if x / 100 = 1 then 1 else 0) → (x / 100 = 1 ∨ x / 100 = 2) → ∃ M', Mo_isDone_60 N 0 t (if zbt (sO S) t then 0 else 1) y1 M = some (if x / 100 = 4 ∨ mCan (aP A) S (x / 100) t = true then 1 else 0, M') ∧ zfr fp M M' ∧ R0 (qN (aP A)) (if mCan (aP A) S (x / 100) t = true then mAct S (x / 100) t (x % 10) else S) M' := by
        intro y1 hy1 h12
        unfold Mo_isDone_60
        simp only [zW_e]
        rw [hs.o, zsh_n t (by omega), zxor_n _ (zshu_lt h6) _ hp2]
        rcases h12 with d1 | d2
        · have hcan : mCan (aP A) S (x / 100) t = zbt (sO S) t := by rw [d1]; rfl
          rw [hcan, hy1, if_pos d1]
          cases hb : zbt (sO S) t
          · rw [if_pos (by decide), if_neg (by simp; omega)]
            exact ⟨M, rfl, zfr.rf M, by simp; exact hs⟩
          · rw [if_neg (by decide), if_pos (.inr rfl), if_pos rfl, zshu_x1 h6 hz.1 ht hb]
            refine ⟨_, rfl, (zfr.rf M).pI (by simp [fp]), ?_⟩
            rw [d1, mAct, if_neg (by decide), if_pos rfl]
            exact R0.wo hs _
        · have hcan : mCan (aP A) S (x / 100) t = !zbt (sO S) t := by rw [d2]; rfl
          have hy0 : y1 = 0 := by rw [hy1, if_neg (by omega)]
          rw [hcan, hy0]
          cases hb : zbt (sO S) t
          · have e1 : (if (false : Bool) = true then (0 : Int) else 1) = 1 := rfl
            rw [e1, if_neg (show ¬ (1 : Int) = 0 by decide), if_pos (show x / 100 = 4 ∨ (!false) = true from .inr rfl), if_pos (show (!false) = true from rfl), zshu_x2 h6 ht hb]
            refine ⟨_, rfl, (zfr.rf M).pI (by simp [fp]), ?_⟩
            rw [d2, mAct, if_neg (by decide), if_neg (by decide), if_pos rfl]
            exact R0.wo hs _
          · have e1 : (if (true : Bool) = true then (0 : Int) else 1) = 0 := rfl
            have e2 : ¬ (x / 100 = 4 ∨ (!true) = true) := by simp; omega
            rw [e1, if_pos (show (0 : Int) = 0 from rfl), if_neg e2, if_neg (show ¬ (!true) = true by decide)]
            exact ⟨M, rfl, zfr.rf M, hs⟩
      have k45 : (x / 100 = 1 ∨ x / 100 = 2) → ∃ M', Mo_isDone_45 N 0 t (x / 100) M = some (if x / 100 = 4 ∨ mCan (aP A) S (x / 100) t = true then 1 else 0, M') ∧ zfr fp M M' ∧ R0 (qN (aP A)) (if mCan (aP A) S (x / 100) t = true then mAct S (x / 100) t (x % 10) else S) M' := by
        intro h12
        unfold Mo_isDone_45
        rw [r_isShut hv hs ht, zB_s]
        by_cases d1 : x / 100 = 1
        · rw [if_pos d1]; exact k60 1 (by rw [if_pos d1]) h12
        · rw [if_neg d1]; exact k60 0 (by rw [if_neg d1]) h12
      by_cases d1 : x / 100 = 1
      · rw [if_pos d1]; exact k45 (.inl d1)
      · rw [if_neg d1]
        by_cases d2 : x / 100 = 2
        · rw [if_pos d2]; exact k45 (.inr d2)
        · have d3 : x / 100 = 3 := by omega
          rw [if_neg d2, if_pos d3, d3, r_canMend hv hz hp hs (by omega), zB_s]
          cases hb : mCan (aP A) S 3 t
          · have e1 : (if (false : Bool) = true then (1 : Int) else 0) = 0 := rfl
            have e2 : ¬ ((3 : Int) = 4 ∨ false = true) := by decide
            rw [e1, if_pos (show (0 : Int) = 0 from rfl), if_neg e2, if_neg (show ¬ false = true by decide)]
            exact ⟨M, rfl, zfr.rf M, hs⟩
          · have e5 : (if (true : Bool) = true then (1 : Int) else 0) = 1 := rfl
            obtain ⟨M1, e1, f1, s1⟩ := r_mends (N := N) hv hz hs (t := t) (by omega) (x % 10)
            rw [e5, if_neg (show ¬ (1 : Int) = 0 by decide), e1, zBv_s, if_pos (show (3 : Int) = 4 ∨ true = true from .inr rfl), if_pos (show true = true from rfl)]
            exact ⟨M1, rfl, f1.mo f81_fp, s1⟩
theorem mJ1_b {P : PK} {S : SK} {c : Nat} (hv : VP P) (hz : VS c P S) {x : Int} {k : Nat} {b1 b2 : Int} (hx : x / 100 ≠ 4 → (x / 10 % 10).toNat < 6) (hb : -1 ≤ b2) : (mJ1 P k x (S, b1, b2)).2.2 = if zdif (sB (mJ1 P k x (S, b1, b2)).1) (sB S) = 0 then b2 else if b2 < 0 then (k : Int) else b2 := by
  have h64 := hz.b hv
  unfold mJ1
  by_cases b4 : x / 100 = 4
  · rw [if_pos b4]
    dsimp only
    have hbt : zbts (mBk P S) (qN P) < 64 := pow64 hv.n zbts_lt
    have hor : zdif (sB (mStep P S)) (sB S) = 0 ↔ sB (mStep P S) = sB S := zdif_or h64 hbt
    by_cases e : sB (mStep P S) = sB S
    · rw [if_neg (fun h => h.2 e), if_pos (hor.2 e)]
    · rw [if_neg (fun h => e (hor.1 h))]
      by_cases e2 : b2 = -1
      · rw [if_pos ⟨e2, e⟩, if_pos (by omega)]
      · rw [if_neg (fun h => e2 h.1), if_neg (by omega)]
  · rw [if_neg b4]
    dsimp only
    have ht := hx b4
    by_cases e : mCan P S (x / 100) (x / 10 % 10).toNat = true
    · rw [if_pos e]
      dsimp only
      have : zdif (sB (mAct S (x / 100) (x / 10 % 10).toNat (x % 10))) (sB S) = 0 := by
        unfold mAct
        split
        · exact zdif_r h64
        · split
          · exact zdif_r h64
          · split
            · exact zdif_r h64
            · exact zdif_s h64 (p2_64 ht)
      rw [if_pos this]
    · rw [if_neg e]
      dsimp only
      rw [if_pos (zdif_r h64)]
theorem m_jud42 (hv : VP (aP A)) (hvl : VL (qN (aP A)) (aL A)) (hN : 2000 ≤ N) {w : Int} (hw : 0 ≤ w ∧ w ≤ 2) : ∀ (l : List Int) (n i : Nat) (M : ZM) (S : SK) (b1 b2 : Int), (aL A).drop i = l → i ≤ (aL A).length → rE 82 A S M → mI M 74 0 0 = ((aL A).length : Int) → RN 0 (aL A) M → VS i (aP A) S → -1 ≤ b1 → -1 ≤ b2 → l.length < n → ∃ M', Mo_judged_42 N n 0 w b1 b2 i M = some (if w = 0 then (mJd (aP A) l i (S, b1, b2)).2.1 else if w = 1 then (mJd (aP A) l i (S, b1, b2)).2.2 else sS (mJd (aP A) l i (S, b1, b2)).1, M') ∧ zfr fQ M M' ∧ R0 (qN (aP A)) (aS A) M' := by
  intro l
  induction l with
  | nil =>
    intro n i M S b1 b2 hd hi hE hl hr hz h1 h2 hn
    have hli : (aL A).length ≤ i := List.drop_eq_nil_iff.1 hd
    cases n with
    | zero => simp at hn
    | succ n =>
      unfold Mo_judged_42
      rw [hl, if_neg (by omega), hE.2.2.1.s]
      simp only [zW_e]
      obtain ⟨M2, e2, f2, s2⟩ := r_back (N := N) (.inl rfl) hN hE.1 hE.2.2.2
      rw [e2, zBv_s]
      unfold mJd
      by_cases w0 : w = 0
      · rw [if_pos w0, if_pos w0]; exact ⟨M2, rfl, f2, s2⟩
      · rw [if_neg w0, if_neg w0]
        by_cases w1 : w = 1
        · rw [if_pos w1, if_pos w1]; exact ⟨M2, rfl, f2, s2⟩
        · rw [if_neg w1, if_neg w1]; exact ⟨M2, rfl, f2, s2⟩
  | cons x l ih =>
    intro n i M S b1 b2 hd hi hE hl hr hz h1 h2 hn
    have hil : i < (aL A).length := by
      rcases Nat.lt_or_ge i (aL A).length with h | h
      · exact h
      · rw [List.drop_eq_nil_iff.2 h] at hd; cases hd
    have hd2 := List.drop_eq_getElem_cons hil
    rw [hd] at hd2
    injection hd2 with hx hd3
    have hxm : x ∈ aL A := by rw [hx]; exact List.getElem_mem _
    have hxv := hvl.2 x hxm
    have hle := hvl.1
    have h6 := hv.n
    have hri := hr i hil
    rw [← hx, Nat.zero_add] at hri
    cases n with
    | zero => simp at hn
    | succ n =>
      simp only [List.length_cons] at hn
      unfold Mo_judged_42
      rw [hl, if_pos (by omega), hE.2.2.1.b]
      simp only [zW_e]
      obtain ⟨M1, e1, f1, s1⟩ := r_done (N := N) (A := A) hv hz (by omega) hN hE.2.1 hE.2.2.1 hxv (k := i) (by omega) hri.1 hri.2.1 hri.2.2 b1 b2
      rw [e1, zB_s]
      have hE1 := rE_p (.inl rfl) hE f1 s1
      have hb64 := hz.b hv
      have hz1 : VS (i + 1) (aP A) (mJ1 (aP A) i x (S, b1, b2)).1 := by
        unfold mJ1
        by_cases b4 : x / 100 = 4
        · rw [if_pos b4]; exact hz.step
        · rw [if_neg b4]
          have ht : (x / 10 % 10).toNat < qN (aP A) := by have := hxv.2.2.1 b4; omega
          by_cases e : mCan (aP A) S (x / 100) (x / 10 % 10).toNat = true
          · rw [if_pos e]
            have hz' : VS (i + 1) (aP A) S := hz.up (by omega)
            by_cases b0 : x / 100 = 0
            · exact hz'.act ht (by have := hxv.2.2.2 b0; omega)
            · have hsame : mAct S (x / 100) (x / 10 % 10).toNat (x % 10) = mAct S (x / 100) (x / 10 % 10).toNat 0 := by unfold mAct; rw [if_neg b0, if_neg b0]
              show VS (i + 1) (aP A) (mAct S (x / 100) (x / 10 % 10).toNat (x % 10))
              rw [hsame]
              exact hz'.act ht (by omega)
          · rw [if_neg e]; exact hz.up (by omega)
      have hb2 := mJ1_b (k := i) (b1 := b1) (b2 := b2) hv hz (x := x) (fun h => by have := hxv.2.2.1 h; omega) h2
      have hb1 : (mJ1 (aP A) i x (S, b1, b2)).2.1 = if x / 100 = 4 ∨ mCan (aP A) S (x / 100) (x / 10 % 10).toNat = true then b1 else if b1 < 0 then (i : Int) else b1 := by
        unfold mJ1
        by_cases b4 : x / 100 = 4
        · rw [if_pos b4]
          dsimp only
          rw [if_pos (.inl b4)]
        · rw [if_neg b4]
          by_cases e : mCan (aP A) S (x / 100) (x / 10 % 10).toNat = true
          · rw [if_pos e]
            dsimp only
            rw [if_pos (.inr e)]
          · have e9 : ¬ (x / 100 = 4 ∨ mCan (aP A) S (x / 100) (x / 10 % 10).toNat = true) := fun h => h.elim b4 e
            rw [if_neg e]
            dsimp only
            rw [if_neg e9]
            by_cases e2 : b1 = -1
            · rw [if_pos e2, if_pos (by omega)]
            · rw [if_neg e2, if_neg (by omega)]
      have hd1 : -1 ≤ (mJ1 (aP A) i x (S, b1, b2)).2.1 := by rw [hb1]; split <;> (try split) <;> omega
      have hd2 : -1 ≤ (mJ1 (aP A) i x (S, b1, b2)).2.2 := by rw [hb2]; split <;> (try split) <;> omega
      -- what comes behind
      have k77 : ∀ y : Int, y = (mJ1 (aP A) i x (S, b1, b2)).2.1 → ∃ M', Mo_judged_77 N (Mo_judged_42 N n) 0 w y b2 i (sB S : Int) M1 = some (if w = 0 then (mJd (aP A) (x :: l) i (S, b1, b2)).2.1 else if w = 1 then (mJd (aP A) (x :: l) i (S, b1, b2)).2.2 else sS (mJd (aP A) (x :: l) i (S, b1, b2)).1, M') ∧ zfr fQ M M' ∧ R0 (qN (aP A)) (aS A) M' := by
        intro y hy
        obtain ⟨M', e2, f2, s2⟩ := ih n (i + 1) M1 (mJ1 (aP A) i x (S, b1, b2)).1 (mJ1 (aP A) i x (S, b1, b2)).2.1 (mJ1 (aP A) i x (S, b1, b2)).2.2 hd3.symm (by omega) hE1 (by rw [f1.2 _ _ _ (by simp [fp, fr]), hl]) (hr.g (fun t k ht _ _ => f1.2 _ _ _ (by simp [fp, fr]; omega))) hz1 hd1 hd2 (by omega)
        refine ⟨M', ?_, (f1.mo fp_Q).tr f2, s2⟩
        unfold Mo_judged_77
        simp only [zW_e]
        rw [s1.b, zdif_n _ (hz1.b hv) _ hb64, zsucc (by omega), hy]
        rw [mJd]
        rw [hb2] at e2
        have ep : ((mJ1 (aP A) i x (S, b1, b2)).1, (mJ1 (aP A) i x (S, b1, b2)).2.1, (if zdif (sB (mJ1 (aP A) i x (S, b1, b2)).1) (sB S) = 0 then b2 else if b2 < 0 then (i : Int) else b2)) = mJ1 (aP A) i x (S, b1, b2) := by
          rw [← hb2]
        rw [ep] at e2
        by_cases z0 : zdif (sB (mJ1 (aP A) i x (S, b1, b2)).1) (sB S) = 0
        · rw [if_pos (by omega)]
          rw [if_pos z0] at e2
          exact e2
        · rw [if_neg (by omega)]
          rw [if_neg z0] at e2
          by_cases z1 : b2 < 0
          · rw [if_pos z1]
            rw [if_pos z1] at e2
            exact e2
          · rw [if_neg z1]
            rw [if_neg z1] at e2
            exact e2
      by_cases bd : x / 100 = 4 ∨ mCan (aP A) S (x / 100) (x / 10 % 10).toNat = true
      · rw [if_pos bd] at hb1
        rw [if_pos bd, if_neg (by decide)]
        exact k77 b1 hb1.symm
      · rw [if_neg bd] at hb1
        rw [if_neg bd, if_pos rfl]
        by_cases z1 : b1 < 0
        · rw [if_pos z1] at hb1
          rw [if_pos z1]; exact k77 _ hb1.symm
        · rw [if_neg z1] at hb1
          rw [if_neg z1]; exact k77 _ hb1.symm
theorem m_judged (h : RA A M) (hv : VA c A) (hN : 2000 ≤ N) (x : Int) : ∃ M', Mo_judged N 0 x M = some (qJudged A x, M') ∧ RA A M' ∧ zRl M M' := by
  have h0 := h.z 0
  unfold Mo_judged qJudged
  simp only [zW_e]
  rw [r_within, zB_s]
  by_cases b : 0 ≤ x ∧ x ≤ 2
  · rw [if_pos b, if_neg (by decide)]
    obtain ⟨M1, e1, f1, s1, s2⟩ := r_aside (N := N) h0 (.inl rfl) hN
    rw [e1, zBv_s]
    obtain ⟨M2, e2, f2, s3⟩ := r_fresh (N := N) (M := M1) (P := aP A) hN
    rw [e2, zBv_s]
    have f12 := f1.tr (f2.mo (fun t i k h => f81_fp t i k (fp_Q t i k h)))
    have hq : ∀ t k, 74 ≤ t ∧ t ≤ 80 → mI M2 t 0 k = mI (pI M 11 0 0 0) t 0 k := fun t k ht => f12.2 _ _ _ (by simp [fQ]; omega)
    obtain ⟨M3, e3, f3, s4⟩ := m_jud42 (N := N) (A := A) hv.p hv.2.2.1 hN (w := x) b (aL A) N 0 M2 (mBeg (aP A)) (-1) (-1) rfl (by omega) ⟨(h0.k.e f1.1).e f2.1, (h0.p.fr f1 fQ_p).fr f2 f81_p, s3, s1.fr f2 (fun k _ _ => by simp [f81])⟩ (by rw [hq _ _ (by omega), h0.2.2.2.1.1]) (h0.2.2.2.1.2.g (fun t k ht _ _ => hq _ _ (by omega))) mBeg_v (by omega) (by omega) (by have := hv.2.2.1.1; omega)
    rw [show ((0 : Nat) : Int) = 0 from rfl] at e3
    rw [e3]
    refine h.e2 (f12.tr f3) s4 ?_
    by_cases b0 : x = 0
    · rw [if_pos b0, if_pos b0]
    · rw [if_neg b0, if_neg b0]
      by_cases b1 : x = 1
      · rw [if_pos b1, if_pos b1]
      · rw [if_neg b1, if_neg b1, if_pos (by omega)]
  · rw [if_neg b, if_pos rfl, if_neg (by omega), if_neg (by omega), if_neg (by omega)]
    exact h.e0 rfl
end RQ4
