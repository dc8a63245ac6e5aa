theorem zW_e {α β : Type} {a : α} {f : α → β} : zW a f = f a := id rfl
section RMEAS
variable {N : Nat} {P : PK} {S : SK} {M : ZM} {c : Nat}
theorem r_94 (hs : R0 (qN P) S M) (hz : VS c P S) {t : Nat} (ht : t < 6) {v : Int} : Mo_powerOf_94 N 0 t v M = some (if mTb (sA S t) = 0 then zmax 0 (zmin v 99) else if mTb (sA S t) = 1 then (zmax 0 (zmin v 99) * 9).tdiv 10 else (zmax 0 (zmin v 99) * 6).tdiv 10, M) := by
  unfold Mo_powerOf_94
  have e : Mo_between N v 0 99 M = some (zmax 0 (zmin v 99), M) := by
    unfold Mo_between zmax zmin
    by_cases b1 : v < 0
    · rw [if_pos b1, if_neg (by rw [if_neg (by omega)]; omega)]
    · rw [if_neg b1]
      by_cases b2 : 99 < v
      · rw [if_pos b2, if_pos b2, if_pos (by omega)]
      · rw [if_neg b2, if_neg b2]
        by_cases b3 : 0 < v
        · rw [if_pos b3]
        · rw [if_neg b3]; have : v = 0 := by omega
          rw [this]
  rw [e, zB_s, r_turnedOf hs hz ht, zB_s]
  have h : 0 ≤ zmax 0 (zmin v 99) ∧ zmax 0 (zmin v 99) ≤ 99 := by
    unfold zmax zmin; split <;> (try split) <;> omega
  generalize zmax 0 (zmin v 99) = r at h ⊢
  split
  · rfl
  · rw [r_turnedOf hs hz ht, zB_s]
    split
    · rw [zs (x := r * 9) (by omega), Int.tdiv_eq_ediv_of_nonneg (by omega), zs (by omega)]
    · rw [zs (x := r * 6) (by omega), Int.tdiv_eq_ediv_of_nonneg (by omega), zs (by omega)]
theorem r_87 (h : RP P M) (hs : R0 (qN P) S M) (hz : VS c P S) (hN : 2000 ≤ N) {t : Nat} (ht : t < 6) {w wo nt : Int} (ra : zr32 w) (rb : zr32 wo) (re : zr32 nt) {u : List Int} (l1 : mI M 59 0 0 = 0) (l2 : mI M 60 0 0 = (u.length : Int)) (l4 : u.length ≤ 1000) (l5 : ∀ i, (h : i < u.length) → mI M 61 0 i = u[i]) (l6 : rLw u (qL P)) (h1 : mI M 73 0 1 = w) (h2 : mI M 73 0 2 = wo) (h3 : mI M 73 0 3 = mTb (sA S t)) : ∃ M', Mo_powerOf_87 N 0 t 0 4 nt M = some (if mTb (sA S t) = 0 then zmax 0 (zmin (qL P w wo (mTb (sA S t)) nt) 99) else if mTb (sA S t) = 1 then (zmax 0 (zmin (qL P w wo (mTb (sA S t)) nt) 99) * 9).tdiv 10 else (zmax 0 (zmin (qL P w wo (mTb (sA S t)) nt) 99) * 6).tdiv 10, M') ∧ zfr fw M M' := by
  unfold Mo_powerOf_87
  rw [zI_t (by decide)]
  dsimp only [zW]
  have f4 : zfr fw M (pI M 73 0 (4 : Int).toNat nt) := (zfr.rf M).pI (by simp [fw])
  obtain ⟨M', e1, f5⟩ := r_worked (N := N) (M := pI M 73 0 (4 : Int).toNat nt) (a := w) (b := wo) (c := mTb (sA S t)) (e := nt) (u := u) (L := qL P) (by rw [f4.2 _ _ _ (fw_n (by omega)), l1]) (by rw [f4.2 _ _ _ (fw_n (by omega)), l2]) l4 (fun i hi => by rw [f4.2 _ _ _ (fw_n (by omega)), l5 i hi]) l6 ra rb (by have := mTb_c (hz.a ht); unfold zr32; omega) re hN (by rw [mI_pI_ne (by decide), h1]) (by rw [mI_pI_ne (by decide), h2]) (by rw [mI_pI_ne (by decide), h3]) mI_pI_eq
  rw [e1, zB_s, r_94 ((hs.fr f4 (fun k _ _ => fw_s (by omega) k)).fr f5 (fun k _ _ => fw_s (by omega) k)) hz ht]
  exact ⟨M', rfl, f4.tr f5⟩
theorem r_powerOf (hv : VP P) (h : RP P M) (hs : R0 (qN P) S M) (hz : VS c P S) (hN : 2000 ≤ N) {f bl : Int} (hfr : mI M 11 0 51 = f) (hf : 0 ≤ f ∧ f ≤ 3) (hbl : mI M 11 0 50 = bl) (hb : 0 ≤ bl ∧ bl ≤ 30) {t : Nat} (ht : t < qN P) : ∃ M', Mo_powerOf N 0 t M = some (mPow P S f bl t, M') ∧ zfr fw M M' := by
  have h6 := hv.n
  have ht6 : t < 6 := by omega
  have i16 : (0 : Int) ≤ ((10 + t : Nat) : Int) ∧ ((10 + t : Nat) : Int) < 16 := by omega
  unfold Mo_powerOf mPow
  rw [r_runs hv hs (hz.b hv) ht, zB_s]
  by_cases br : mRun S t = true
  · rw [if_pos br, if_pos br, if_neg (by decide), r_windOf hv h hs hz hN hfr hf hbl hb ht, zB_s]
    have rw0 : zr32 (mWnd bl (mTkn P (sA S) (mRun S) f t)) := mWnd_r hb (mTkn_b hv)
    generalize mWnd bl (mTkn P (sA S) (mRun S) f t) = w at rw0 ⊢
    unfold mGiv
    rcases h.lw with ⟨l1, l2, l3⟩ | ⟨u, l1, l2, l3, l4, l5, l6⟩
    · have l4 : qL P w (sW S t) (mTb (sA S t)) (mNt (sT S)) = w := by rw [l3]
      have l5 : ¬ ((0 : Int) < 0) := by decide
      rw [l1, l2, if_neg l5, r_94 hs hz ht6, l4]
      exact ⟨M, rfl, zfr.rf M⟩
    · have hu : (0 : Int) < u.length := by
        have := List.length_pos_iff.2 l3
        omega
      have e10 : z32 (10 + (t : Int)) = ((10 + t : Nat) : Int) := by rw [zs (by omega)]; omega
      rw [l1, l2, if_pos hu, e10]
      clear e10
      simp only [zW_e]
      rw [zI_t i16, Int.toNat_natCast]
      have f1 : zfr fw M (pI M 73 0 1 w) := (zfr.rf M).pI (by simp [fw])
      rw [(hs.fr f1 (fun k _ _ => fw_s (by omega) k)).w ht6]
      have f2 : zfr fw M (pI (pI M 73 0 1 w) 73 0 2 (sW S t)) := f1.pI (by simp [fw])
      have hs2 := hs.fr f2 (fun k _ _ => fw_s (by omega) k)
      rw [r_turnedOf hs2 hz ht6, zB_s]
      have f3 : zfr fw M (pI (pI (pI M 73 0 1 w) 73 0 2 (sW S t)) 73 0 3 (mTb (sA S t))) := f2.pI (by simp [fw])
      have hs3 := hs.fr f3 (fun k _ _ => fw_s (by omega) k)
      have h3 := h.fr f3 fw_p
      rw [hs3.t]
      have key : ∀ nt : Int, zr32 nt → _ := fun nt rnt => r_87 (N := N) (nt := nt) (w := w) (wo := sW S t) h3 hs3 hz hN ht6 rw0 (hz.w ht6) rnt (by rw [f3.2 _ _ _ (fw_n (by omega)), l1]) (by rw [f3.2 _ _ _ (fw_n (by omega)), l2]) l4 (fun i hi => by rw [f3.2 _ _ _ (fw_n (by omega)), l5 i hi]) l6 (by rw [mI_pI_ne (by decide), mI_pI_ne (by decide), mI_pI_eq]) (by rw [mI_pI_ne (by decide), mI_pI_eq]) mI_pI_eq
      unfold mNt
      generalize (sT S).tmod 12 = y
      by_cases bn : y < 6
      · rw [if_neg (by omega), if_pos bn]
        obtain ⟨M', e, f4⟩ := key 0 (by unfold zr32; omega)
        exact ⟨M', e, f3.tr f4⟩
      · rw [if_pos (by omega), if_neg bn]
        obtain ⟨M', e, f4⟩ := key 1 (by unfold zr32; omega)
        exact ⟨M', e, f3.tr f4⟩
  · rw [if_neg br, if_neg br, if_pos rfl]
    exact ⟨M, rfl, zfr.rf M⟩
theorem r_hops4 (hv : VP P) (h : RP P M) (hN : 2000 ≤ N) : ∀ (m n j : Nat) (k : Int), (k = 6 ∨ (0 ≤ k ∧ k < qN P)) → j + m < 1000 → mHp P (m + 1) k ≤ m → mHp P (m + 1) k < n → Mo_hopsOf_4 N n 0 j k M = some (((j + mHp P (m + 1) k : Nat) : Int), M) := by
  intro m
  induction m with
  | zero =>
    intro n j k hk hj hm hn
    cases n with
    | zero => omega
    | succ n =>
      have h6 := hv.n
      unfold Mo_hopsOf_4
      unfold mHp at hm ⊢
      by_cases b : k = 6
      · rw [if_pos b, if_pos (.inl b)]; rfl
      · rw [if_neg b, zI_t (by omega), h.g (by omega)]
        by_cases b2 : qT P 4 k.toNat < 0
        · rw [if_pos b2, if_pos (.inr b2)]; rfl
        · rw [if_neg (by omega)] at hm
          omega
  | succ m ih =>
    intro n j k hk hj hm hn
    cases n with
    | zero => omega
    | succ n =>
      have h6 := hv.n
      unfold Mo_hopsOf_4
      rw [mHp] at hm hn ⊢
      by_cases b : k = 6
      · rw [if_pos b, if_pos (.inl b)]; rfl
      · rw [if_neg b, zI_t (by omega), h.g (by omega)]
        by_cases b2 : qT P 4 k.toNat < 0
        · rw [if_pos b2, if_pos (.inr b2)]; rfl
        · rw [if_neg (by omega)] at hm hn
          rw [if_neg b2, if_neg (by omega)]
          dsimp only [zW]
          have hg := hv.g (k := k.toNat) (by omega)
          rw [zsucc (by omega), zI_t (by omega), ih n (j + 1) _ (by omega) (by omega) (by omega) (by omega)]
          congr 3
          omega
theorem r_hopsOf (hv : VP P) (h : RP P M) (hN : 2000 ≤ N) {t : Nat} (ht : t < qN P) : Mo_hopsOf N 0 t M = some ((mHop P t : Int), M) := by
  unfold Mo_hopsOf mHop
  have hb := mHop_b hv ht
  have h7 : mHp P 7 t ≤ 6 := by
    by_cases b : qT P 4 t = -1
    · have := hb.1 b; unfold mHop at this; omega
    · have := hb.2.1 b; unfold mHop at this; omega
  have := r_hops4 (N := N) hv h hN 6 N 0 t (.inr (by omega)) (by omega) h7 (Nat.lt_of_le_of_lt h7 (by omega))
  rw [show ((0 : Nat) : Int) = 0 from rfl] at this
  rw [this, Nat.zero_add]
def fc (t _i _k : Nat) : Bool := t == 88
theorem fc_r : ∀ t i k, fr t i k = false → fc t i k = false := by
  intro t i k h; simp [fr] at h; simp [fc]; omega
theorem fc_p : ∀ t k, t = 51 ∨ (53 ≤ t ∧ t ≤ 61) → fc t 0 k = false := by
  intro t k h; simp [fc]; omega
/-- done when level f has come to k -/
def rDn (P : PK) (f k u : Nat) : Bool := decide (f < mHop P u) || (decide (mHop P u = f) && decide (u < k))
def rIn (P : PK) (ld pw : Nat → Int) (D : Nat → Bool) (t : Nat) : Int := if D t then ld t else pw t + zsum (fun u => if qT P 4 u = t ∧ D u = true then ld u else 0) (qN P)
def rAl (P : PK) (ld : Nat → Int) (D : Nat → Bool) : Int := zsum (fun u => if qT P 4 u = 6 ∧ D u = true then ld u else 0) (qN P)
theorem r_home42 (hv : VP P) (hN : 2000 ≤ N) {pw : Nat → Int} {x : Int} (hpw : ∀ t, t < qN P → 0 ≤ pw t ∧ pw t ≤ 99) {rec35 : Nat → Int → Int → Int → ZM → Option (Int × ZM)} {far : Nat} (hfar : 1 ≤ far ∧ far ≤ 6) : ∀ (n k : Nat) (M : ZM), RP P M → (∀ t, t < qN P → mI M 88 0 t = rIn P (mLd P pw x) pw (rDn P far k) t) → k ≤ qN P → qN P - k < n → ∃ M', Mo_homeBy_42 N rec35 n 0 x (rAl P (mLd P pw x) (rDn P far k)) far k M = rec35 0 x (rAl P (mLd P pw x) (rDn P far (qN P))) ((far : Int) - 1) M' ∧ zfr fc M M' ∧ (∀ t, t < qN P → mI M' 88 0 t = rIn P (mLd P pw x) pw (rDn P far (qN P)) t) := by
  intro n
  induction n with
  | zero => intros; omega
  | succ n ih =>
    intro k M h hI hk hn
    have h6 := hv.n
    unfold Mo_homeBy_42
    rw [h.n]
    by_cases b : k = qN P
    · subst b
      rw [if_neg (by omega)]
      dsimp only [zW]
      rw [zs (x := (far : Int) + -1) (by omega)]
      exact ⟨M, rfl, zfr.rf M, hI⟩
    · rw [if_pos (by omega), r_hopsOf hv h hN (by omega), zB_s]
      have hkN : k < qN P := by omega
      by_cases b2 : mHop P k = far
      · rw [if_pos (by omega)]
        have hgk : qT P 4 k ≠ -1 := fun e => by have := (mHop_b hv hkN).1 e; omega
        -- what has come to k is all that goes there
        have hDk : rDn P far k k = false := by simp [rDn, b2]
        have hDk1 : rDn P far (k + 1) k = true := by simp [rDn, b2]
        have hDne : ∀ u, u ≠ k → rDn P far (k + 1) u = rDn P far k u := fun u hu => by
          unfold rDn
          have : decide (u < k + 1) = decide (u < k) := by
            apply decide_eq_decide.2; omega
          rw [this]
        have hDg : ∀ u, u < qN P → qT P 4 u = k → rDn P far k u = true := fun u hu e => by
          have := ((mHop_b hv hu).2.2.2 k hkN e).1
          simp [rDn]; omega
        have hck : mI M 88 0 k = pw k + zsum (fun u => if qT P 4 u = k then mLd P pw x u else 0) (qN P) := by
          rw [hI k hkN, rIn, hDk]
          simp only [Bool.false_eq_true, if_false]
          congr 1
          refine zsum_cg fun u hu => ?_
          by_cases e : qT P 4 u = k
          · rw [if_pos ⟨e, hDg u hu e⟩, if_pos e]
          · rw [if_neg (fun h => e h.1), if_neg e]
        have hld := mLd_eq (pw := pw) (f := x) hv hkN hgk
        rw [← hck] at hld
        have hlb := mLd_b (f := x) hv (fun t ht => (hpw t ht).1) (u := k)
        have hgo := hv.g hkN
        have fin : ∀ y : Int, y = mLd P pw x k → ∃ M', Mo_homeBy_99 N rec35 (Mo_homeBy_42 N rec35 n) 0 x (rAl P (mLd P pw x) (rDn P far k)) far k 0 k y M = rec35 0 x (rAl P (mLd P pw x) (rDn P far (qN P))) ((far : Int) - 1) M' ∧ zfr fc M M' ∧ (∀ t, t < qN P → mI M' 88 0 t = rIn P (mLd P pw x) pw (rDn P far (qN P)) t) := by
          intro y hy
          unfold Mo_homeBy_99
          rw [zI_t (by omega)]
          dsimp only [zW]
          have f1 : zfr fc M (pI M 88 0 (k : Int).toNat y) := (zfr.rf M).pI (by simp [fc])
          have h1 := h.fr f1 fc_p
          rw [zI_t (by omega)]
          rw [Int.toNat_natCast] at f1 h1 ⊢
          rw [h1.g hkN, mI_pI_eq, zsucc (by omega)]
          -- sums when k is done
          have hsum : ∀ g : Int, zsum (fun u => if qT P 4 u = g ∧ rDn P far (k + 1) u = true then mLd P pw x u else 0) (qN P) = zsum (fun u => if qT P 4 u = g ∧ rDn P far k u = true then mLd P pw x u else 0) (qN P) + (if qT P 4 k = g then y else 0) := by
            intro g
            refine zsum_add1 (k := k) hkN (fun u hu he => by rw [hDne u he]) ?_
            rw [hDk1, hDk, hy]
            by_cases e : qT P 4 k = g <;> simp [e]
          have b88 : ∀ g : Nat, 0 ≤ zsum (fun u => if qT P 4 u = g ∧ rDn P far k u = true then mLd P pw x u else 0) (qN P) ∧ zsum (fun u => if qT P 4 u = g ∧ rDn P far k u = true then mLd P pw x u else 0) (qN P) ≤ 200 * 6 := by
            intro g
            have a1 := zsum_ge (f := fun u => if qT P 4 u = (g : Int) ∧ rDn P far k u = true then mLd P pw x u else 0) (n := qN P) (a := 0) (fun u _ => by
              have := mLd_b (f := x) hv (fun t ht => (hpw t ht).1) (u := u)
              split <;> omega)
            have a2 := zsum_le (f := fun u => if qT P 4 u = (g : Int) ∧ rDn P far k u = true then mLd P pw x u else 0) (n := qN P) (a := 200) (fun u _ => by
              have := mLd_b (f := x) hv (fun t ht => (hpw t ht).1) (u := u)
              split <;> omega)
            omega
          by_cases b3 : qT P 4 k = 6
          · rw [if_pos b3, zI_t (by omega)]
            have bal := b88 6
            have eal : z32 (rAl P (mLd P pw x) (rDn P far k) + y) = rAl P (mLd P pw x) (rDn P far (k + 1)) := by
              unfold rAl
              rw [hsum 6, if_pos b3, zs (by
                have := b88 6
                rw [show ((6 : Nat) : Int) = 6 from rfl] at this
                omega)]
            rw [eal]
            clear eal
            obtain ⟨M', e, r1, r2⟩ := ih (k + 1) _ h1 (fun t ht => by
              rw [mI_pI]
              by_cases e : t = k
              · subst e; rw [if_pos ⟨rfl, rfl, rfl⟩, rIn, hDk1, if_pos rfl, hy]
              · have e9 : ¬ qT P 4 k = (t : Int) := by omega
                rw [if_neg (by omega), hI t ht, rIn, rIn, hDne t e, hsum t]
                simp [e9]) (by omega) (by omega)
            exact ⟨M', e, f1.tr r1, r2⟩
          · rw [if_neg b3, zI_t (by omega), zI_t (by omega), zI_t (by omega), zI_t (by omega)]
            have hgN : (qT P 4 k).toNat < qN P := by omega
            have hgk2 : qT P 4 k = ((qT P 4 k).toNat : Int) := by omega
            have hhop := ((mHop_b hv hkN).2.2.2 _ hgN hgk2).1
            generalize hge : (qT P 4 k).toNat = g at *
            have hgne : g ≠ k := fun e => by subst e; omega
            have hDgf : rDn P far k g = false := by simp [rDn]; omega
            have bb := b88 g
            have hpg := hpw g hgN
            have hcg : mI M 88 0 g = pw g + zsum (fun u => if qT P 4 u = g ∧ rDn P far k u = true then mLd P pw x u else 0) (qN P) := by
              rw [hI g hgN, rIn, hDgf]; simp
            rw [mI_pI_ne (by omega), hcg, zs (by omega)]
            have f2 := f1.pI (t := 88) (i := 0) (k := g) (x := pw g + zsum (fun u => if qT P 4 u = g ∧ rDn P far k u = true then mLd P pw x u else 0) (qN P) + y) (by simp [fc])
            have eal : rAl P (mLd P pw x) (rDn P far k) = rAl P (mLd P pw x) (rDn P far (k + 1)) := by
              unfold rAl
              rw [hsum 6, if_neg b3]; simp
            rw [eal]
            obtain ⟨M', e, r1, r2⟩ := ih (k + 1) _ (h.fr f2 fc_p) (fun t ht => by
              rw [mI_pI]
              by_cases e : t = g
              · subst e
                rw [if_pos ⟨rfl, rfl, rfl⟩, rIn, hDne t hgne, hDgf, hsum t, if_pos hgk2]
                simp only [Bool.false_eq_true, if_false]
                omega
              · rw [if_neg (by omega), mI_pI]
                by_cases e2 : t = k
                · subst e2; rw [if_pos ⟨rfl, rfl, rfl⟩, rIn, hDk1, if_pos rfl, hy]
                · have e9 : ¬ qT P 4 k = (t : Int) := by omega
                  rw [if_neg (by omega), hI t ht, rIn, rIn, hDne t e2, hsum t]
                  simp [e9]) (by omega) (by omega)
            exact ⟨M', e, f2.tr r1, r2⟩
        by_cases bf : (k : Int) = x
        · rw [if_pos bf]
          rw [if_pos bf] at hld
          exact fin 0 hld.symm
        · rw [if_neg bf, zI_t (by omega), zI_t (by omega), Int.toNat_natCast, h.h hkN]
          rw [if_neg bf] at hld
          refine fin _ ?_
          rw [hld]
          unfold zmin
          split <;> split <;> omega
      · rw [if_neg (by omega)]
        dsimp only [zW]
        rw [zsucc (by omega)]
        have hDe : rDn P far (k + 1) = rDn P far k := by
          funext u
          unfold rDn
          by_cases e : u = k
          · subst e; simp [b2]
          · have : decide (u < k + 1) = decide (u < k) := by
              apply decide_eq_decide.2; omega
            rw [this]
        have := ih (k + 1) M h (by rw [hDe]; exact hI) (by omega) (by omega)
        rw [hDe] at this
        exact this
end RMEAS
