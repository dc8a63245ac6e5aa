section ZTHM
variable {l : Launch} {dC : Nat → ClassId} {dI : Nat → Nat → Nat} {aC : Nat → ClassId} {B sl : Nat} {sx : Nat → Int} {hl : State → Prop}
theorem zlv3 {ls : ZL} {M : ZM} {i : Nat} {x : ZV} (hlv : ∀ i v, znt ls i = some v → zvl M v) (hx0 : zvl M x) : ∀ j v, znt (zse ls i (some x)) j = some v → zvl M v := by
  intro j v hj
  rcases znt_se _ _ _ _ _ hj with ⟨_, e⟩ | ⟨_, e⟩
  · cases e; exact hx0
  · exact hlv _ _ e
theorem zokf_x {own : String} {idx t f pl tg rg j : Nat} {ax : List Nat} (h : zokf own idx (t :: f :: pl :: tg :: rg :: j :: ax) = true) : (t = 12 ∧ ((Nat.beq f 0 && Nat.beq pl 5 && zlk j (.fieldLink own idx "WakePark$Word" "free" "Z")) || (Nat.beq f 1 && Nat.beq pl 6 && zlk j (.fieldLink own idx "WakePark$Word" "key" "J"))) = true) ∨ (Nat.blt t 12 && Nat.blt f (znf t) && decide (zfp t f = (pl, tg, rg)) && (match vwCl[t]? with
      | some c => zlk j (.fieldLink own idx (c.2.1 f).1 (c.2.1 f).2.1 (c.2.1 f).2.2.1)
      | none => false)) = true := by
  unfold zokf at h
  dsimp only at h
  split at h
  · exact .inl ⟨rfl, h⟩
  · exact .inr h
theorem zoks_x {own : String} {idx t i j : Nat} {ax : List Nat} (h : zoks own idx (t :: i :: j :: ax) = true) : (t = 12 ∧ (Nat.blt i 30 && zlk j (.fieldLink own idx "WakePark$Word" (zwn i) "LWakePark$Word;")) = true) ∨ (t = 100 ∧ (Nat.beq i 0 && zlk j (.fieldLinkNest own idx "WakePark" "WORDS" "[LWakePark$Word;" "WakePark")) = true) ∨ (t = 101 ∧ (Nat.beq i 0 && zlk j (.fieldLink own idx "WakePark$1" "$SwitchMap$WakePark$Word" "[I")) = true) := by
  unfold zoks at h
  dsimp only at h
  split at h
  · exact .inl ⟨rfl, h⟩
  · exact .inr (.inl ⟨rfl, h⟩)
  · exact .inr (.inr ⟨rfl, h⟩)
  · cases h
def zgV (M : ZM) (t i f pl tg rg : Nat) : ZV := match pl with
  | 0 => .inl (mI M t i f)
  | 1 => .inl (mI M t i f)
  | 2 => .inr (.inl (mL M t i f))
  | 3 => .inr (.inr (tg, mF M t i f))
  | _ => .inr (.inr (tg, zrg (mR M) rg))
theorem zfv_of {ρ : Nat → Nat → Nat} {M : ZM} {t i f pl tg rg : Nat} (h : zfp t f = (pl, tg, rg)) (hp : pl = 0 ∨ pl = 1 ∨ pl = 2 ∨ pl = 3 ∨ pl = 4) : zfv ρ M t i f = zcv ρ (zgV M t i f pl tg rg) := by
  have h1 : (zfp t f).1 = pl := by rw [h]
  have h2 : (zfp t f).2.1 = tg := by rw [h]
  have h3 : (zfp t f).2.2 = rg := by rw [h]
  unfold zfv
  rw [h1, h2, h3]
  rcases hp with rfl | rfl | rfl | rfl | rfl <;> rfl
theorem zHp_ce {ρ : Nat → Nat → Nat} {M : ZM} {H H1 : Heap} {n : Nat} (hH : zHp ρ dC dI aC M H) (hq : ∀ q, q < H.size → H1[q]? = H[q]?) : zHp ρ dC dI aC (pCe M n) H1 := by
  intro t i hm hi
  obtain ⟨a, b⟩ := hH t i hm hi
  refine ⟨fun z => ?_, fun z => ?_⟩
  · obtain ⟨cell, k1, k2, k3, k4⟩ := a z
    exact ⟨cell, by rw [hq _ (Array.getElem?_eq_some_iff.mp k1).1]; exact k1, k2, k3, k4⟩
  · rw [hq _ (Array.getElem?_eq_some_iff.mp (b z)).1]
    exact b z
theorem zlv1 {ls : ZL} {M : ZM} {i : Nat} {x : ZV} (hlv : ∀ i v, znt ls i = some v → zvl M v) (hx0 : zvl M x) : ∀ j v, znt (zse (zcl ls i) i (some x)) j = some v → zvl M v := by
  intro j v hj
  rcases znt_se _ _ _ _ _ hj with ⟨_, e⟩ | ⟨_, e⟩
  · cases e; exact hx0
  · exact hlv _ _ (znt_cl e).1
theorem zlv2 {ls : ZL} {M : ZM} {i : Nat} {x : ZV} (hlv : ∀ i v, znt ls i = some v → zvl M v) (hx0 : zvl M x) : ∀ j v, znt (zse (zse (zcl ls i) i (some x)) (i + 1) none) j = some v → zvl M v := by
  intro j v hj
  rcases znt_se _ _ _ _ _ hj with ⟨_, e⟩ | ⟨_, e⟩
  · cases e
  · exact zlv1 hlv hx0 j v e
set_option maxHeartbeats 8000000 in
set_option maxRecDepth 20000 in
theorem zsnd_step (hck : ∀ (mi : Nat) (tab : ZT) (nl : Nat), zG mi = some (tab, nl) → zckm mi tab nl = true) (h4 : zR4 l B sl sx) (h5 : zR5 l dC dI aC B sl sx hl) {n : Nat} (ih : zSnd l dC dI aC B sl sx hl n) : zSnd l dC dI aC B sl sx hl (n + 1) := by
  intro d tab pc ls st M rr M' h p e s m args below meth c R H locs lsC ρ ρ0 M0 y cc nl ret Q sp hF hd5 hsp hT hctx hag hmo hR hret
  obtain ⟨hx, hb, hml, hown, hts, hini⟩ := id hF
  have hFr := hF
  obtain ⟨hH, hW, hk, hc, hs, hL, hlv, hsv, hB, hS⟩ := hctx
  unfold zex at h
  cases hfd : zfd tab pc with
  | none => rw [hfd] at h; cases h
  | some q =>
    rw [hfd] at h
    have hokq1 := List.all_eq_true.mp hT (pc, q) (zfd_mem hfd)
    rcases zor2 hokq1 with hstop | hokq0
    · have hi := hsp (pc, q) (zfd_mem hfd) hstop
      obtain ⟨ins, len, ax, cv⟩ := q
      change ins = .return_ at hi
      subst hi
      cases st with
      | nil =>
        cases h
        exact (hret pc ρ H locs lsC hH hW hk hag hS).2 hstop rfl hL.1
      | cons _ _ => cases h
    clear hokq1
    obtain ⟨hokq, hokr⟩ := zand2 hokq0
    obtain ⟨hdg0, hok⟩ := zand2 hokq
    have hdg := of_decide_eq_true hdg0
    clear hokq0 hokq hdg0
    obtain ⟨ins, len, ax, cv⟩ := q
    cases ins
    case iload i => 
      have hlen := Nat.eq_of_beq_eq_true hok; subst hlen
      cases hv : znt ls i with
      | none => simp only [zst, hv, zld] at h; cases h
      | some v =>
        rcases v with x | x | x <;> simp only [zst, hv, zld] at h <;> first | (cases h; done) | skip
        refine lv_iload hx hb hdg (hL.2.2 _ _ hv) ?_
        exact ih h hF hd5 hsp hT ⟨hH, hW, hk, hc, hs, hL, hlv, List.forall_mem_cons.mpr ⟨hlv _ _ hv, hsv⟩, hB, hS⟩ hag hmo hR hret
    case iload_n i => 
      have hlen := Nat.eq_of_beq_eq_true hok; subst hlen
      cases hv : znt ls i with
      | none => simp only [zst, hv, zld] at h; cases h
      | some v =>
        rcases v with x | x | x <;> simp only [zst, hv, zld] at h <;> first | (cases h; done) | skip
        refine lv_iload_n hx hb hdg rfl (hL.2.2 _ _ hv) ?_
        exact ih h hF hd5 hsp hT ⟨hH, hW, hk, hc, hs, hL, hlv, List.forall_mem_cons.mpr ⟨hlv _ _ hv, hsv⟩, hB, hS⟩ hag hmo hR hret
    case lload i => 
      have hlen := Nat.eq_of_beq_eq_true hok; subst hlen
      cases hv : znt ls i with
      | none => simp only [zst, hv, zld] at h; cases h
      | some v =>
        rcases v with x | x | x <;> simp only [zst, hv, zld] at h <;> first | (cases h; done) | skip
        refine lv_lload hx hb hdg (hL.2.2 _ _ hv) ?_
        exact ih h hF hd5 hsp hT ⟨hH, hW, hk, hc, hs, hL, hlv, List.forall_mem_cons.mpr ⟨hlv _ _ hv, hsv⟩, hB, hS⟩ hag hmo hR hret
    case lload_n i => 
      have hlen := Nat.eq_of_beq_eq_true hok; subst hlen
      cases hv : znt ls i with
      | none => simp only [zst, hv, zld] at h; cases h
      | some v =>
        rcases v with x | x | x <;> simp only [zst, hv, zld] at h <;> first | (cases h; done) | skip
        refine lv_lload_n hx hb hdg rfl (hL.2.2 _ _ hv) ?_
        exact ih h hF hd5 hsp hT ⟨hH, hW, hk, hc, hs, hL, hlv, List.forall_mem_cons.mpr ⟨hlv _ _ hv, hsv⟩, hB, hS⟩ hag hmo hR hret
    case aload i => 
      have hlen := Nat.eq_of_beq_eq_true hok; subst hlen
      cases hv : znt ls i with
      | none => simp only [zst, hv, zld] at h; cases h
      | some v =>
        rcases v with x | x | ⟨t, o⟩ <;> simp only [zst, hv, zld] at h <;> first | (cases h; done) | skip
        cases o with
        | none =>
          refine lv_aloadN hx hb hdg (hL.2.2 _ _ hv) ?_
          exact ih h hF hd5 hsp hT ⟨hH, hW, hk, hc, hs, hL, hlv, List.forall_mem_cons.mpr ⟨hlv _ _ hv, hsv⟩, hB, hS⟩ hag hmo hR hret
        | some a =>
          refine lv_aload hx hb hdg (hL.2.2 _ _ hv) ?_
          exact ih h hF hd5 hsp hT ⟨hH, hW, hk, hc, hs, hL, hlv, List.forall_mem_cons.mpr ⟨hlv _ _ hv, hsv⟩, hB, hS⟩ hag hmo hR hret
    case aload_n i => 
      have hlen := Nat.eq_of_beq_eq_true hok; subst hlen
      cases hv : znt ls i with
      | none => simp only [zst, hv, zld] at h; cases h
      | some v =>
        rcases v with x | x | ⟨t, o⟩ <;> simp only [zst, hv, zld] at h <;> first | (cases h; done) | skip
        cases o with
        | none =>
          refine lv_aload_nN hx hb hdg rfl (hL.2.2 _ _ hv) ?_
          exact ih h hF hd5 hsp hT ⟨hH, hW, hk, hc, hs, hL, hlv, List.forall_mem_cons.mpr ⟨hlv _ _ hv, hsv⟩, hB, hS⟩ hag hmo hR hret
        | some a =>
          refine lv_aload_n hx hb hdg rfl (hL.2.2 _ _ hv) ?_
          exact ih h hF hd5 hsp hT ⟨hH, hW, hk, hc, hs, hL, hlv, List.forall_mem_cons.mpr ⟨hlv _ _ hv, hsv⟩, hB, hS⟩ hag hmo hR hret
    case istore i => 
      replace hok := zand2 hok; obtain ⟨hlen, hok⟩ := hok; have hlen := Nat.eq_of_beq_eq_true hlen; subst hlen; have hok := Nat.le_of_ble_eq_true hok
      rcases st with _ | ⟨x | x | x, r⟩ <;> first | (cases h; done) | skip
      replace hsv := List.forall_mem_cons.mp hsv; obtain ⟨hx0, hsv⟩ := hsv
      refine lv_istore hx hb hdg hL.has hok rfl (fun lsC2 hL2 => ?_)
      exact ih h hF hd5 hsp hT ⟨hH, hW, hk, hc, hs, zLR_s1 (x := .inl x) hL2, zlv1 hlv hx0, hsv, hB, hS⟩ hag hmo hR hret
    case lstore i => 
      replace hok := zand2 hok; obtain ⟨hlen, hok⟩ := hok; have hlen := Nat.eq_of_beq_eq_true hlen; subst hlen; have hok := Nat.le_of_ble_eq_true hok
      rcases st with _ | ⟨x | x | x, r⟩ <;> first | (cases h; done) | skip
      replace hsv := List.forall_mem_cons.mp hsv; obtain ⟨hx0, hsv⟩ := hsv
      refine lv_lstore hx hb hdg hL.has hok rfl (fun lsC2 hL2 => ?_)
      exact ih h hF hd5 hsp hT ⟨hH, hW, hk, hc, hs, zLR_s2 (x := .inr (.inl x)) hL2, zlv2 hlv hx0, hsv, hB, hS⟩ hag hmo hR hret
    case astore i => 
      replace hok := zand2 hok; obtain ⟨hlen, hok⟩ := hok; have hlen := Nat.eq_of_beq_eq_true hlen; subst hlen; have hok := Nat.le_of_ble_eq_true hok
      rcases st with _ | ⟨x | x | ⟨t, o⟩, r⟩ <;> first | (cases h; done) | skip
      replace hsv := List.forall_mem_cons.mp hsv; obtain ⟨hx0, hsv⟩ := hsv
      cases o with
      | none =>
        refine lv_astoreN hx hb hdg hL.has hok rfl (fun lsC2 hL2 => ?_)
        exact ih h hF hd5 hsp hT ⟨hH, hW, hk, hc, hs, zLR_s1 (x := .inr (.inr (t, none))) hL2, zlv1 hlv hx0, hsv, hB, hS⟩ hag hmo hR hret
      | some a =>
        refine lv_astore hx hb hdg hL.has hok rfl (fun lsC2 hL2 => ?_)
        exact ih h hF hd5 hsp hT ⟨hH, hW, hk, hc, hs, zLR_s1 (x := .inr (.inr (t, some a))) hL2, zlv1 hlv hx0, hsv, hB, hS⟩ hag hmo hR hret
    case istore_n i => 
      replace hok := zand2 hok; obtain ⟨hlen, hok⟩ := hok; have hlen := Nat.eq_of_beq_eq_true hlen; subst hlen; have hok := Nat.le_of_ble_eq_true hok
      rcases st with _ | ⟨x | x | x, r⟩ <;> first | (cases h; done) | skip
      replace hsv := List.forall_mem_cons.mp hsv; obtain ⟨hx0, hsv⟩ := hsv
      refine lv_istore_n hx hb hdg rfl hL.has hok rfl (fun lsC2 hL2 => ?_)
      exact ih h hF hd5 hsp hT ⟨hH, hW, hk, hc, hs, zLR_s1 (x := .inl x) hL2, zlv1 hlv hx0, hsv, hB, hS⟩ hag hmo hR hret
    case lstore_n i => 
      replace hok := zand2 hok; obtain ⟨hlen, hok⟩ := hok; have hlen := Nat.eq_of_beq_eq_true hlen; subst hlen; have hok := Nat.le_of_ble_eq_true hok
      rcases st with _ | ⟨x | x | x, r⟩ <;> first | (cases h; done) | skip
      replace hsv := List.forall_mem_cons.mp hsv; obtain ⟨hx0, hsv⟩ := hsv
      refine lv_lstore_n hx hb hdg rfl hL.has hok rfl (fun lsC2 hL2 => ?_)
      exact ih h hF hd5 hsp hT ⟨hH, hW, hk, hc, hs, zLR_s2 (x := .inr (.inl x)) hL2, zlv2 hlv hx0, hsv, hB, hS⟩ hag hmo hR hret
    case astore_n i => 
      replace hok := zand2 hok; obtain ⟨hlen, hok⟩ := hok; have hlen := Nat.eq_of_beq_eq_true hlen; subst hlen; have hok := Nat.le_of_ble_eq_true hok
      rcases st with _ | ⟨x | x | ⟨t, o⟩, r⟩ <;> first | (cases h; done) | skip
      replace hsv := List.forall_mem_cons.mp hsv; obtain ⟨hx0, hsv⟩ := hsv
      cases o with
      | none =>
        refine lv_astore_nN hx hb hdg rfl hL.has hok rfl (fun lsC2 hL2 => ?_)
        exact ih h hF hd5 hsp hT ⟨hH, hW, hk, hc, hs, zLR_s1 (x := .inr (.inr (t, none))) hL2, zlv1 hlv hx0, hsv, hB, hS⟩ hag hmo hR hret
      | some a =>
        refine lv_astore_n hx hb hdg rfl hL.has hok rfl (fun lsC2 hL2 => ?_)
        exact ih h hF hd5 hsp hT ⟨hH, hW, hk, hc, hs, zLR_s1 (x := .inr (.inr (t, some a))) hL2, zlv1 hlv hx0, hsv, hB, hS⟩ hag hmo hR hret
    case iinc i n => 
      replace hok := zand2 hok; obtain ⟨hok, hn32⟩ := hok
      replace hok := zand2 hok; obtain ⟨hlen, hok⟩ := hok; have hlen := Nat.eq_of_beq_eq_true hlen; subst hlen; have hok := Nat.le_of_ble_eq_true hok
      cases hv : znt ls i with
      | none => simp only [zst, hv, zld] at h; cases h
      | some v =>
        rcases v with x | x | x <;> simp only [zst, hv, zld] at h <;> first | (cases h; done) | skip
        obtain ⟨kx, hkx⟩ := List.getElem?_of_mem (zal_mem (ρ := ρ) (i := 0) hv)
        rw [Nat.zero_add] at hkx
        refine lv_iinc (v := Int32.ofInt (z32 (x + n))) hx hb hdg hL.has hkx (zn_add x n) hok rfl (fun lsC2 hL2 => ?_)
        exact ih h hF hd5 hsp hT ⟨hH, hW, hk, hc, hs, zLR_inc (x := z32 (x + n)) hL hv hL2, zlv3 hlv (z32_r _), hsv, hB, hS⟩ hag hmo hR hret
    case iconst n => 
      replace hok := zand2 hok; obtain ⟨hlen, hok⟩ := hok; have hlen := Nat.eq_of_beq_eq_true hlen; subst hlen
      refine lv_iconst hx hb hdg rfl ?_
      exact ih h hF hd5 hsp hT ⟨hH, hW, hk, hc, hs, hL, hlv, List.forall_mem_cons.mpr ⟨zr32_b hok, hsv⟩, hB, hS⟩ hag hmo hR hret
    case bipush n => 
      replace hok := zand2 hok; obtain ⟨hok, hcst⟩ := hok
      replace hok := zand2 hok; obtain ⟨hlen, hok⟩ := hok; have hlen := Nat.eq_of_beq_eq_true hlen; subst hlen
      refine lv_bipush hx hb hdg (of_decide_eq_true hcst) ?_
      exact ih h hF hd5 hsp hT ⟨hH, hW, hk, hc, hs, hL, hlv, List.forall_mem_cons.mpr ⟨zr32_b hok, hsv⟩, hB, hS⟩ hag hmo hR hret
    case sipush n => 
      replace hok := zand2 hok; obtain ⟨hok, hcst⟩ := hok
      replace hok := zand2 hok; obtain ⟨hlen, hok⟩ := hok; have hlen := Nat.eq_of_beq_eq_true hlen; subst hlen
      refine lv_sipush hx hb hdg (of_decide_eq_true hcst) ?_
      exact ih h hF hd5 hsp hT ⟨hH, hW, hk, hc, hs, hL, hlv, List.forall_mem_cons.mpr ⟨zr32_b hok, hsv⟩, hB, hS⟩ hag hmo hR hret
    case lconst n => 
      have hlen := Nat.eq_of_beq_eq_true hok; subst hlen
      refine lv_lconst hx hb hdg rfl ?_
      exact ih h hF hd5 hsp hT ⟨hH, hW, hk, hc, hs, hL, hlv, List.forall_mem_cons.mpr ⟨zr64_fin n, hsv⟩, hB, hS⟩ hag hmo hR hret
    case ldc idx => 
      rcases cv with _ | ⟨x, cv⟩
      · cases h
      replace hok := zand2 hok; obtain ⟨hok, hcst⟩ := hok
      replace hok := zand2 hok; obtain ⟨hlen, hok⟩ := hok; have hlen := Nat.eq_of_beq_eq_true hlen; subst hlen
      refine lv_ldc hx hb hown (hts _ (zlk_m hcst)) hdg ?_
      exact ih h hF hd5 hsp hT ⟨hH, hW, hk, hc, hs, hL, hlv, List.forall_mem_cons.mpr ⟨zr32_b hok, hsv⟩, hB, hS⟩ hag hmo hR hret
    case ldc_w idx => 
      rcases cv with _ | ⟨x, cv⟩
      · cases h
      replace hok := zand2 hok; obtain ⟨hok, hcst⟩ := hok
      replace hok := zand2 hok; obtain ⟨hlen, hok⟩ := hok; have hlen := Nat.eq_of_beq_eq_true hlen; subst hlen
      refine lv_ldcw hx hb hown (hts _ (zlk_m hcst)) hdg ?_
      exact ih h hF hd5 hsp hT ⟨hH, hW, hk, hc, hs, hL, hlv, List.forall_mem_cons.mpr ⟨zr32_b hok, hsv⟩, hB, hS⟩ hag hmo hR hret
    case ldc2_w idx => 
      rcases cv with _ | ⟨x, cv⟩
      · cases h
      replace hok := zand2 hok; obtain ⟨hok, hcst⟩ := hok
      replace hok := zand2 hok; obtain ⟨hlen, hok⟩ := hok; have hlen := Nat.eq_of_beq_eq_true hlen; subst hlen
      refine lv_ldc2 hx hb hown (hts _ (zlk_m hcst)) hdg ?_
      exact ih h hF hd5 hsp hT ⟨hH, hW, hk, hc, hs, hL, hlv, List.forall_mem_cons.mpr ⟨zr64_b hok, hsv⟩, hB, hS⟩ hag hmo hR hret
    case aconst_null => 
      have hlen := Nat.eq_of_beq_eq_true hok; subst hlen
      refine lv_null hx hb hdg ?_
      exact ih h hF hd5 hsp hT ⟨hH, hW, hk, hc, hs, hL, hlv, List.forall_mem_cons.mpr ⟨(fun i hi => by cases hi), hsv⟩, hB, hS⟩ hag hmo hR hret
    case iadd => 
      have hlen := Nat.eq_of_beq_eq_true hok; subst hlen
      rcases st with _ | ⟨y | y | y, _ | ⟨x | x | x, r⟩⟩ <;> first | (cases h; done) | skip
      replace hsv := List.forall_mem_cons.mp hsv; obtain ⟨hy, hsv⟩ := hsv
      replace hsv := List.forall_mem_cons.mp hsv; obtain ⟨hx1, hsv⟩ := hsv
      refine lv_iadd hx hb hdg ?_
      rw [zn_add]
      exact ih h hF hd5 hsp hT ⟨hH, hW, hk, hc, hs, hL, hlv, List.forall_mem_cons.mpr ⟨z32_r _, hsv⟩, hB, hS⟩ hag hmo hR hret
    case isub => 
      have hlen := Nat.eq_of_beq_eq_true hok; subst hlen
      rcases st with _ | ⟨y | y | y, _ | ⟨x | x | x, r⟩⟩ <;> first | (cases h; done) | skip
      replace hsv := List.forall_mem_cons.mp hsv; obtain ⟨hy, hsv⟩ := hsv
      replace hsv := List.forall_mem_cons.mp hsv; obtain ⟨hx1, hsv⟩ := hsv
      refine lv_isub hx hb hdg ?_
      rw [zn_sub]
      exact ih h hF hd5 hsp hT ⟨hH, hW, hk, hc, hs, hL, hlv, List.forall_mem_cons.mpr ⟨z32_r _, hsv⟩, hB, hS⟩ hag hmo hR hret
    case imul => 
      have hlen := Nat.eq_of_beq_eq_true hok; subst hlen
      rcases st with _ | ⟨y | y | y, _ | ⟨x | x | x, r⟩⟩ <;> first | (cases h; done) | skip
      replace hsv := List.forall_mem_cons.mp hsv; obtain ⟨hy, hsv⟩ := hsv
      replace hsv := List.forall_mem_cons.mp hsv; obtain ⟨hx1, hsv⟩ := hsv
      refine lv_imul hx hb hdg ?_
      rw [zn_mul]
      exact ih h hF hd5 hsp hT ⟨hH, hW, hk, hc, hs, hL, hlv, List.forall_mem_cons.mpr ⟨z32_r _, hsv⟩, hB, hS⟩ hag hmo hR hret
    case iand => 
      have hlen := Nat.eq_of_beq_eq_true hok; subst hlen
      rcases st with _ | ⟨y | y | y, _ | ⟨x | x | x, r⟩⟩ <;> first | (cases h; done) | skip
      replace hsv := List.forall_mem_cons.mp hsv; obtain ⟨hy, hsv⟩ := hsv
      replace hsv := List.forall_mem_cons.mp hsv; obtain ⟨hx1, hsv⟩ := hsv
      refine lv_iand hx hb hdg ?_
      rw [zn_and]
      exact ih h hF hd5 hsp hT ⟨hH, hW, hk, hc, hs, hL, hlv, List.forall_mem_cons.mpr ⟨zr32_of _, hsv⟩, hB, hS⟩ hag hmo hR hret
    case ior => 
      have hlen := Nat.eq_of_beq_eq_true hok; subst hlen
      rcases st with _ | ⟨y | y | y, _ | ⟨x | x | x, r⟩⟩ <;> first | (cases h; done) | skip
      replace hsv := List.forall_mem_cons.mp hsv; obtain ⟨hy, hsv⟩ := hsv
      replace hsv := List.forall_mem_cons.mp hsv; obtain ⟨hx1, hsv⟩ := hsv
      refine lv_ior hx hb hdg ?_
      rw [zn_or]
      exact ih h hF hd5 hsp hT ⟨hH, hW, hk, hc, hs, hL, hlv, List.forall_mem_cons.mpr ⟨zr32_of _, hsv⟩, hB, hS⟩ hag hmo hR hret
    case ixor => 
      have hlen := Nat.eq_of_beq_eq_true hok; subst hlen
      rcases st with _ | ⟨y | y | y, _ | ⟨x | x | x, r⟩⟩ <;> first | (cases h; done) | skip
      replace hsv := List.forall_mem_cons.mp hsv; obtain ⟨hy, hsv⟩ := hsv
      replace hsv := List.forall_mem_cons.mp hsv; obtain ⟨hx1, hsv⟩ := hsv
      refine lv_ixor hx hb hdg ?_
      rw [zn_xor]
      exact ih h hF hd5 hsp hT ⟨hH, hW, hk, hc, hs, hL, hlv, List.forall_mem_cons.mpr ⟨zr32_of _, hsv⟩, hB, hS⟩ hag hmo hR hret
    case ishl => 
      have hlen := Nat.eq_of_beq_eq_true hok; subst hlen
      rcases st with _ | ⟨y | y | y, _ | ⟨x | x | x, r⟩⟩ <;> first | (cases h; done) | skip
      replace hsv := List.forall_mem_cons.mp hsv; obtain ⟨hy, hsv⟩ := hsv
      replace hsv := List.forall_mem_cons.mp hsv; obtain ⟨hx1, hsv⟩ := hsv
      refine lv_ishl hx hb hdg ?_
      rw [zn_shl]
      exact ih h hF hd5 hsp hT ⟨hH, hW, hk, hc, hs, hL, hlv, List.forall_mem_cons.mpr ⟨zr32_of _, hsv⟩, hB, hS⟩ hag hmo hR hret
    case ishr => 
      have hlen := Nat.eq_of_beq_eq_true hok; subst hlen
      rcases st with _ | ⟨y | y | y, _ | ⟨x | x | x, r⟩⟩ <;> first | (cases h; done) | skip
      replace hsv := List.forall_mem_cons.mp hsv; obtain ⟨hy, hsv⟩ := hsv
      replace hsv := List.forall_mem_cons.mp hsv; obtain ⟨hx1, hsv⟩ := hsv
      refine lv_ishr hx hb hdg ?_
      rw [zn_shr]
      exact ih h hF hd5 hsp hT ⟨hH, hW, hk, hc, hs, hL, hlv, List.forall_mem_cons.mpr ⟨zr32_of _, hsv⟩, hB, hS⟩ hag hmo hR hret
    case ladd => 
      have hlen := Nat.eq_of_beq_eq_true hok; subst hlen
      rcases st with _ | ⟨y | y | y, _ | ⟨x | x | x, r⟩⟩ <;> first | (cases h; done) | skip
      replace hsv := List.forall_mem_cons.mp hsv; obtain ⟨hy, hsv⟩ := hsv
      replace hsv := List.forall_mem_cons.mp hsv; obtain ⟨hx1, hsv⟩ := hsv
      refine lv_ladd hx hb hdg ?_
      rw [zl_add]
      exact ih h hF hd5 hsp hT ⟨hH, hW, hk, hc, hs, hL, hlv, List.forall_mem_cons.mpr ⟨z64_r _, hsv⟩, hB, hS⟩ hag hmo hR hret
    case lsub => 
      have hlen := Nat.eq_of_beq_eq_true hok; subst hlen
      rcases st with _ | ⟨y | y | y, _ | ⟨x | x | x, r⟩⟩ <;> first | (cases h; done) | skip
      replace hsv := List.forall_mem_cons.mp hsv; obtain ⟨hy, hsv⟩ := hsv
      replace hsv := List.forall_mem_cons.mp hsv; obtain ⟨hx1, hsv⟩ := hsv
      refine lv_lsub hx hb hdg ?_
      rw [zl_sub]
      exact ih h hF hd5 hsp hT ⟨hH, hW, hk, hc, hs, hL, hlv, List.forall_mem_cons.mpr ⟨z64_r _, hsv⟩, hB, hS⟩ hag hmo hR hret
    case lmul => 
      have hlen := Nat.eq_of_beq_eq_true hok; subst hlen
      rcases st with _ | ⟨y | y | y, _ | ⟨x | x | x, r⟩⟩ <;> first | (cases h; done) | skip
      replace hsv := List.forall_mem_cons.mp hsv; obtain ⟨hy, hsv⟩ := hsv
      replace hsv := List.forall_mem_cons.mp hsv; obtain ⟨hx1, hsv⟩ := hsv
      refine lv_lmul hx hb hdg ?_
      rw [zl_mul]
      exact ih h hF hd5 hsp hT ⟨hH, hW, hk, hc, hs, hL, hlv, List.forall_mem_cons.mpr ⟨z64_r _, hsv⟩, hB, hS⟩ hag hmo hR hret
    case land => 
      have hlen := Nat.eq_of_beq_eq_true hok; subst hlen
      rcases st with _ | ⟨y | y | y, _ | ⟨x | x | x, r⟩⟩ <;> first | (cases h; done) | skip
      replace hsv := List.forall_mem_cons.mp hsv; obtain ⟨hy, hsv⟩ := hsv
      replace hsv := List.forall_mem_cons.mp hsv; obtain ⟨hx1, hsv⟩ := hsv
      refine lv_land hx hb hdg ?_
      rw [zl_and]
      exact ih h hF hd5 hsp hT ⟨hH, hW, hk, hc, hs, hL, hlv, List.forall_mem_cons.mpr ⟨zr64_of _, hsv⟩, hB, hS⟩ hag hmo hR hret
    case lor => 
      have hlen := Nat.eq_of_beq_eq_true hok; subst hlen
      rcases st with _ | ⟨y | y | y, _ | ⟨x | x | x, r⟩⟩ <;> first | (cases h; done) | skip
      replace hsv := List.forall_mem_cons.mp hsv; obtain ⟨hy, hsv⟩ := hsv
      replace hsv := List.forall_mem_cons.mp hsv; obtain ⟨hx1, hsv⟩ := hsv
      refine lv_lor hx hb hdg ?_
      rw [zl_or]
      exact ih h hF hd5 hsp hT ⟨hH, hW, hk, hc, hs, hL, hlv, List.forall_mem_cons.mpr ⟨zr64_of _, hsv⟩, hB, hS⟩ hag hmo hR hret
    case lshl => 
      have hlen := Nat.eq_of_beq_eq_true hok; subst hlen
      rcases st with _ | ⟨y | y | y, _ | ⟨x | x | x, r⟩⟩ <;> first | (cases h; done) | skip
      replace hsv := List.forall_mem_cons.mp hsv; obtain ⟨hy, hsv⟩ := hsv
      replace hsv := List.forall_mem_cons.mp hsv; obtain ⟨hx1, hsv⟩ := hsv
      refine lv_lshl hx hb hdg (zl_shl x y) ?_
      exact ih h hF hd5 hsp hT ⟨hH, hW, hk, hc, hs, hL, hlv, List.forall_mem_cons.mpr ⟨zr64_of _, hsv⟩, hB, hS⟩ hag hmo hR hret
    case lushr => 
      have hlen := Nat.eq_of_beq_eq_true hok; subst hlen
      rcases st with _ | ⟨y | y | y, _ | ⟨x | x | x, r⟩⟩ <;> first | (cases h; done) | skip
      replace hsv := List.forall_mem_cons.mp hsv; obtain ⟨hy, hsv⟩ := hsv
      replace hsv := List.forall_mem_cons.mp hsv; obtain ⟨hx1, hsv⟩ := hsv
      refine lv_lushr hx hb hdg (zl_ushr x y) ?_
      exact ih h hF hd5 hsp hT ⟨hH, hW, hk, hc, hs, hL, hlv, List.forall_mem_cons.mpr ⟨zr64_of _, hsv⟩, hB, hS⟩ hag hmo hR hret
    case lcmp => 
      have hlen := Nat.eq_of_beq_eq_true hok; subst hlen
      rcases st with _ | ⟨y | y | y, _ | ⟨x | x | x, r⟩⟩ <;> first | (cases h; done) | skip
      replace hsv := List.forall_mem_cons.mp hsv; obtain ⟨hy, hsv⟩ := hsv
      replace hsv := List.forall_mem_cons.mp hsv; obtain ⟨hx1, hsv⟩ := hsv
      refine W.lcmp hx hb hdg ?_
      rw [zl_cmp hx1 hy]
      exact ih h hF hd5 hsp hT ⟨hH, hW, hk, hc, hs, hL, hlv, List.forall_mem_cons.mpr ⟨zl_cmp_r _ _, hsv⟩, hB, hS⟩ hag hmo hR hret
    case idiv => 
      have hlen := Nat.eq_of_beq_eq_true hok; subst hlen
      rcases st with _ | ⟨y | y | y, _ | ⟨x | x | x, r⟩⟩ <;> first | (cases h; done) | skip
      replace hsv := List.forall_mem_cons.mp hsv; obtain ⟨hy, hsv⟩ := hsv
      replace hsv := List.forall_mem_cons.mp hsv; obtain ⟨hx1, hsv⟩ := hsv
      replace h := zgn h; obtain ⟨hne, h⟩ := h
      refine lv_idiv hx hb hdg (fun z => hne ((zn_0 hy).mp z)) ?_
      rw [zn_div hx1 hy]
      exact ih h hF hd5 hsp hT ⟨hH, hW, hk, hc, hs, hL, hlv, List.forall_mem_cons.mpr ⟨z32_r _, hsv⟩, hB, hS⟩ hag hmo hR hret
    case irem => 
      have hlen := Nat.eq_of_beq_eq_true hok; subst hlen
      rcases st with _ | ⟨y | y | y, _ | ⟨x | x | x, r⟩⟩ <;> first | (cases h; done) | skip
      replace hsv := List.forall_mem_cons.mp hsv; obtain ⟨hy, hsv⟩ := hsv
      replace hsv := List.forall_mem_cons.mp hsv; obtain ⟨hx1, hsv⟩ := hsv
      replace h := zgn h; obtain ⟨hne, h⟩ := h
      refine lv_irem hx hb hdg (fun z => hne ((zn_0 hy).mp z)) ?_
      rw [zn_rem hx1 hy]
      exact ih h hF hd5 hsp hT ⟨hH, hW, hk, hc, hs, hL, hlv, List.forall_mem_cons.mpr ⟨zn_tm hx1, hsv⟩, hB, hS⟩ hag hmo hR hret
    case ldiv => 
      have hlen := Nat.eq_of_beq_eq_true hok; subst hlen
      rcases st with _ | ⟨y | y | y, _ | ⟨x | x | x, r⟩⟩ <;> first | (cases h; done) | skip
      replace hsv := List.forall_mem_cons.mp hsv; obtain ⟨hy, hsv⟩ := hsv
      replace hsv := List.forall_mem_cons.mp hsv; obtain ⟨hx1, hsv⟩ := hsv
      replace h := zgn h; obtain ⟨hne, h⟩ := h
      refine lv_ldiv hx hb hdg (fun z => hne ((zl_0 hy).mp z)) ?_
      rw [zl_div hx1 hy]
      exact ih h hF hd5 hsp hT ⟨hH, hW, hk, hc, hs, hL, hlv, List.forall_mem_cons.mpr ⟨z64_r _, hsv⟩, hB, hS⟩ hag hmo hR hret
    case lrem => 
      have hlen := Nat.eq_of_beq_eq_true hok; subst hlen
      rcases st with _ | ⟨y | y | y, _ | ⟨x | x | x, r⟩⟩ <;> first | (cases h; done) | skip
      replace hsv := List.forall_mem_cons.mp hsv; obtain ⟨hy, hsv⟩ := hsv
      replace hsv := List.forall_mem_cons.mp hsv; obtain ⟨hx1, hsv⟩ := hsv
      replace h := zgn h; obtain ⟨hne, h⟩ := h
      refine lv_lrem hx hb hdg (fun z => hne ((zl_0 hy).mp z)) ?_
      rw [zl_rem hx1 hy]
      exact ih h hF hd5 hsp hT ⟨hH, hW, hk, hc, hs, hL, hlv, List.forall_mem_cons.mpr ⟨zl_tm hx1, hsv⟩, hB, hS⟩ hag hmo hR hret
    case ineg => 
      have hlen := Nat.eq_of_beq_eq_true hok; subst hlen
      rcases st with _ | ⟨x | x | x, r⟩ <;> first | (cases h; done) | skip
      replace hsv := List.forall_mem_cons.mp hsv; obtain ⟨hx1, hsv⟩ := hsv
      refine lv_ineg hx hb hdg ?_
      rw [zn_neg]
      exact ih h hF hd5 hsp hT ⟨hH, hW, hk, hc, hs, hL, hlv, List.forall_mem_cons.mpr ⟨z32_r _, hsv⟩, hB, hS⟩ hag hmo hR hret
    case i2l => 
      have hlen := Nat.eq_of_beq_eq_true hok; subst hlen
      rcases st with _ | ⟨x | x | x, r⟩ <;> first | (cases h; done) | skip
      replace hsv := List.forall_mem_cons.mp hsv; obtain ⟨hx1, hsv⟩ := hsv
      refine lv_i2l hx hb hdg (zn_i2l hx1) ?_
      exact ih h hF hd5 hsp hT ⟨hH, hW, hk, hc, hs, hL, hlv, List.forall_mem_cons.mpr ⟨⟨by have := hx1.1; omega, by have := hx1.2; omega⟩, hsv⟩, hB, hS⟩ hag hmo hR hret
    case l2i => 
      have hlen := Nat.eq_of_beq_eq_true hok; subst hlen
      rcases st with _ | ⟨x | x | x, r⟩ <;> first | (cases h; done) | skip
      replace hsv := List.forall_mem_cons.mp hsv; obtain ⟨hx1, hsv⟩ := hsv
      refine lv_l2i hx hb hdg (zn_l2i hx1) ?_
      exact ih h hF hd5 hsp hT ⟨hH, hW, hk, hc, hs, hL, hlv, List.forall_mem_cons.mpr ⟨z32_r _, hsv⟩, hB, hS⟩ hag hmo hR hret
    case i2b => 
      have hlen := Nat.eq_of_beq_eq_true hok; subst hlen
      rcases st with _ | ⟨x | x | x, r⟩ <;> first | (cases h; done) | skip
      replace hsv := List.forall_mem_cons.mp hsv; obtain ⟨hx1, hsv⟩ := hsv
      refine lv_i2b hx hb hdg (zn_i2b hx1) ?_
      exact ih h hF hd5 hsp hT ⟨hH, hW, hk, hc, hs, hL, hlv, List.forall_mem_cons.mpr ⟨z_i2b_r _, hsv⟩, hB, hS⟩ hag hmo hR hret
    case dup => 
      have hlen := Nat.eq_of_beq_eq_true hok; subst hlen
      rcases st with _ | ⟨x | x | ⟨t, o⟩, r⟩ <;> first | (cases h; done) | skip
      · replace hsv := List.forall_mem_cons.mp hsv; obtain ⟨hx1, hsv⟩ := hsv
        refine lv_dup hx hb hdg rfl ?_
        exact ih h hF hd5 hsp hT ⟨hH, hW, hk, hc, hs, hL, hlv, List.forall_mem_cons.mpr ⟨hx1, List.forall_mem_cons.mpr ⟨hx1, hsv⟩⟩, hB, hS⟩ hag hmo hR hret
      · replace hsv := List.forall_mem_cons.mp hsv; obtain ⟨hx1, hsv⟩ := hsv
        refine lv_dup hx hb hdg (by cases o <;> rfl) ?_
        exact ih h hF hd5 hsp hT ⟨hH, hW, hk, hc, hs, hL, hlv, List.forall_mem_cons.mpr ⟨hx1, List.forall_mem_cons.mpr ⟨hx1, hsv⟩⟩, hB, hS⟩ hag hmo hR hret
    case pop => 
      have hlen := Nat.eq_of_beq_eq_true hok; subst hlen
      rcases st with _ | ⟨x | x | ⟨t, o⟩, r⟩ <;> first | (cases h; done) | skip
      · replace hsv := List.forall_mem_cons.mp hsv; obtain ⟨hx1, hsv⟩ := hsv
        refine lv_pop hx hb hdg rfl ?_
        exact ih h hF hd5 hsp hT ⟨hH, hW, hk, hc, hs, hL, hlv, hsv, hB, hS⟩ hag hmo hR hret
      · replace hsv := List.forall_mem_cons.mp hsv; obtain ⟨hx1, hsv⟩ := hsv
        refine lv_pop hx hb hdg (by cases o <;> rfl) ?_
        exact ih h hF hd5 hsp hT ⟨hH, hW, hk, hc, hs, hL, hlv, hsv, hB, hS⟩ hag hmo hR hret
    case dup2 => 
      have hlen := Nat.eq_of_beq_eq_true hok; subst hlen
      rcases st with _ | ⟨x | x | x, r⟩
      · cases h
      · rcases r with _ | ⟨y | y | ⟨t, o⟩, r⟩ <;> first | (cases h; done) | skip
        · replace hsv := List.forall_mem_cons.mp hsv; obtain ⟨hx1, hsv⟩ := hsv
          replace hsv := List.forall_mem_cons.mp hsv; obtain ⟨hy1, hsv⟩ := hsv
          refine lv_dup2_11 hx hb hdg rfl rfl ?_
          exact ih h hF hd5 hsp hT ⟨hH, hW, hk, hc, hs, hL, hlv, List.forall_mem_cons.mpr ⟨hx1, List.forall_mem_cons.mpr ⟨hy1, List.forall_mem_cons.mpr ⟨hx1, List.forall_mem_cons.mpr ⟨hy1, hsv⟩⟩⟩⟩, hB, hS⟩ hag hmo hR hret
        · replace hsv := List.forall_mem_cons.mp hsv; obtain ⟨hx1, hsv⟩ := hsv
          replace hsv := List.forall_mem_cons.mp hsv; obtain ⟨hy1, hsv⟩ := hsv
          refine lv_dup2_11 hx hb hdg rfl (by cases o <;> rfl) ?_
          exact ih h hF hd5 hsp hT ⟨hH, hW, hk, hc, hs, hL, hlv, List.forall_mem_cons.mpr ⟨hx1, List.forall_mem_cons.mpr ⟨hy1, List.forall_mem_cons.mpr ⟨hx1, List.forall_mem_cons.mpr ⟨hy1, hsv⟩⟩⟩⟩, hB, hS⟩ hag hmo hR hret
      · replace hsv := List.forall_mem_cons.mp hsv; obtain ⟨hx1, hsv⟩ := hsv
        refine lv_dup2_2 hx hb hdg rfl ?_
        exact ih h hF hd5 hsp hT ⟨hH, hW, hk, hc, hs, hL, hlv, List.forall_mem_cons.mpr ⟨hx1, List.forall_mem_cons.mpr ⟨hx1, hsv⟩⟩, hB, hS⟩ hag hmo hR hret
      · cases h
    case goto off => 
      replace hok := zand2 hok; obtain ⟨hlen, hok⟩ := hok; have hlen := Nat.eq_of_beq_eq_true hlen; subst hlen
      refine lv_goto hx hb hdg (of_decide_eq_true hok) ?_
      exact ih h hF hd5 hsp hT ⟨hH, hW, hk, hc, hs, hL, hlv, hsv, hB, hS⟩ hag hmo hR hret
    case ifCond cnd off => 
      replace hok := zand2 hok; obtain ⟨hlen, hok⟩ := hok; have hlen := Nat.eq_of_beq_eq_true hlen; subst hlen
      have hto := of_decide_eq_true hok
      rcases st with _ | ⟨x | x | x, r⟩ <;> first | (cases h; done) | skip
      replace hsv := List.forall_mem_cons.mp hsv; obtain ⟨hx1, hsv⟩ := hsv
      cases cnd with
      | eq => exact lv_if_eq hx hb hdg hto (fun z => by simp only [zst, zbr] at h; rw [if_pos ((zn_0 hx1).mp z)] at h; exact ih h hF hd5 hsp hT ⟨hH, hW, hk, hc, hs, hL, hlv, hsv, hB, hS⟩ hag hmo hR hret) (fun z => by simp only [zst, zbr] at h; rw [if_neg (fun w => z ((zn_0 hx1).mpr w))] at h; exact ih h hF hd5 hsp hT ⟨hH, hW, hk, hc, hs, hL, hlv, hsv, hB, hS⟩ hag hmo hR hret)
      | ne => exact lv_if_ne hx hb hdg hto (fun z => by simp only [zst, zbr] at h; rw [if_neg (fun w => z ((zn_0 hx1).mpr w))] at h; exact ih h hF hd5 hsp hT ⟨hH, hW, hk, hc, hs, hL, hlv, hsv, hB, hS⟩ hag hmo hR hret) (fun z => by simp only [zst, zbr] at h; rw [if_pos ((zn_0 hx1).mp z)] at h; exact ih h hF hd5 hsp hT ⟨hH, hW, hk, hc, hs, hL, hlv, hsv, hB, hS⟩ hag hmo hR hret)
      | lt => exact lv_if_lt hx hb hdg hto (fun z => by simp only [zst, zbr] at h; rw [if_pos ((zn_lt0 hx1).mp z)] at h; exact ih h hF hd5 hsp hT ⟨hH, hW, hk, hc, hs, hL, hlv, hsv, hB, hS⟩ hag hmo hR hret) (fun z => by simp only [zst, zbr] at h; rw [if_neg (fun w => z ((zn_lt0 hx1).mpr w))] at h; exact ih h hF hd5 hsp hT ⟨hH, hW, hk, hc, hs, hL, hlv, hsv, hB, hS⟩ hag hmo hR hret)
      | ge => exact lv_if_ge hx hb hdg hto (fun z => by simp only [zst, zbr] at h; rw [if_neg (fun w => zge0 hx1 z w)] at h; exact ih h hF hd5 hsp hT ⟨hH, hW, hk, hc, hs, hL, hlv, hsv, hB, hS⟩ hag hmo hR hret) (fun z => by simp only [zst, zbr] at h; rw [if_pos (znge0 hx1 z)] at h; exact ih h hF hd5 hsp hT ⟨hH, hW, hk, hc, hs, hL, hlv, hsv, hB, hS⟩ hag hmo hR hret)
      | gt => exact lv_if_gt hx hb hdg hto (fun z => by simp only [zst, zbr] at h; rw [if_pos (zgt0 hx1 z)] at h; exact ih h hF hd5 hsp hT ⟨hH, hW, hk, hc, hs, hL, hlv, hsv, hB, hS⟩ hag hmo hR hret) (fun z => by simp only [zst, zbr] at h; rw [if_neg (zngt0 hx1 z)] at h; exact ih h hF hd5 hsp hT ⟨hH, hW, hk, hc, hs, hL, hlv, hsv, hB, hS⟩ hag hmo hR hret)
      | le => exact lv_if_le hx hb hdg hto (fun z => by simp only [zst, zbr] at h; rw [if_neg (zle0 hx1 z)] at h; exact ih h hF hd5 hsp hT ⟨hH, hW, hk, hc, hs, hL, hlv, hsv, hB, hS⟩ hag hmo hR hret) (fun z => by simp only [zst, zbr] at h; rw [if_pos (znle0 hx1 z)] at h; exact ih h hF hd5 hsp hT ⟨hH, hW, hk, hc, hs, hL, hlv, hsv, hB, hS⟩ hag hmo hR hret)
    case if_icmp cnd off => 
      replace hok := zand2 hok; obtain ⟨hlen, hok⟩ := hok; have hlen := Nat.eq_of_beq_eq_true hlen; subst hlen
      have hto := of_decide_eq_true hok
      rcases st with _ | ⟨y | y | y, _ | ⟨x | x | x, r⟩⟩ <;> first | (cases h; done) | skip
      replace hsv := List.forall_mem_cons.mp hsv; obtain ⟨hy1, hsv⟩ := hsv
      replace hsv := List.forall_mem_cons.mp hsv; obtain ⟨hx1, hsv⟩ := hsv
      cases cnd with
      | eq => exact lv_icmp_eq hx hb hdg hto (fun z => by simp only [zst, zbr] at h; rw [if_pos ((zn_eq hx1 hy1).mp z)] at h; exact ih h hF hd5 hsp hT ⟨hH, hW, hk, hc, hs, hL, hlv, hsv, hB, hS⟩ hag hmo hR hret) (fun z => by simp only [zst, zbr] at h; rw [if_neg (fun w => z ((zn_eq hx1 hy1).mpr w))] at h; exact ih h hF hd5 hsp hT ⟨hH, hW, hk, hc, hs, hL, hlv, hsv, hB, hS⟩ hag hmo hR hret)
      | ne => exact lv_icmp_ne hx hb hdg hto (fun z => by simp only [zst, zbr] at h; rw [if_neg (fun w => z ((zn_eq hx1 hy1).mpr w))] at h; exact ih h hF hd5 hsp hT ⟨hH, hW, hk, hc, hs, hL, hlv, hsv, hB, hS⟩ hag hmo hR hret) (fun z => by simp only [zst, zbr] at h; rw [if_pos ((zn_eq hx1 hy1).mp z)] at h; exact ih h hF hd5 hsp hT ⟨hH, hW, hk, hc, hs, hL, hlv, hsv, hB, hS⟩ hag hmo hR hret)
      | lt => exact lv_icmp_lt hx hb hdg hto (fun z => by simp only [zst, zbr] at h; rw [if_pos ((zn_lt hx1 hy1).mp z)] at h; exact ih h hF hd5 hsp hT ⟨hH, hW, hk, hc, hs, hL, hlv, hsv, hB, hS⟩ hag hmo hR hret) (fun z => by simp only [zst, zbr] at h; rw [if_neg (fun w => z ((zn_lt hx1 hy1).mpr w))] at h; exact ih h hF hd5 hsp hT ⟨hH, hW, hk, hc, hs, hL, hlv, hsv, hB, hS⟩ hag hmo hR hret)
      | ge => exact lv_icmp_ge hx hb hdg hto (fun z => by simp only [zst, zbr] at h; rw [if_neg (zge2 hx1 hy1 z)] at h; exact ih h hF hd5 hsp hT ⟨hH, hW, hk, hc, hs, hL, hlv, hsv, hB, hS⟩ hag hmo hR hret) (fun z => by simp only [zst, zbr] at h; rw [if_pos (znge2 hx1 hy1 z)] at h; exact ih h hF hd5 hsp hT ⟨hH, hW, hk, hc, hs, hL, hlv, hsv, hB, hS⟩ hag hmo hR hret)
      | gt => exact lv_icmp_gt hx hb hdg hto (fun z => by simp only [zst, zbr] at h; rw [if_pos (zgt2 hx1 hy1 z)] at h; exact ih h hF hd5 hsp hT ⟨hH, hW, hk, hc, hs, hL, hlv, hsv, hB, hS⟩ hag hmo hR hret) (fun z => by simp only [zst, zbr] at h; rw [if_neg (zngt2 hx1 hy1 z)] at h; exact ih h hF hd5 hsp hT ⟨hH, hW, hk, hc, hs, hL, hlv, hsv, hB, hS⟩ hag hmo hR hret)
      | le => exact lv_icmp_le hx hb hdg hto (fun z => by simp only [zst, zbr] at h; rw [if_neg (zle2 hx1 hy1 z)] at h; exact ih h hF hd5 hsp hT ⟨hH, hW, hk, hc, hs, hL, hlv, hsv, hB, hS⟩ hag hmo hR hret) (fun z => by simp only [zst, zbr] at h; rw [if_pos (znle2 hx1 hy1 z)] at h; exact ih h hF hd5 hsp hT ⟨hH, hW, hk, hc, hs, hL, hlv, hsv, hB, hS⟩ hag hmo hR hret)
    case if_acmp cnd off => 
      replace hok := zand2 hok; obtain ⟨hlen, hok⟩ := hok; have hlen := Nat.eq_of_beq_eq_true hlen; subst hlen
      have hto := of_decide_eq_true hok
      rcases st with _ | ⟨y | y | ⟨t1, y⟩, _ | ⟨x | x | ⟨t2, x⟩, r⟩⟩ <;> first | (cases h; done) | skip
      replace hsv := List.forall_mem_cons.mp hsv; obtain ⟨hy1, hsv⟩ := hsv
      replace hsv := List.forall_mem_cons.mp hsv; obtain ⟨hx1, hsv⟩ := hsv
      replace h := zbx h; obtain ⟨ht, h⟩ := h
      obtain ⟨ht1, ht2⟩ := zand2 ht
      have ht1 := Nat.eq_of_beq_eq_true ht1; have ht2 := Nat.eq_of_beq_eq_true ht2; subst ht1; subst ht2
      have heq : (x.map (ρ 12) = y.map (ρ 12)) ↔ x = y := zacm hW hc hx1 hy1
      cases cnd with
      | eq =>
        change (if x = y then zex zG d tab (zhd ax) ls r M n else zex zG d tab (pc + 3) ls r M n) = some (rr, M') at h
        exact lv_acmp_eq (rx := x.map (ρ 12)) (ry := y.map (ρ 12)) hx hb hdg hto (fun z => by rw [if_pos (heq.mp z)] at h; exact ih h hF hd5 hsp hT ⟨hH, hW, hk, hc, hs, hL, hlv, hsv, hB, hS⟩ hag hmo hR hret) (fun z => by rw [if_neg (fun w => z (heq.mpr w))] at h; exact ih h hF hd5 hsp hT ⟨hH, hW, hk, hc, hs, hL, hlv, hsv, hB, hS⟩ hag hmo hR hret)
      | ne =>
        change (if x = y then zex zG d tab (pc + 3) ls r M n else zex zG d tab (zhd ax) ls r M n) = some (rr, M') at h
        exact lv_acmp_ne (rx := x.map (ρ 12)) (ry := y.map (ρ 12)) hx hb hdg hto (fun z => by rw [if_neg (fun w => z (heq.mpr w))] at h; exact ih h hF hd5 hsp hT ⟨hH, hW, hk, hc, hs, hL, hlv, hsv, hB, hS⟩ hag hmo hR hret) (fun z => by rw [if_pos (heq.mp z)] at h; exact ih h hF hd5 hsp hT ⟨hH, hW, hk, hc, hs, hL, hlv, hsv, hB, hS⟩ hag hmo hR hret)
    case ifnull off => 
      replace hok := zand2 hok; obtain ⟨hlen, hok⟩ := hok; have hlen := Nat.eq_of_beq_eq_true hlen; subst hlen
      have hto := of_decide_eq_true hok
      rcases st with _ | ⟨x | x | ⟨t, _ | a⟩, r⟩ <;> first | (cases h; done) | skip
      · replace hsv := List.forall_mem_cons.mp hsv; obtain ⟨hx1, hsv⟩ := hsv
        refine lv_ifnullN hx hb hdg hto ?_
        exact ih h hF hd5 hsp hT ⟨hH, hW, hk, hc, hs, hL, hlv, hsv, hB, hS⟩ hag hmo hR hret
      · replace hsv := List.forall_mem_cons.mp hsv; obtain ⟨hx1, hsv⟩ := hsv
        refine lv_ifnull hx hb hdg ?_
        exact ih h hF hd5 hsp hT ⟨hH, hW, hk, hc, hs, hL, hlv, hsv, hB, hS⟩ hag hmo hR hret
    case ifnonnull off => 
      replace hok := zand2 hok; obtain ⟨hlen, hok⟩ := hok; have hlen := Nat.eq_of_beq_eq_true hlen; subst hlen
      have hto := of_decide_eq_true hok
      rcases st with _ | ⟨x | x | ⟨t, _ | a⟩, r⟩ <;> first | (cases h; done) | skip
      · replace hsv := List.forall_mem_cons.mp hsv; obtain ⟨hx1, hsv⟩ := hsv
        refine lv_ifnonnullN hx hb hdg ?_
        exact ih h hF hd5 hsp hT ⟨hH, hW, hk, hc, hs, hL, hlv, hsv, hB, hS⟩ hag hmo hR hret
      · replace hsv := List.forall_mem_cons.mp hsv; obtain ⟨hx1, hsv⟩ := hsv
        refine lv_ifnonnull hx hb hdg hto ?_
        exact ih h hF hd5 hsp hT ⟨hH, hW, hk, hc, hs, hL, hlv, hsv, hB, hS⟩ hag hmo hR hret
    case tableswitch dflt lo hi offs => 
      replace hok := zand2 hok; obtain ⟨hok, hhi⟩ := hok
      replace hok := zand2 hok; obtain ⟨hok, htg⟩ := hok
      obtain ⟨hdf, hcv⟩ := zand2 hok
      have hhi := of_decide_eq_true hhi
      have htg := of_decide_eq_true htg
      have hdf := of_decide_eq_true hdf
      have hcv := of_decide_eq_true hcv
      rcases st with _ | ⟨x | x | x, r⟩ <;> rcases ax with _ | ⟨d0, ts⟩ <;> first | (cases h; done) | skip
      replace hsv := List.forall_mem_cons.mp hsv; obtain ⟨hx1, hsv⟩ := hsv
      have hx2 := zr32_toInt hx1
      replace h := zswx hcv htg h; rcases h with ⟨hout, h⟩ | ⟨kk, tgt, off, hkx, hoff, htt, h⟩
      · refine lv_tableOut hx hb hdg (by rw [hx2]; exact hout.imp id (fun z => by omega)) hdf ?_
        exact ih h hF hd5 hsp hT ⟨hH, hW, hk, hc, hs, hL, hlv, hsv, hB, hS⟩ hag hmo hR hret
      · refine lv_tableIn (off := off) (tgt := tgt) hx hb hdg (by rw [hx2]; omega) (by rw [hx2]; have := (Array.getElem?_eq_some_iff.mp hoff).1; omega) (by rw [hx2, hkx, show (lo + (kk : Int) - lo).toNat = kk by omega]; exact hoff) htt ?_
        exact ih h hF hd5 hsp hT ⟨hH, hW, hk, hc, hs, hL, hlv, hsv, hB, hS⟩ hag hmo hR hret
    case ireturn => 
      have hlen := Nat.eq_of_beq_eq_true hok; subst hlen
      rcases st with _ | ⟨x | x | x, _ | ⟨y, r⟩⟩ <;> first | (cases h; done) | skip
      obtain ⟨hx1, -⟩ := List.forall_mem_cons.mp hsv
      rcases ax with _ | ⟨a, ax⟩
      · cases h
        exact ((hret pc ρ H locs lsC hH hW hk hag hS).1.2.1 x hdg hx1).1 (of_decide_eq_true hokr) rfl
      · cases h
        exact ((hret pc ρ H locs lsC hH hW hk hag hS).1.2.1 x hdg hx1).2 (of_decide_eq_true hokr) rfl
    case lreturn => 
      have hlen := Nat.eq_of_beq_eq_true hok; subst hlen
      rcases st with _ | ⟨x | x | x, _ | ⟨y, r⟩⟩ <;> first | (cases h; done) | skip
      obtain ⟨hx1, -⟩ := List.forall_mem_cons.mp hsv
      cases h
      exact (hret pc ρ H locs lsC hH hW hk hag hS).1.2.2 x hdg hx1 (of_decide_eq_true hokr) rfl
    case return_ => 
      have hlen := Nat.eq_of_beq_eq_true hok; subst hlen
      rcases st with _ | ⟨x, r⟩ <;> first | (cases h; done) | skip
      cases h
      exact (hret pc ρ H locs lsC hH hW hk hag hS).1.1 hdg (of_decide_eq_true hokr) rfl
    case getfield idx => 
      replace hok := zand2 hok; obtain ⟨hlen, hok⟩ := hok; have hlen := Nat.eq_of_beq_eq_true hlen; subst hlen
      rcases st with _ | ⟨x | x | ⟨t, _ | i⟩, r⟩ <;> first | (cases h; done) | skip
      replace hsv := List.forall_mem_cons.mp hsv; obtain ⟨hi0, hsv⟩ := hsv
      have hi : i < mC M t := hi0 i rfl
      replace h := zbx h; obtain ⟨ht, h⟩ := h
      have ht := Nat.eq_of_beq_eq_true ht
      rcases ax with _ | ⟨t', _ | ⟨f, _ | ⟨pl, _ | ⟨tg, _ | ⟨rg, _ | ⟨j, ax⟩⟩⟩⟩⟩⟩ <;> first | (cases hok; done) | skip
      change t = t' at ht
      subst ht
      replace hok := zokf_x hok
      rcases hok with ⟨heq, hok⟩ | hok
      · subst heq
        have h30 : mC M 12 = 30 := hW.2.2.2.2.2.2.2.1
        rcases zor2 hok with hok | hok
        · replace hok := zand2 hok; obtain ⟨hok, hlk⟩ := hok
          obtain ⟨e1, e2⟩ := zand2 hok
          have e1 := Nat.eq_of_beq_eq_true e1; have e2 := Nat.eq_of_beq_eq_true e2; subst e1; subst e2
          refine va_getX (N := 30) (v := fun i => .int (Int32.ofInt (zKI sx 12 i 0))) (ad := ρ 12) hx hb (fun i hi => hc.2.2.2.2.1 i hi) (by omega) hS hown (hts _ (zlk_m hlk)) (fun _ z => z) hdg ?_
          change zex zG d tab (pc + 3) ls (.inl (mKI M 12 i 0) :: r) M n = some (rr, M') at h
          rw [hk.1] at h
          exact ih h hF hd5 hsp hT ⟨hH, hW, hk, hc, hs, hL, hlv, List.forall_mem_cons.mpr ⟨by rw [← hk.1]; exact (hW.1 12 i 0).2.2.1 (fun _ => by omega), hsv⟩, hB, hS⟩ hag hmo hR hret
        · replace hok := zand2 hok; obtain ⟨hok, hlk⟩ := hok
          obtain ⟨e1, e2⟩ := zand2 hok
          have e1 := Nat.eq_of_beq_eq_true e1; have e2 := Nat.eq_of_beq_eq_true e2; subst e1; subst e2
          refine va_getX (N := 30) (v := fun i => .long (Int64.ofInt (zKL 12 i 1))) (ad := ρ 12) hx hb (fun i hi => hc.2.2.2.2.2.1 i hi) (by omega) hS hown (hts _ (zlk_m hlk)) (fun _ z => z) hdg ?_
          change zex zG d tab (pc + 3) ls (.inr (.inl (mKL M 12 i 1)) :: r) M n = some (rr, M') at h
          rw [hk.2.1] at h
          exact ih h hF hd5 hsp hT ⟨hH, hW, hk, hc, hs, hL, hlv, List.forall_mem_cons.mpr ⟨by rw [← hk.2.1]; exact (hW.1 12 i 1).2.2.2, hsv⟩, hB, hS⟩ hag hmo hR hret
      · skip
        replace hok := zand2 hok; obtain ⟨hok, hlk⟩ := hok
        replace hok := zand2 hok; obtain ⟨hok, hfp⟩ := hok
        obtain ⟨h12, hf⟩ := zand2 hok
        have h12 := Nat.le_of_ble_eq_true h12
        have hf := Nat.le_of_ble_eq_true hf
        have hfp := of_decide_eq_true hfp
        cases hvw : vwCl[t]? with
        | none => rw [hvw] at hlk; cases hlk
        | some q =>
          rw [hvw] at hlk
          obtain ⟨ty, hC, hpt, -⟩ := zclT hvw
          have hN : q.2.2 = znf t := hC.2.2.2.2
          have hm : zmt t = true := by simp [zmt, show t < 12 from h12]
          have hO := (hH t i hm hi).1 h12
          rw [← hN] at hO hf
          refine zw_get hx hb hts hC hown hs hO f hf (hts _ (zlk_m hlk)) hdg ?_
          have hp := hpt f hf
          rw [hfp] at hp
          have e : zfv ρ M t i f = zcv ρ (zgV M t i f pl tg rg) := zfv_of hfp (by rcases hp with ⟨z, -⟩ | ⟨z, -⟩ | ⟨z, -⟩ | ⟨z | z, -⟩ <;> simp only at z <;> omega)
          rw [e]
          have hv : zvl M (zgV M t i f pl tg rg) := by
            rcases hp with ⟨z, -⟩ | ⟨z, -⟩ | ⟨z, -⟩ | ⟨z | z, -⟩ <;> (simp only at z; subst z)
            · exact (hW.1 t i f).1
            · exact (hW.1 t i f).1
            · exact (hW.1 t i f).2.1
            · intro j hj
              have := hW.2.1 t i f j hi (.inl ⟨h12, by rw [← hN]; exact hf, by rw [hfp]⟩) hj
              unfold ztf at this
              rw [if_pos (show t < 12 from h12), hfp] at this
              exact this
            · intro j hj
              have := hW.2.2.1 rg j hj
              have h4 : (zfp t f).1 = 4 := by rw [hfp]
              rcases zfp_4 t h12 f (by rw [← hN]; exact hf) h4 with ⟨-, -, z⟩ | ⟨-, -, z⟩ | ⟨-, -, z⟩ | ⟨-, -, z⟩ <;> (rw [hfp] at z; simp only [Prod.mk.injEq] at z; obtain ⟨z1, z2⟩ := z; subst z1; subst z2; exact this)
          have h2 : zex zG d tab (pc + 3) ls ((zgV M t i f pl tg rg) :: r) M n = some (rr, M') := by
            rcases hp with ⟨z, -⟩ | ⟨z, -⟩ | ⟨z, -⟩ | ⟨z | z, -⟩ <;> (simp only at z; subst z; exact h)
          exact ih h2 hF hd5 hsp hT ⟨hH, hW, hk, hc, hs, hL, hlv, List.forall_mem_cons.mpr ⟨hv, hsv⟩, hB, hS⟩ hag hmo hR hret
    case putfield idx => 
      replace hok := zand2 hok; obtain ⟨hok, hokp⟩ := hok
      replace hok := zand2 hok; obtain ⟨hlen, hok⟩ := hok; have hlen := Nat.eq_of_beq_eq_true hlen; subst hlen
      rcases st with _ | ⟨v, _ | ⟨x | x | ⟨t, _ | i⟩, r⟩⟩ <;> first | (cases h; done) | skip
      replace hsv := List.forall_mem_cons.mp hsv; obtain ⟨hv0, hsv⟩ := hsv
      replace hsv := List.forall_mem_cons.mp hsv; obtain ⟨hi0, hsv⟩ := hsv
      have hi : i < mC M t := hi0 i rfl
      replace h := zbx h; obtain ⟨ht, h⟩ := h
      have ht := Nat.eq_of_beq_eq_true ht
      rcases ax with _ | ⟨t', _ | ⟨f, _ | ⟨pl, _ | ⟨tg, _ | ⟨rg, _ | ⟨j, ax⟩⟩⟩⟩⟩⟩ <;> first | (cases hok; done) | skip
      change t = t' at ht
      subst ht
      replace hokp := zand2 hokp; obtain ⟨h12, hokp⟩ := hokp
      have h12 := Nat.le_of_ble_eq_true h12
      replace hok := zokf_x hok
      rcases hok with ⟨heq, hok⟩ | hok
      · subst heq
        exact absurd h12 (by decide)
      · skip
        replace hok := zand2 hok; obtain ⟨hok, hlk⟩ := hok
        replace hok := zand2 hok; obtain ⟨hok, hfp⟩ := hok
        obtain ⟨-, hf⟩ := zand2 hok
        have hf := Nat.le_of_ble_eq_true hf
        have hfp := of_decide_eq_true hfp
        cases hvw : vwCl[t]? with
        | none => rw [hvw] at hlk; cases hlk
        | some q =>
          rw [hvw] at hlk hokp
          obtain ⟨ty, hC, hpt, -⟩ := zclT hvw
          have hN : q.2.2 = znf t := hC.2.2.2.2
          have hm : zmt t = true := by simp [zmt, show t < 12 from h12]
          have hO := (hH t i hm hi).1 h12
          have hfz := hf
          rw [← hN] at hO hf
          have hp := hpt f hf
          rw [hfp] at hp
          have hfin : (q.2.1 f).2.2.2 = false ∨ ((q.2.1 f).2.2.2 = true ∧ meth.name = "<init>" ∧ (q.2.1 f).1 = y.cls) := by
            cases hb2 : (q.2.1 f).2.2.2 with
            | false => exact .inl rfl
            | true =>
              simp only [hb2, Bool.not_true, Bool.false_or, Bool.and_eq_true, decide_eq_true_eq] at hokp
              exact .inr ⟨rfl, hini hokp.1, hokp.2⟩
          rcases hp with ⟨z, hty⟩ | ⟨z, hty⟩ | ⟨z, hty⟩ | ⟨z | z, hty⟩ <;> simp only at z <;> subst z
          · rcases v with x | x | x <;> first | (cases h; done) | skip
            refine zw_put hx hb hts hC hown hs hO f hf (hts _ (zlk_m hlk)) hfin (v := .int (Int32.ofInt x)) (by rw [hty]; rfl) (by rw [hty]; rfl) hdg (fun H1 z hsz hq hO1 => ?_)
            rw [hN] at hO1
            exact ih h hF hd5 hsp hT ⟨zHp_pIo hH hW.2.2.2.1 h12 hi (.inl (by rw [hfp])) hq hO1, zWf_pI hW hv0, hk, hc, hs, hL, hlv, hsv, hB, hS.put hsz hq (hW.2.2.2.2.1 t i hm hi)⟩ hag hmo hR hret
          · rcases v with x | x | x <;> first | (cases h; done) | skip
            replace h := zbx h; obtain ⟨h01, h⟩ := h
            have h01 : x = 0 ∨ x = 1 := by simpa using h01
            refine zw_put hx hb hts hC hown hs hO f hf (hts _ (zlk_m hlk)) hfin (v := .int (Int32.ofInt x)) (by rw [hty]; rcases h01 with rfl | rfl <;> rfl) (by rw [hty]; rcases h01 with rfl | rfl <;> rfl) hdg (fun H1 z hsz hq hO1 => ?_)
            rw [hN] at hO1
            exact ih h hF hd5 hsp hT ⟨zHp_pIo hH hW.2.2.2.1 h12 hi (.inr (by rw [hfp])) hq hO1, zWf_pI hW hv0, hk, hc, hs, hL, hlv, hsv, hB, hS.put hsz hq (hW.2.2.2.2.1 t i hm hi)⟩ hag hmo hR hret
          · rcases v with x | x | x <;> first | (cases h; done) | skip
            refine zw_put hx hb hts hC hown hs hO f hf (hts _ (zlk_m hlk)) hfin (v := .long (Int64.ofInt x)) (by rw [hty]; rfl) (by rw [hty]; rfl) hdg (fun H1 z hsz hq hO1 => ?_)
            rw [hN] at hO1
            exact ih h hF hd5 hsp hT ⟨zHp_pLo hH hW.2.2.2.1 h12 hi (by rw [hfp]) hq hO1, zWf_pL hW hv0, hk, hc, hs, hL, hlv, hsv, hB, hS.put hsz hq (hW.2.2.2.2.1 t i hm hi)⟩ hag hmo hR hret
          · rcases v with x | x | ⟨t2, _ | jj⟩ <;> first | (cases h; done) | skip
            replace h := zbx h; obtain ⟨htt, h⟩ := h
            have htt := Nat.eq_of_beq_eq_true htt
            subst htt
            refine zw_put hx hb hts hC hown hs hO f hf (hts _ (zlk_m hlk)) hfin (v := va_rf ((some jj).map (ρ t2))) (hty _).1 (hty _).2.1 hdg (fun H1 z hsz hq hO1 => ?_)
            rw [hN] at hO1
            have hj : jj < mC M (ztf t f) := by
              unfold ztf
              rw [if_pos (show t < 12 from h12), hfp]
              exact hv0 jj rfl
            exact ih h hF hd5 hsp hT ⟨zHp_pFo (x := some jj) hH hW.2.2.2.1 h12 hi (by rw [hfp]) hq (by rw [hfp]; exact hO1), zWf_pF hW hj (by omega), hk, hc, hs, hL, hlv, hsv, hB, hS.put hsz hq (hW.2.2.2.2.1 t i hm hi)⟩ hag hmo hR hret
          · rcases v with x | x | ⟨t2, o⟩ <;> first | (cases h; done) | skip
            have h4 : (zfp t f).1 = 4 := by rw [hfp]
            have hrg : (zfp t f).2.2 = rg := by rw [hfp]
            have htg : (zfp t f).2.1 = tg := by rw [hfp]
            have hcase := zfp_4 t h12 f hfz h4
            have hw6 : ∀ oo : Option Nat, (∀ j, oo = some j → j < mC M tg) → zWf ρ B (pR M (zsr (mR M) rg oo)) := by
              intro oo hoo
              rcases hcase with ⟨a1, a2, z⟩ | ⟨a1, a2, z⟩ | ⟨a1, a2, z⟩ | ⟨a1, a2, z⟩ <;> (rw [hfp] at z; simp only [Prod.mk.injEq] at z; obtain ⟨z1, z2⟩ := z; subst z1; subst z2; subst a1; exact zWf_pR hW (by decide) hoo (fun w => by first | (cases w; done) | omega) (fun w => by first | (cases w; done) | omega) (fun w => by first | (exact absurd w (by decide)) | omega))
            refine zw_put hx hb hts hC hown hs hO f hf (hts _ (zlk_m hlk)) hfin (v := va_rf (o.map (ρ t2))) (hty _).1 (hty _).2.1 hdg (fun H1 z hsz hq hO1 => ?_)
            rw [hN] at hO1
            cases o with
            | none =>
              have e1 := zHp_pRo (x := none) hH hW.2.2.2.1 hW.2.2.2.2.2.1 h12 hi hfz h4 hq hO1
              rw [hrg] at e1
              exact ih h hF hd5 hsp hT ⟨e1, hw6 none (fun j hj => by cases hj), hk, hc, hs, hL, hlv, hsv, hB, hS.put hsz hq (hW.2.2.2.2.1 t i hm hi)⟩ hag hmo hR hret
            | some jj =>
              replace h := zbx h; obtain ⟨htt, h⟩ := h
              have htt := Nat.eq_of_beq_eq_true htt
              subst htt
              have e1 := zHp_pRo (x := some jj) hH hW.2.2.2.1 hW.2.2.2.2.2.1 h12 hi hfz h4 hq (by rw [htg]; exact hO1)
              rw [hrg] at e1
              exact ih h hF hd5 hsp hT ⟨e1, hw6 (some jj) (fun j hj => by cases hj; exact hv0 jj rfl), hk, hc, hs, hL, hlv, hsv, hB, hS.put hsz hq (hW.2.2.2.2.1 t i hm hi)⟩ hag hmo hR hret
    case getstatic idx => 
      replace hok := zand2 hok; obtain ⟨hlen, hok⟩ := hok; have hlen := Nat.eq_of_beq_eq_true hlen; subst hlen
      rcases ax with _ | ⟨t, _ | ⟨i, _ | ⟨j, ax⟩⟩⟩ <;> first | (cases hok; done) | skip
      replace hok := zoks_x hok
      have w8 := hW.2.2.2.2.2.2.2
      rcases hok with ⟨heq, hok⟩ | ⟨heq, hok⟩ | ⟨heq, hok⟩
      · subst heq
        obtain ⟨hi, hlk⟩ := zand2 hok
        have hi := Nat.le_of_ble_eq_true hi
        refine va_gets hx hb (hc.1 i hi) hS hown (hts _ (zlk_m hlk)) (fun _ z => z) hdg ?_
        exact ih h hF hd5 hsp hT ⟨hH, hW, hk, hc, hs, hL, hlv, List.forall_mem_cons.mpr ⟨(fun j hj => by cases hj; rw [w8.1]; exact hi), hsv⟩, hB, hS⟩ hag hmo hR hret
      · subst heq
        obtain ⟨hi, hlk⟩ := zand2 hok
        have hi := Nat.eq_of_beq_eq_true hi; subst hi
        refine va_getsN hx hb hc.2.1 hS hown (hts _ (zlk_m hlk)) (fun _ z => z) hdg ?_
        exact ih h hF hd5 hsp hT ⟨hH, hW, hk, hc, hs, hL, hlv, List.forall_mem_cons.mpr ⟨(fun j hj => by cases hj; rw [w8.2.1]; decide), hsv⟩, hB, hS⟩ hag hmo hR hret
      · subst heq
        obtain ⟨hi, hlk⟩ := zand2 hok
        have hi := Nat.eq_of_beq_eq_true hi; subst hi
        refine va_gets hx hb hc.2.2.1 hS hown (hts _ (zlk_m hlk)) (fun _ z => z) hdg ?_
        exact ih h hF hd5 hsp hT ⟨hH, hW, hk, hc, hs, hL, hlv, List.forall_mem_cons.mpr ⟨(fun j hj => by cases hj; rw [w8.2.2.1]; decide), hsv⟩, hB, hS⟩ hag hmo hR hret
    case iaload => 
      have hlen := Nat.eq_of_beq_eq_true hok; subst hlen
      rcases st with _ | ⟨x | x | x, _ | ⟨u | u | ⟨t, _ | i⟩, r⟩⟩ <;> first | (cases h; done) | skip
      replace hsv := List.forall_mem_cons.mp hsv; obtain ⟨hx1, hsv⟩ := hsv
      replace hsv := List.forall_mem_cons.mp hsv; obtain ⟨hi0, hsv⟩ := hsv
      have hi : i < mC M t := hi0 i rfl
      have h104 : t < 104 := by rcases Nat.lt_or_ge t 104 with z | z <;> first | exact z | (have := hW.2.2.2.2.2.2.2.2.2.2.2.2.2.2 t z; omega)
      replace h := zemx h; rcases h with hq | ⟨_, h⟩ | ⟨_, h⟩ | ⟨_, h⟩ | ⟨_, h⟩ | hq | ⟨_, h⟩ <;> first | (cases h; done) | skip
      · obtain ⟨hz, h⟩ := hq
        replace h := zgd h; obtain ⟨hin, h⟩ := h
        obtain ⟨hm, h12⟩ := zmt_a (t := t) (by omega)
        have hcell := (hH t i hm hi).2 h12
        have hAr := (zks_at hs h104).1 (mN M t i) (zav ρ M t i)
        have hty := zty_of (t := t) (by omega)
        rw [hty.1 hz] at hAr
        refine W.iald (v := .int (Int32.ofInt (mI M t i x.toNat))) hx hb hcell hAr (fun z => by cases z) (by rw [arrV_size]; exact zn_clampin hx1 hin) (by rw [zn_nat hx1, arrV_read _ _ (by omega)]; unfold zav; rw [hz]; rfl) rfl rfl hdg ?_
        exact ih h hF hd5 hsp hT ⟨hH, hW, hk, hc, hs, hL, hlv, List.forall_mem_cons.mpr ⟨(hW.1 t i x.toNat).1, hsv⟩, hB, hS⟩ hag hmo hR hret
      · obtain ⟨hz, h⟩ := hq
        replace h := zgd h; obtain ⟨hin, h⟩ := h
        obtain ⟨N, f, hTT, hNN, hff⟩ : ∃ N, ∃ f : Nat → Value, va_T .int (ρ t i) N f (zA B) s s.heap ∧ mN M t i = N ∧ ∀ j, j < N → f j = .int (Int32.ofInt (mKI M t i j)) := zcar hW hk hc hz hi
        obtain ⟨cell, b1, b2, b3, b4, b5, b6, b7⟩ := hTT
        have hcell : H[ρ t i]? = some cell := by rw [hS.2.1 _ (Array.getElem?_eq_some_iff.mp b1).1 b7]; exact b1
        refine W.iald (v := .int (Int32.ofInt (mKI M t i x.toNat))) hx hb hcell b2 b3 (by rw [zn_lt0 hx1, zn_nat hx1]; omega) (by rw [zn_nat hx1, b6 _ (by omega), hff _ (by omega)]) rfl rfl hdg ?_
        exact ih h hF hd5 hsp hT ⟨hH, hW, hk, hc, hs, hL, hlv, List.forall_mem_cons.mpr ⟨(hW.1 t i x.toNat).2.2.1 (fun z => absurd z (by rcases zek_5 hz with e | e <;> omega)), hsv⟩, hB, hS⟩ hag hmo hR hret
    case baload => 
      have hlen := Nat.eq_of_beq_eq_true hok; subst hlen
      rcases st with _ | ⟨x | x | x, _ | ⟨u | u | ⟨t, _ | i⟩, r⟩⟩ <;> first | (cases h; done) | skip
      replace hsv := List.forall_mem_cons.mp hsv; obtain ⟨hx1, hsv⟩ := hsv
      replace hsv := List.forall_mem_cons.mp hsv; obtain ⟨hi0, hsv⟩ := hsv
      have hi : i < mC M t := hi0 i rfl
      have h104 : t < 104 := by rcases Nat.lt_or_ge t 104 with z | z <;> first | exact z | (have := hW.2.2.2.2.2.2.2.2.2.2.2.2.2.2 t z; omega)
      replace h := zemx h; rcases h with ⟨_, h⟩ | ⟨_, h⟩ | hq | hq | ⟨_, h⟩ | ⟨_, h⟩ | ⟨_, h⟩ <;> first | (cases h; done) | skip
      · obtain ⟨hz, h⟩ := hq
        replace h := zgd h; obtain ⟨hin, h⟩ := h
        obtain ⟨hm, h12⟩ := zmt_a (t := t) (by omega)
        have hcell := (hH t i hm hi).2 h12
        have hAr := (zks_at hs h104).1 (mN M t i) (zav ρ M t i)
        have hty := zty_of (t := t) (by omega)
        rw [hty.2.2.1 hz] at hAr
        refine W.bald (v := .int (Int32.ofInt (mI M t i x.toNat))) hx hb hcell hAr (fun z => by cases z) (by rw [arrV_size]; exact zn_clampin hx1 hin) (by rw [zn_nat hx1, arrV_read _ _ (by omega)]; unfold zav; rw [hz]; rfl) rfl rfl hdg ?_
        exact ih h hF hd5 hsp hT ⟨hH, hW, hk, hc, hs, hL, hlv, List.forall_mem_cons.mpr ⟨(hW.1 t i x.toNat).1, hsv⟩, hB, hS⟩ hag hmo hR hret
      · obtain ⟨hz, h⟩ := hq
        replace h := zgd h; obtain ⟨hin, h⟩ := h
        obtain ⟨hm, h12⟩ := zmt_a (t := t) (by omega)
        have hcell := (hH t i hm hi).2 h12
        have hAr := (zks_at hs h104).1 (mN M t i) (zav ρ M t i)
        have hty := zty_of (t := t) (by omega)
        rw [hty.2.2.2 hz] at hAr
        refine W.zald (v := .int (Int32.ofInt (mI M t i x.toNat))) hx hb hcell hAr (fun z => by cases z) (by rw [arrV_size]; exact zn_clampin hx1 hin) (by rw [zn_nat hx1, arrV_read _ _ (by omega)]; unfold zav; rw [hz]; rfl) rfl rfl hdg ?_
        exact ih h hF hd5 hsp hT ⟨hH, hW, hk, hc, hs, hL, hlv, List.forall_mem_cons.mpr ⟨(hW.1 t i x.toNat).1, hsv⟩, hB, hS⟩ hag hmo hR hret
    case laload => 
      have hlen := Nat.eq_of_beq_eq_true hok; subst hlen
      rcases st with _ | ⟨x | x | x, _ | ⟨u | u | ⟨t, _ | i⟩, r⟩⟩ <;> first | (cases h; done) | skip
      replace hsv := List.forall_mem_cons.mp hsv; obtain ⟨hx1, hsv⟩ := hsv
      replace hsv := List.forall_mem_cons.mp hsv; obtain ⟨hi0, hsv⟩ := hsv
      have hi : i < mC M t := hi0 i rfl
      have h104 : t < 104 := by rcases Nat.lt_or_ge t 104 with z | z <;> first | exact z | (have := hW.2.2.2.2.2.2.2.2.2.2.2.2.2.2 t z; omega)
      replace h := zemx h; rcases h with ⟨_, h⟩ | hq | ⟨_, h⟩ | ⟨_, h⟩ | ⟨_, h⟩ | ⟨_, h⟩ | ⟨_, h⟩ <;> first | (cases h; done) | skip
      obtain ⟨hz, h⟩ := hq
      replace h := zgd h; obtain ⟨hin, h⟩ := h
      obtain ⟨hm, h12⟩ := zmt_a (t := t) (by omega)
      have hcell := (hH t i hm hi).2 h12
      have hAr := (zks_at hs h104).1 (mN M t i) (zav ρ M t i)
      have hty := zty_of (t := t) (by omega)
      rw [hty.2.1 hz] at hAr
      refine W.lald (v := .long (Int64.ofInt (mL M t i x.toNat))) hx hb hcell hAr (fun z => by cases z) (by rw [arrV_size]; exact zn_clampin hx1 hin) (by rw [zn_nat hx1, arrV_read _ _ (by omega)]; unfold zav; rw [hz]; rfl) rfl rfl hdg ?_
      exact ih h hF hd5 hsp hT ⟨hH, hW, hk, hc, hs, hL, hlv, List.forall_mem_cons.mpr ⟨(hW.1 t i x.toNat).2.1, hsv⟩, hB, hS⟩ hag hmo hR hret
    case aaload => 
      have hlen := Nat.eq_of_beq_eq_true hok; subst hlen
      rcases st with _ | ⟨x | x | x, _ | ⟨u | u | ⟨t, _ | i⟩, r⟩⟩ <;> first | (cases h; done) | skip
      replace hsv := List.forall_mem_cons.mp hsv; obtain ⟨hx1, hsv⟩ := hsv
      replace hsv := List.forall_mem_cons.mp hsv; obtain ⟨hi0, hsv⟩ := hsv
      have hi : i < mC M t := hi0 i rfl
      have h104 : t < 104 := by rcases Nat.lt_or_ge t 104 with z | z <;> first | exact z | (have := hW.2.2.2.2.2.2.2.2.2.2.2.2.2.2 t z; omega)
      replace h := zemx h; rcases h with ⟨_, h⟩ | ⟨_, h⟩ | ⟨_, h⟩ | ⟨_, h⟩ | hq | ⟨_, h⟩ | hq <;> first | (cases h; done) | skip
      · obtain ⟨hz, h⟩ := hq
        replace h := zgd h; obtain ⟨hin, h⟩ := h
        obtain ⟨hm, h12⟩ := zmt_a (t := t) (by omega)
        have hcell := (hH t i hm hi).2 h12
        have hAr := (zks_at hs h104).1 (mN M t i) (zav ρ M t i)
        refine W.aald (v := va_rf ((mF M t i x.toNat).map (ρ (ztg t)))) hx hb hcell hAr (zty_4 hz) (fun z => by cases z) (by rw [arrV_size]; exact zn_clampin hx1 hin) (by rw [zn_nat hx1, arrV_read _ _ (by omega)]; unfold zav; rw [hz]; rfl) rfl rfl hdg ?_
        exact ih h hF hd5 hsp hT ⟨hH, hW, hk, hc, hs, hL, hlv, List.forall_mem_cons.mpr ⟨(fun j hj => by have := hW.2.1 t i _ j hi (.inr ⟨h12, by omega⟩) hj; unfold ztf at this; rw [if_neg h12] at this; exact this), hsv⟩, hB, hS⟩ hag hmo hR hret
      · obtain ⟨hz, h⟩ := hq
        replace h := zgd h; obtain ⟨hin, h⟩ := h
        have ht : t = 100 := zek_6 hz
        subst ht
        have w8 := hW.2.2.2.2.2.2.2
        have hi1 : i = 0 := by rw [w8.2.1] at hi; omega
        subst hi1
        unfold zinb at hin
        rw [w8.2.2.2.2.1] at hin
        obtain ⟨cell, b1, b2, b3, b4, b5, b6, b7⟩ := hc.2.2.2.2.2.2.2.1
        have hcell : H[ρ 100 0]? = some cell := by rw [hS.2.1 _ (Array.getElem?_eq_some_iff.mp b1).1 b7]; exact b1
        have hF : mF M 100 0 x.toNat = some x.toNat := w8.2.2.2.2.2.2.1 _ (by omega)
        rw [hF] at h
        refine W.aald (v := .ref (ρ 12 x.toNat)) hx hb hcell b2 rfl b3 (by rw [zn_lt0 hx1, zn_nat hx1]; omega) (by rw [zn_nat hx1, b6 _ (by omega)]) rfl rfl hdg ?_
        exact ih h hFr hd5 hsp hT ⟨hH, hW, hk, hc, hs, hL, hlv, List.forall_mem_cons.mpr ⟨(fun j hj => by cases hj; rw [show ztg 100 = 12 from rfl, w8.1]; omega), hsv⟩, hB, hS⟩ hag hmo hR hret
    case iastore => 
      have hlen := Nat.eq_of_beq_eq_true hok; subst hlen
      rcases st with _ | ⟨v | v | v, _ | ⟨x | x | x, _ | ⟨u | u | ⟨t, _ | i⟩, r⟩⟩⟩ <;> first | (cases h; done) | skip
      replace hsv := List.forall_mem_cons.mp hsv; obtain ⟨hv0, hsv⟩ := hsv
      replace hsv := List.forall_mem_cons.mp hsv; obtain ⟨hx1, hsv⟩ := hsv
      replace hsv := List.forall_mem_cons.mp hsv; obtain ⟨hi0, hsv⟩ := hsv
      have hi : i < mC M t := hi0 i rfl
      have h104 : t < 104 := by rcases Nat.lt_or_ge t 104 with z | z <;> first | exact z | (have := hW.2.2.2.2.2.2.2.2.2.2.2.2.2.2 t z; omega)
      replace h := zemx h; rcases h with hq | ⟨_, h⟩ | ⟨_, h⟩ | ⟨_, h⟩ | ⟨_, h⟩ | ⟨_, h⟩ | ⟨_, h⟩ <;> first | (cases h; done) | skip
      obtain ⟨hz, h⟩ := hq
      replace h := zgd h; obtain ⟨hin, h⟩ := h
      obtain ⟨hm, h12⟩ := zmt_a (t := t) (by omega)
      have hcell := (hH t i hm hi).2 h12
      have hAr := (zks_at hs h104).1 (mN M t i) (zav ρ M t i)
      have hty := zty_of (t := t) (by omega)
      rw [hty.1 hz] at hAr
      refine W.iast hx hb hcell hAr (fun z => by cases z) (by rw [arrV_size]; exact zn_clampin hx1 hin) rfl rfl hdg (fun H1 he hsz hq => ?_)
      rw [zn_nat hx1] at he
      rw [arrV_store] at he
      exact ih h hF hd5 hsp hT ⟨zHp_pIa hH hW.2.2.2.1 hi (.inl hz) hq he, zWf_pI hW hv0, hk, hc, hs, hL, hlv, hsv, hB, hS.put hsz hq (hW.2.2.2.2.1 t i hm hi)⟩ hag hmo hR hret
    case lastore => 
      have hlen := Nat.eq_of_beq_eq_true hok; subst hlen
      rcases st with _ | ⟨v | v | v, _ | ⟨x | x | x, _ | ⟨u | u | ⟨t, _ | i⟩, r⟩⟩⟩ <;> first | (cases h; done) | skip
      replace hsv := List.forall_mem_cons.mp hsv; obtain ⟨hv0, hsv⟩ := hsv
      replace hsv := List.forall_mem_cons.mp hsv; obtain ⟨hx1, hsv⟩ := hsv
      replace hsv := List.forall_mem_cons.mp hsv; obtain ⟨hi0, hsv⟩ := hsv
      have hi : i < mC M t := hi0 i rfl
      have h104 : t < 104 := by rcases Nat.lt_or_ge t 104 with z | z <;> first | exact z | (have := hW.2.2.2.2.2.2.2.2.2.2.2.2.2.2 t z; omega)
      replace h := zemx h; rcases h with ⟨_, h⟩ | hq | ⟨_, h⟩ | ⟨_, h⟩ | ⟨_, h⟩ | ⟨_, h⟩ | ⟨_, h⟩ <;> first | (cases h; done) | skip
      obtain ⟨hz, h⟩ := hq
      replace h := zgd h; obtain ⟨hin, h⟩ := h
      obtain ⟨hm, h12⟩ := zmt_a (t := t) (by omega)
      have hcell := (hH t i hm hi).2 h12
      have hAr := (zks_at hs h104).1 (mN M t i) (zav ρ M t i)
      have hty := zty_of (t := t) (by omega)
      rw [hty.2.1 hz] at hAr
      refine W.last hx hb hcell hAr (fun z => by cases z) (by rw [arrV_size]; exact zn_clampin hx1 hin) rfl rfl hdg (fun H1 he hsz hq => ?_)
      rw [zn_nat hx1] at he
      rw [arrV_store] at he
      exact ih h hF hd5 hsp hT ⟨zHp_pLa hH hW.2.2.2.1 hi hz hq he, zWf_pL hW hv0, hk, hc, hs, hL, hlv, hsv, hB, hS.put hsz hq (hW.2.2.2.2.1 t i hm hi)⟩ hag hmo hR hret
    case bastore => 
      have hlen := Nat.eq_of_beq_eq_true hok; subst hlen
      rcases st with _ | ⟨v | v | v, _ | ⟨x | x | x, _ | ⟨u | u | ⟨t, _ | i⟩, r⟩⟩⟩ <;> first | (cases h; done) | skip
      replace hsv := List.forall_mem_cons.mp hsv; obtain ⟨hv0, hsv⟩ := hsv
      replace hsv := List.forall_mem_cons.mp hsv; obtain ⟨hx1, hsv⟩ := hsv
      replace hsv := List.forall_mem_cons.mp hsv; obtain ⟨hi0, hsv⟩ := hsv
      have hi : i < mC M t := hi0 i rfl
      have h104 : t < 104 := by rcases Nat.lt_or_ge t 104 with z | z <;> first | exact z | (have := hW.2.2.2.2.2.2.2.2.2.2.2.2.2.2 t z; omega)
      replace h := zemx h; rcases h with ⟨_, h⟩ | ⟨_, h⟩ | hq | hq | ⟨_, h⟩ | ⟨_, h⟩ | ⟨_, h⟩ <;> first | (cases h; done) | skip
      · obtain ⟨hz, h⟩ := hq
        replace h := zgd h; obtain ⟨hin, h⟩ := h
        obtain ⟨hm, h12⟩ := zmt_a (t := t) (by omega)
        have hcell := (hH t i hm hi).2 h12
        have hAr := (zks_at hs h104).1 (mN M t i) (zav ρ M t i)
        have hty := zty_of (t := t) (by omega)
        rw [hty.2.2.1 hz] at hAr
        refine W.bast hx hb hcell hAr (fun z => by cases z) (by rw [arrV_size]; exact zn_clampin hx1 hin) rfl rfl hdg (fun H1 he hsz hq => ?_)
        rw [zn_nat hx1] at he
        rw [arrV_store, show narrow .byte (.int (Int32.ofInt v)) = .int (Int32.ofInt (z_i2b v)) from congrArg Value.int (zn_i2b hv0)] at he
        exact ih h hF hd5 hsp hT ⟨zHp_pIa hH hW.2.2.2.1 hi (.inr (.inl hz)) hq he, zWf_pI hW (z_i2b_r _), hk, hc, hs, hL, hlv, hsv, hB, hS.put hsz hq (hW.2.2.2.2.1 t i hm hi)⟩ hag hmo hR hret
      · obtain ⟨hz, h⟩ := hq
        replace h := zgd h; obtain ⟨hin, h⟩ := h
        obtain ⟨hm, h12⟩ := zmt_a (t := t) (by omega)
        have hcell := (hH t i hm hi).2 h12
        have hAr := (zks_at hs h104).1 (mN M t i) (zav ρ M t i)
        have hty := zty_of (t := t) (by omega)
        rw [hty.2.2.2 hz] at hAr
        refine W.zast hx hb hcell hAr (fun z => by cases z) (by rw [arrV_size]; exact zn_clampin hx1 hin) rfl rfl hdg (fun H1 he hsz hq => ?_)
        rw [zn_nat hx1] at he
        rw [arrV_store, show narrow .boolean (.int (Int32.ofInt v)) = .int (Int32.ofInt (z_b1 v)) from congrArg Value.int (zn_b1 hv0)] at he
        exact ih h hF hd5 hsp hT ⟨zHp_pIa hH hW.2.2.2.1 hi (.inr (.inr hz)) hq he, zWf_pI hW (z_b1_r _), hk, hc, hs, hL, hlv, hsv, hB, hS.put hsz hq (hW.2.2.2.2.1 t i hm hi)⟩ hag hmo hR hret
    case arraylength => 
      have hlen := Nat.eq_of_beq_eq_true hok; subst hlen
      rcases st with _ | ⟨x | x | ⟨t, _ | i⟩, r⟩ <;> first | (cases h; done) | skip
      replace hsv := List.forall_mem_cons.mp hsv; obtain ⟨hi0, hsv⟩ := hsv
      have hi : i < mC M t := hi0 i rfl
      have h104 : t < 104 := by rcases Nat.lt_or_ge t 104 with z | z <;> first | exact z | (have := hW.2.2.2.2.2.2.2.2.2.2.2.2.2.2 t z; omega)
      have hz : zek t ≤ 6 ∧ zex zG d tab (pc + 1) ls (.inl (mN M t i : Int) :: r) M n = some (rr, M') := by replace h := zemx h; rcases h with ⟨e, h⟩ | ⟨e, h⟩ | ⟨e, h⟩ | ⟨e, h⟩ | ⟨e, h⟩ | ⟨e, h⟩ | ⟨e, h⟩ <;> exact ⟨by omega, h⟩
      obtain ⟨hz, h⟩ := hz
      have h12 : ¬ t < 12 := fun z => by rw [zek_12 z] at hz; omega
      have h7 := hW.2.2.2.2.2.2.1 t i h12 hi
      have hr : zr32 (mN M t i : Int) := ⟨by omega, by omega⟩
      have hnn : Int32.ofInt (mN M t i : Int) = (mN M t i).toInt32 := Int32.ofInt_eq_ofNat
      by_cases h4 : zek t ≤ 4
      · obtain ⟨hm, -⟩ := zmt_a (t := t) h4
        have hcell := (hH t i hm hi).2 h12
        have hAr := (zks_at hs h104).1 (mN M t i) (zav ρ M t i)
        refine W.alen (n := Int32.ofInt (mN M t i : Int)) hx hb hcell hAr (by rw [arrV_size, hnn]) rfl rfl hdg ?_
        exact ih h hF hd5 hsp hT ⟨hH, hW, hk, hc, hs, hL, hlv, List.forall_mem_cons.mpr ⟨hr, hsv⟩, hB, hS⟩ hag hmo hR hret
      · obtain ⟨ty, N, f, hTT, hNN⟩ : ∃ ty N, ∃ f : Nat → Value, va_T ty (ρ t i) N f (zA B) s s.heap ∧ mN M t i = N := by
          by_cases h5 : zek t = 5
          · obtain ⟨N, f, a1, a2, -⟩ := zcar hW hk hc h5 hi
            exact ⟨_, N, f, a1, a2⟩
          · have ht : t = 100 := zek_6 (by omega)
            subst ht
            have w8 := hW.2.2.2.2.2.2.2
            have hi1 : i = 0 := by rw [w8.2.1] at hi; omega
            subst hi1
            exact ⟨_, _, _, hc.2.2.2.2.2.2.2.1, w8.2.2.2.2.1⟩
        obtain ⟨cell, b1, b2, b3, b4, b5, b6, b7⟩ := hTT
        have hcell : H[ρ t i]? = some cell := by rw [hS.2.1 _ (Array.getElem?_eq_some_iff.mp b1).1 b7]; exact b1
        refine W.alen (n := Int32.ofInt (mN M t i : Int)) hx hb hcell b2 (by rw [b5, hnn, hNN]) rfl rfl hdg ?_
        exact ih h hF hd5 hsp hT ⟨hH, hW, hk, hc, hs, hL, hlv, List.forall_mem_cons.mpr ⟨hr, hsv⟩, hB, hS⟩ hag hmo hR hret
    case aastore => 
      have hlen := Nat.eq_of_beq_eq_true hok; subst hlen
      rcases st with _ | ⟨v | v | ⟨t2, _ | jv⟩, _ | ⟨x | x | x, _ | ⟨u | u | ⟨t, _ | i⟩, r⟩⟩⟩ <;> first | (cases h; done) | skip
      replace hsv := List.forall_mem_cons.mp hsv; obtain ⟨hv0, hsv⟩ := hsv
      replace hsv := List.forall_mem_cons.mp hsv; obtain ⟨hx1, hsv⟩ := hsv
      replace hsv := List.forall_mem_cons.mp hsv; obtain ⟨hi0, hsv⟩ := hsv
      have hi : i < mC M t := hi0 i rfl
      replace h := zbx h; obtain ⟨ht2, h⟩ := h
      have ht2 := Nat.eq_of_beq_eq_true ht2
      subst ht2
      have hjv : jv < mC M (ztg t) := hv0 jv rfl
      replace h := zemx h; rcases h with ⟨_, h⟩ | ⟨_, h⟩ | ⟨_, h⟩ | ⟨_, h⟩ | hq | ⟨_, h⟩ | ⟨_, h⟩ <;> first | (cases h; done) | skip
      obtain ⟨hz, h⟩ := hq
      replace h := zgd h; obtain ⟨hin, h⟩ := h
      obtain ⟨hm, h12⟩ := zmt_a (t := t) (by omega)
      have hcell := (hH t i hm hi).2 h12
      obtain ⟨q, hvw, hty, htg12, h104⟩ : ∃ q, vwCl[ztg t]? = some q ∧ zty t = .object q.1 ∧ ztg t < 12 ∧ t < 104 := by rcases zek_4 hz with rfl | rfl | rfl <;> exact ⟨_, rfl, rfl, by decide, by decide⟩
      have hmv : zmt (ztg t) = true := by simp [zmt, htg12]
      obtain ⟨cellV, g1, g2, g3, -⟩ := (hH (ztg t) jv hmv hjv).1 htg12
      have hcls := (hs.1 (ztg t) q hvw).2
      have hRA := (zks_at hs h104).2
      rw [hty] at hRA
      obtain ⟨kA, comp, k1, k2, k3, -⟩ := hRA
      have hcomp : comp = dC (ztg t) := Option.some.inj (k3.symm.trans hcls.1)
      subst hcomp
      obtain ⟨kC, hkC, -⟩ := hcls.2
      refine W.aast hx hb hcell (fun q h => by cases h) (fun h => by cases h) k1 k2 rfl hkC ⟨fun z => by rw [zn_lt0 hx1] at z; omega, by rw [arrV_size, zn_nat hx1]; omega⟩ g1 (fun q h => by rw [g3] at h; cases h) (by rw [g2]; exact hkC) (by rw [g2]; exact va_assign hcls) rfl rfl hdg (fun H1 he hsz hq => ?_)
      rw [zn_nat hx1, arrV_store] at he
      exact ih h hF hd5 hsp hT ⟨zHp_pFa (x := some jv) hH hW.2.2.2.1 hi hz hq he, zWf_pF hW (by unfold ztf; rw [if_neg h12]; exact hjv) (by rcases zek_4 hz with rfl | rfl | rfl <;> decide), hk, hc, hs, hL, hlv, hsv, hB, hS.put hsz hq (hW.2.2.2.2.1 t i hm hi)⟩ hag hmo hR hret
    case new idx => 
      replace hok := zand2 hok; obtain ⟨hlen, hok⟩ := hok; have hlen := Nat.eq_of_beq_eq_true hlen; subst hlen
      replace h := zbx h; obtain ⟨hnw, h⟩ := h
      rcases ax with _ | ⟨t, _ | ⟨j, ax⟩⟩ <;> first | (cases hok; done) | skip
      change znw M t = true at hnw
      replace hok := zand2 hok; obtain ⟨h12, hok⟩ := hok
      have h12 := Nat.le_of_ble_eq_true h12
      cases hvw : vwCl[t]? with
      | none => rw [hvw] at hok; cases hok
      | some q =>
        rw [hvw] at hok
        obtain ⟨ty, hC, hpt, -⟩ := zclT hvw
        have hN : q.2.2 = znf t := hC.2.2.2.2
        have hm : zmt t = true := by simp [zmt, show t < 12 from h12]
        have hm2 := zex_mo h
        have hc1 : zcells M0 ≤ zcells M := hmo.2.1
        have hs1 : zslots M0 ≤ zslots M := hmo.2.2.1
        have hc2 : zcells M + 1 ≤ zcells M' := hm2.2.1
        have hs2 : zslots M + znf t ≤ zslots M' := hm2.2.2.1
        have hKn := hs.1 t _ hvw
        obtain ⟨hins, hini2⟩ := zinst hts hvw
        rw [hN] at hins
        refine W.newcK hx hb hown (hts _ (zlk_m hok)) hins hini2 rfl hdg (by omega) (by omega) hKn.2.1 rfl (fun H1 kC hkC e1 z1 o1 => ?_)
        have hborn := u_born ty hts hC.2.1 hKn hkC e1 hC.2.2.1
        have hnx := znx_o M t (znf t)
        obtain ⟨hctx, hold, hnew⟩ := zctx_new (H1 := H1) ⟨hH, hW, hk, hc, hs, hL, hlv, hsv, hB, hS⟩ hnx hm hnw (by omega) (fun z => absurd h12 z) z1 o1 ⟨fun _ => by
          rw [show zrn ρ t (mC M t) H.size t (mC M t) = H.size by unfold zrn; rw [if_pos ⟨rfl, rfl⟩]]
          rw [hN] at hborn
          refine hborn.to (fun k hk2 => ?_)
          have hp := hpt k (by rw [hN]; exact hk2)
          obtain ⟨f1, f2, f3⟩ := hnx.2.1 k
          unfold zfv
          rcases hp with ⟨z, hty⟩ | ⟨z, hty⟩ | ⟨z, hty⟩ | ⟨z | z, hty⟩ <;> rw [z]
          · show _ = Value.int (Int32.ofInt (mI (pNew M t (znf t)) t (mC M t) k)); rw [hty, f1]; rfl
          · show _ = Value.int (Int32.ofInt (mI (pNew M t (znf t)) t (mC M t) k)); rw [hty, f1]; rfl
          · show _ = Value.long (Int64.ofInt (mL (pNew M t (znf t)) t (mC M t) k)); rw [hty, f2]; rfl
          · show _ = va_rf ((mF (pNew M t (znf t)) t (mC M t) k).map _); rw [(hty none).2.2, f3]; rfl
          · show _ = va_rf ((zrg (mR M) (zfp t k).2.2).map _)
            rw [(hty none).2.2]
            have w6 := hW.2.2.2.2.2.1
            rcases zfp_4 t h12 k hk2 z with ⟨a1, a2, w⟩ | ⟨a1, a2, w⟩ | ⟨a1, a2, w⟩ | ⟨a1, a2, w⟩ <;> (rw [w]; subst a1; have h0 := Nat.eq_of_beq_eq_true hnw)
            · rw [(w6.2.2.1 h0).1]; rfl
            · rw [(w6.2.2.1 h0).2]; rfl
            · rw [w6.1 h0]; rfl
            · rw [w6.2.1 h0]; rfl, fun z => absurd h12 z⟩
        have e1 : zcells M - zcells M0 + 1 = zcells (pNew M t (znf t)) - zcells M0 := by show _ = zcells M + 1 - zcells M0; omega
        have e2 : zslots M - zslots M0 + znf t = zslots (pNew M t (znf t)) - zslots M0 := by show _ = zslots M + znf t - zslots M0; omega
        have e3 : Value.ref H.size :: st.map (zcv ρ) = (.inr (.inr (t, some (mC M t))) :: st : List ZV).map (zcv (zrn ρ t (mC M t) H.size)) := by
          rw [List.map_cons, zmap_same hold hsv]
          show _ = va_rf (some _) :: _
          rw [hnew]
          rfl
        show W p l e R s m args below meth c H1 locs _ _ Q (F0 m (pc + 3) lsC (Value.ref H.size :: st.map (zcv ρ)))
        rw [e1, e2, e3]
        exact ih h hF hd5 hsp hT hctx ⟨fun t' i' hi' => by rw [hold t' i' (Nat.lt_of_lt_of_le hi' (hmo.1 t'))]; exact hag.1 t' i' hi', (zrn_102 hm).trans hag.2⟩ (zmo_tr hmo (zmo_new M _ _)) hR hret
    case newarray aty => 
      replace hok := zand2 hok; obtain ⟨hok, h104⟩ := hok
      replace hok := zand2 hok; obtain ⟨hok, hz3⟩ := hok
      replace hok := zand2 hok; obtain ⟨hlen, hok⟩ := hok; have hlen := Nat.eq_of_beq_eq_true hlen; subst hlen
      have hok := Nat.eq_of_beq_eq_true hok
      have h104 := Nat.le_of_ble_eq_true h104
      have hz3 := Nat.le_of_ble_eq_true hz3
      rcases st with _ | ⟨x | x | x, r⟩ <;> first | (cases h; done) | skip
      replace hsv := List.forall_mem_cons.mp hsv; obtain ⟨hx1, hsv⟩ := hsv
      replace h := zgd h; obtain ⟨hbd, h⟩ := h
      generalize zhd ax = t at *
      have hm2 := zex_mo h
      have hc1 : zcells M0 ≤ zcells M := hmo.2.1
      have hs1 : zslots M0 ≤ zslots M := hmo.2.2.1
      have hc2 : zcells M + 1 ≤ zcells M' := hm2.2.1
      have hs2 : zslots M + x.toNat ≤ zslots M' := hm2.2.2.1
      have hnx := znx_a M t x.toNat x.toNat
      have hnl := znx_len M t x.toNat x.toNat
      obtain ⟨hm, h12⟩ := zmt_a (t := t) (by omega)
      have hty := zty_of hz3
      have hRA := (zks_at hs h104).2
      obtain ⟨ty, haty, hty2, harr, hdef, hcb⟩ : ∃ ty, newarray.typeOf aty = ty ∧ zty t = ty ∧ (Jvm.Cond.arrayClass ty).before args s = true ∧ (∀ j, zav (zrn ρ t (mC M t) H.size) (pNew (pLen M t (mC M t) x.toNat) t x.toNat) t (mC M t) j = defaultValue ty) ∧ componentBytes ty ≤ 8 ∧ va_RA s (aC t) ty = (s.vm.findClass ("[" ++ ty.toString) = some (aC t)) := by
        rcases zatx hok hz3 with ⟨e, z⟩ | ⟨e, z⟩ | ⟨e, z⟩ | ⟨e, z⟩ <;> subst e
        · exact ⟨.int, rfl, hty.1 z, hts _ (by decide +kernel), fun j => by unfold zav; rw [z, (hnx.2.1 j).1]; rfl, by decide, rfl⟩
        · exact ⟨.long, rfl, hty.2.1 z, hts _ (by decide +kernel), fun j => by unfold zav; rw [z, (hnx.2.1 j).2.1]; rfl, by decide, rfl⟩
        · exact ⟨.byte, rfl, hty.2.2.1 z, hts _ (by decide +kernel), fun j => by unfold zav; rw [z, (hnx.2.1 j).1]; rfl, by decide, rfl⟩
        · exact ⟨.boolean, rfl, hty.2.2.2 z, hts _ (by decide +kernel), fun j => by unfold zav; rw [z, (hnx.2.1 j).1]; rfl, by decide, rfl⟩
      rw [hty2, hcb.2] at hRA
      subst haty
      refine va_newaK (N := x.toNat) hx hb harr rfl hdg rfl (fun z => by rw [zn_lt0 hx1] at z; omega) (zn_nat hx1) (by have := hcb.1; have h8 : x.toNat * componentBytes (newarray.typeOf aty) ≤ x.toNat * 8 := Nat.mul_le_mul_left _ this; omega) (by omega) (by omega) rfl (fun H1 cA e1 z1 o1 _ hNm => ?_)
      have hcA : cA = aC t := Option.some.inj (hNm.symm.trans hRA)
      subst hcA
      obtain ⟨hctx, hold, hnew⟩ := zctx_new (H1 := H1) (st := r) ⟨hH, hW, hk, hc, hs, hL, hlv, hsv, hB, hS⟩ hnx hm (znw_a h12) h104 (fun _ => by rw [hnl]; omega) z1 o1 ⟨fun z => absurd z h12, fun _ => by
        rw [show zrn ρ t (mC M t) H.size t (mC M t) = H.size by unfold zrn; rw [if_pos ⟨rfl, rfl⟩], hnl, e1]
        exact congrArg some (arrV_cg fun j _ => (hdef j).symm)⟩
      have e1 : zcells M - zcells M0 + 1 = zcells (pNew (pLen M t (mC M t) x.toNat) t x.toNat) - zcells M0 := by show _ = zcells M + 1 - zcells M0; omega
      have e2 : zslots M - zslots M0 + x.toNat = zslots (pNew (pLen M t (mC M t) x.toNat) t x.toNat) - zslots M0 := by show _ = zslots M + x.toNat - zslots M0; omega
      have e3 : Value.ref H.size :: r.map (zcv ρ) = (.inr (.inr (t, some (mC M t))) :: r : List ZV).map (zcv (zrn ρ t (mC M t) H.size)) := by
        rw [List.map_cons, zmap_same hold hsv]
        show _ = va_rf (some _) :: _
        rw [hnew]
        rfl
      show W p l e R s m args below meth c H1 locs _ _ Q (F0 m (pc + 2) lsC (Value.ref H.size :: r.map (zcv ρ)))
      rw [e1, e2, e3]
      exact ih h hF hd5 hsp hT hctx ⟨fun t' i' hi' => by rw [hold t' i' (Nat.lt_of_lt_of_le hi' (hmo.1 t'))]; exact hag.1 t' i' hi', (zrn_102 hm).trans hag.2⟩ (zmo_tr hmo (zmo_newl M _ _ _ _)) hR hret
    case anewarray idx => 
      replace hok := zand2 hok; obtain ⟨hok, h104⟩ := hok
      replace hok := zand2 hok; obtain ⟨hlen, hok⟩ := hok; have hlen := Nat.eq_of_beq_eq_true hlen; subst hlen
      have h104 := Nat.le_of_ble_eq_true h104
      rcases st with _ | ⟨x | x | x, r⟩ <;> first | (cases h; done) | skip
      replace hsv := List.forall_mem_cons.mp hsv; obtain ⟨hx1, hsv⟩ := hsv
      rcases ax with _ | ⟨t, _ | ⟨j, ax⟩⟩ <;> first | (cases hok; done) | skip
      change Nat.succ t ≤ 104 at h104
      replace hok := zand2 hok; obtain ⟨hz, hok⟩ := hok
      have hz := Nat.eq_of_beq_eq_true hz
      replace h := zgd h; obtain ⟨hbd, h⟩ := h
      change zex zG d tab (pc + 3) ls (.inr (.inr (t, some (mC M t))) :: r) (pNew (pLen M t (mC M t) x.toNat) t x.toNat) n = some (rr, M') at h
      have hm2 := zex_mo h
      have hc1 : zcells M0 ≤ zcells M := hmo.2.1
      have hs1 : zslots M0 ≤ zslots M := hmo.2.2.1
      have hc2 : zcells M + 1 ≤ zcells M' := hm2.2.1
      have hs2 : zslots M + x.toNat ≤ zslots M' := hm2.2.2.1
      have hnx := znx_a M t x.toNat x.toNat
      have hnl := znx_len M t x.toNat x.toNat
      obtain ⟨hm, h12⟩ := zmt_a (t := t) (by omega)
      obtain ⟨C0, hty, hov⟩ : ∃ C0, zty t = .object C0 ∧ (Jvm.Cond.arrayOver (.object C0)).before args s = true := by rcases zek_4 hz with rfl | rfl | rfl <;> exact ⟨_, rfl, hts _ (by decide +kernel)⟩
      rw [hty] at hok
      have hRA := (zks_at hs h104).2
      rw [hty] at hRA
      obtain ⟨kA0, comp0, k1, k2, k3, k4⟩ := hRA
      refine W.anew hx hb hown (hts _ (zlk_m hok)) hov rfl hdg rfl (fun z => by rw [zn_lt0 hx1] at z; omega) (by rw [zn_nat hx1]; omega) (by omega) (by rw [zn_nat hx1]; omega) (fun cA kA comp f1 f2 f3 f4 => ?_)
      rw [zn_nat hx1]
      have hcA : cA = aC t := Option.some.inj (f1.symm.trans k4)
      subst hcA
      generalize hH1 : H.push ({ cls := aC t, slots := Array.replicate x.toNat .null, vm := .none } : Cell) = H1
      have z1 : H1.size = H.size + 1 := by rw [← hH1, Array.size_push]
      have e1 : H1[H.size]? = some (arrV (aC t) x.toNat (fun _ => .null)) := by rw [← hH1, Array.getElem?_push_size, ← arrV_new]
      have o1 : ∀ q : Nat, q < H.size → H1[q]? = H[q]? := fun q hq => by rw [← hH1, Array.getElem?_push, if_neg (Nat.ne_of_lt hq)]
      obtain ⟨hctx, hold, hnew⟩ := zctx_new (H1 := H1) (st := r) ⟨hH, hW, hk, hc, hs, hL, hlv, hsv, hB, hS⟩ hnx hm (znw_a h12) h104 (fun _ => by rw [hnl]; omega) z1 o1 ⟨fun z => absurd z h12, fun _ => by
        rw [show zrn ρ t (mC M t) H.size t (mC M t) = H.size by unfold zrn; rw [if_pos ⟨rfl, rfl⟩], hnl, e1]
        exact congrArg some (arrV_cg fun j _ => by unfold zav; rw [hz, (hnx.2.1 j).2.2]; rfl)⟩
      have e1 : zcells M - zcells M0 + 1 = zcells (pNew (pLen M t (mC M t) x.toNat) t x.toNat) - zcells M0 := by show _ = zcells M + 1 - zcells M0; omega
      have e2 : zslots M - zslots M0 + x.toNat = zslots (pNew (pLen M t (mC M t) x.toNat) t x.toNat) - zslots M0 := by show _ = zslots M + x.toNat - zslots M0; omega
      have e3 : Value.ref H.size :: r.map (zcv ρ) = (.inr (.inr (t, some (mC M t))) :: r : List ZV).map (zcv (zrn ρ t (mC M t) H.size)) := by
        rw [List.map_cons, zmap_same hold hsv]
        show _ = va_rf (some _) :: _
        rw [hnew]
        rfl
      show W p l e R s m args below meth c H1 locs _ _ Q (F0 m (pc + 3) lsC (Value.ref H.size :: r.map (zcv ρ)))
      rw [e1, e2, e3]
      exact ih h hF hd5 hsp hT hctx ⟨fun t' i' hi' => by rw [hold t' i' (Nat.lt_of_lt_of_le hi' (hmo.1 t'))]; exact hag.1 t' i' hi', (zrn_102 hm).trans hag.2⟩ (zmo_tr hmo (zmo_newl M _ _ _ _)) hR hret
    case invokevirtual idx => 
      replace hok := zand2 hok; obtain ⟨hlen, hok⟩ := hok; have hlen := Nat.eq_of_beq_eq_true hlen; subst hlen
      replace hok := zokc_x hok
      rcases hok with ⟨mi, n0, j, ar, q, rfl, hk2, -⟩ | ⟨mi, n0, j, nest, tg, ar, q, c0, rfl, hq, hst2, h12, hpd, hn0, hvw, hcls, hlk, ⟨hk2, hni⟩ | ⟨hk2, -⟩⟩ | ⟨a, b, j, ar, rfl, hk2, -⟩ | ⟨a, b, j, ar, rfl, hk2, -⟩ | ⟨a, b, j, ar, rfl, -, hlk⟩ | ⟨a, b, j, ar, rfl, hk2, -⟩ | ⟨a, b, j, ar, rfl, hk2, -⟩ | ⟨a, b, j, ar, rfl, hk2, -⟩ | ⟨a, b, j, ar, rfl, hk2, -⟩ <;> first | (cases hk2; done) | skip
      · have hlk := hlk.resolve_right (fun z => by cases z.2)
        cases hpo : zpo n0 [] st with
        | none => simp only [zst, ziv, hpo] at h; cases h
        | some w =>
          obtain ⟨as, rest⟩ := w
          rcases as with _ | ⟨x0 | x0 | ⟨t0, _ | i0⟩, as⟩ <;> simp only [zst, ziv, hpo] at h <;> first | (cases h; done) | skip
          replace h := zbx h; obtain ⟨hlr, h⟩ := h
          replace hlr := zand2 hlr; obtain ⟨ht0, hlr⟩ := hlr
          have ht0 := Nat.eq_of_beq_eq_true ht0
          subst ht0
          replace h := zcx h; obtain ⟨d', tab2, nl2, rv, M2, hd, hg, hsz, he, h⟩ := h
          obtain ⟨hot, hnl2, hom⟩ := zckm_x (hck mi tab2 nl2 hg) hq
          obtain ⟨y2, cc2, nl3, ret2, st2, js⟩ := q
          change nl3 = nl2 at hnl2
          subst hnl2
          obtain ⟨w1, w2, w3, w4, w5, w6, w7, w8, w9⟩ := zokm_x hom
          obtain ⟨pre, has, hst, hpl⟩ := zpo_spec hpo
          rw [List.append_nil] at has
          subst has
          have hv : ∀ v, v ∈ (.inr (.inr (t0, some i0)) :: as : List ZV) → zvl M v := fun v hv => hsv v (by rw [hst]; exact List.mem_append_left _ (List.mem_reverse.mpr hv))
          have hi0 : i0 < mC M t0 := hv _ List.mem_cons_self i0 rfl
          change as.length + 1 = n0 at hpl
          have hpd2 : (parseMethodDescriptor y2.desc).map (fun d => d.parameters.length) = some as.length := by rw [show as.length = n0 - 1 by omega]; exact hpd
          have hcat := zcat_sum ρ rest
          have hlr := Nat.le_of_ble_eq_true hlr
          have hm1 := zex_mo he
          have hm2 := zex_mo h
          have c1 : zcells M0 ≤ zcells M := hmo.2.1
          have c2 : zcells M ≤ zcells M2 := hm1.2.1
          have c3 : zcells M2 ≤ zcells M' := hm2.2.1
          have c4 : zslots M0 ≤ zslots M := hmo.2.2.1
          have c5 : zslots M ≤ zslots M2 := hm1.2.2.1
          have c6 : zslots M2 ≤ zslots M' := hm2.2.2.1
          have hR3 := hR.2.2.1
          have hR4 := hR.2.2.2
          have hR1 := hR.1
          have hR2 := hR.2.1
          have hstk : st.map (zcv ρ) = (as.map (zcv ρ)).reverse ++ Value.ref (ρ t0 i0) :: rest.map (zcv ρ) := by
            rw [hst, List.map_append, List.map_reverse, List.map_cons, List.reverse_cons, List.append_assoc]
            rfl
          refine zafter ih h hF hd5 hsp hT ⟨hH, hW, hk, hc, hs, hL, hlv, fun v hv => hsv v (by rw [hst]; exact List.mem_append_right _ hv), hB, hS⟩ hag hmo hm1 hR hret (a := (Value.ref (ρ t0 i0) :: as.map (zcv ρ)).toArray) ?_
          have hcell : ∃ cellB : Cell, H[ρ t0 i0]? = some cellB ∧ cellB.vm.isStatics = false ∧ s.vm.findClass c0.1 = some cellB.cls := by
            obtain ⟨cell, k1, k2, k3, -⟩ := (hH t0 i0 (by simp [zmt, h12]) hi0).1 h12
            exact ⟨cell, k1, by rw [k3]; rfl, by rw [k2]; exact (hs.1 t0 c0 hvw).2.1⟩
          change y2.cls = c0.1 at hcls
          obtain ⟨w10, w11⟩ := w9 hst2
          exact va_runV (C := c0.1) (Ts := lw_tz) (own := y.cls) (cc := cc) (nL := nl) (g := F0 m pc lsC (st.map (zcv ρ))) (b := ρ t0 i0) (As := as.map (zcv ρ)) (n := as.length) ⟨hx, hb, hml, hown, hts⟩ (zMet ih he hot w4 w7 hsz hW hk hv) (cwV as.length hts (zgood (fun w hw => by
            rcases List.mem_append.mp hw with z | z
            · simp only [List.mem_cons, List.not_mem_nil, or_false] at z
              rcases z with rfl | rfl | rfl | rfl
              · exact ⟨zlk_m hlk, rfl⟩
              · exact ⟨w10, rfl⟩
              · exact ⟨by rw [← hcls]; exact w11 hni, rfl⟩
              · exact ⟨by rw [← hcls]; exact w2, rfl⟩
            · rcases List.mem_cons.mp z with rfl | z
              · exact ⟨w1, rfl⟩
              · exact List.mem_filter.mp z)) rfl rfl rfl ⟨hcls, w5, w6, hpd2⟩ ⟨show d' + 1 + 1 ≤ R.frames by omega, show 8 + (nl3 + 11) + (64 * d' + 200) ≤ R.locals by omega⟩) ⟨zPc_blind, hcell, (zpre (as := .inr (.inr (t0, some i0)) :: as) hH hc hs hts hB hS)⟩ rfl (List.length_map _) hL.1 hstk (show 2 * 0 + ((rest.map (zcv ρ)).map fun v => v.category).sum ≤ 8 by omega) hdg ⟨show zcells M - zcells M0 + (zcells M2 - zcells M) ≤ R.cells by omega, show zslots M - zslots M0 + (zslots M2 - zslots M) ≤ R.slots by omega⟩
      · rcases st with _ | ⟨x1 | x1 | ⟨t1, _ | i1⟩, r⟩ <;> first | (cases h; done) | skip
        replace hsv := List.forall_mem_cons.mp hsv; obtain ⟨hx1, hsv⟩ := hsv
        replace h := zbx h; obtain ⟨hlr, h⟩ := h
        replace hlr := zand2 hlr; obtain ⟨ht1, hlr⟩ := hlr
        have ht1 := Nat.eq_of_beq_eq_true ht1
        subst ht1
        have hlr := Nat.le_of_ble_eq_true hlr
        have hcat := zcat_sum ρ r
        have hm2 := zex_mo h
        have c1 : zcells M0 ≤ zcells M := hmo.2.1
        have c3 : zcells M ≤ zcells M' := hm2.2.1
        have c4 : zslots M0 ≤ zslots M := hmo.2.2.1
        have c6 : zslots M ≤ zslots M' := hm2.2.2.1
        have hR3 := hR.2.2.1
        have hR4 := hR.2.2.2
        have hR1 := hR.1
        have hR2 := hR.2.1
        have hi1 : i1 < 30 := by have := hx1 i1 rfl; rw [hW.2.2.2.2.2.2.2.1] at this; exact this
        refine h4 hF hL.1 hdg (hts _ (zlk_m hlk)) (by omega) (by omega) (by omega) (by omega) (by omega) hc hB hS hi1 ?_
        change zex zG d tab (pc + 3) ls (.inl (mKI M 12 i1 2) :: r) M n = some (rr, M') at h
        rw [hk.1] at h
        exact ih h hF hd5 hsp hT ⟨hH, hW, hk, hc, hs, hL, hlv, List.forall_mem_cons.mpr ⟨by rw [← hk.1]; exact (hW.1 12 i1 2).2.2.1 (fun _ => hi1), hsv⟩, hB, hS⟩ hag hmo hR hret
    case invokespecial idx => 
      replace hok := zand2 hok; obtain ⟨hlen, hok⟩ := hok; have hlen := Nat.eq_of_beq_eq_true hlen; subst hlen
      replace hok := zokc_x hok
      rcases hok with ⟨mi, n0, j, ar, q, rfl, hk2, -⟩ | ⟨mi, n0, j, nest, tg, ar, q, c0, rfl, hq, hst2, h12, hpd, hn0, hvw, hcls, hlk, ⟨hk2, -⟩ | ⟨-, hni, hrn⟩⟩ | ⟨a, b, j, ar, rfl, -, hlk⟩ | ⟨a, b, j, ar, rfl, hk2, -⟩ | ⟨a, b, j, ar, rfl, hk2, -⟩ | ⟨a, b, j, ar, rfl, hk2, -⟩ | ⟨a, b, j, ar, rfl, hk2, -⟩ | ⟨a, b, j, ar, rfl, hk2, -⟩ | ⟨a, b, j, ar, rfl, hk2, -⟩ <;> first | (cases hk2; done) | skip
      · skip
        cases hpo : zpo n0 [] st with
        | none => simp only [zst, ziv, hpo] at h; cases h
        | some w =>
          obtain ⟨as, rest⟩ := w
          rcases as with _ | ⟨x0 | x0 | ⟨t0, _ | i0⟩, as⟩ <;> simp only [zst, ziv, hpo] at h <;> first | (cases h; done) | skip
          replace h := zbx h; obtain ⟨hlr, h⟩ := h
          replace hlr := zand2 hlr; obtain ⟨ht0, hlr⟩ := hlr
          have ht0 := Nat.eq_of_beq_eq_true ht0
          subst ht0
          replace h := zcx h; obtain ⟨d', tab2, nl2, rv, M2, hd, hg, hsz, he, h⟩ := h
          obtain ⟨hot, hnl2, hom⟩ := zckm_x (hck mi tab2 nl2 hg) hq
          obtain ⟨y2, cc2, nl3, ret2, st2, js⟩ := q
          change nl3 = nl2 at hnl2
          subst hnl2
          obtain ⟨w1, w2, w3, w4, w5, w6, w7, w8, w9⟩ := zokm_x hom
          obtain ⟨pre, has, hst, hpl⟩ := zpo_spec hpo
          rw [List.append_nil] at has
          subst has
          have hv : ∀ v, v ∈ (.inr (.inr (t0, some i0)) :: as : List ZV) → zvl M v := fun v hv => hsv v (by rw [hst]; exact List.mem_append_left _ (List.mem_reverse.mpr hv))
          have hi0 : i0 < mC M t0 := hv _ List.mem_cons_self i0 rfl
          change as.length + 1 = n0 at hpl
          have hpd2 : (parseMethodDescriptor y2.desc).map (fun d => d.parameters.length) = some as.length := by rw [show as.length = n0 - 1 by omega]; exact hpd
          have hcat := zcat_sum ρ rest
          have hlr := Nat.le_of_ble_eq_true hlr
          have hm1 := zex_mo he
          have hm2 := zex_mo h
          have c1 : zcells M0 ≤ zcells M := hmo.2.1
          have c2 : zcells M ≤ zcells M2 := hm1.2.1
          have c3 : zcells M2 ≤ zcells M' := hm2.2.1
          have c4 : zslots M0 ≤ zslots M := hmo.2.2.1
          have c5 : zslots M ≤ zslots M2 := hm1.2.2.1
          have c6 : zslots M2 ≤ zslots M' := hm2.2.2.1
          have hR3 := hR.2.2.1
          have hR4 := hR.2.2.2
          have hR1 := hR.1
          have hR2 := hR.2.1
          have hstk : st.map (zcv ρ) = (as.map (zcv ρ)).reverse ++ Value.ref (ρ t0 i0) :: rest.map (zcv ρ) := by
            rw [hst, List.map_append, List.map_reverse, List.map_cons, List.reverse_cons, List.append_assoc]
            rfl
          refine zafter ih h hF hd5 hsp hT ⟨hH, hW, hk, hc, hs, hL, hlv, fun v hv => hsv v (by rw [hst]; exact List.mem_append_right _ hv), hB, hS⟩ hag hmo hm1 hR hret (a := (Value.ref (ρ t0 i0) :: as.map (zcv ρ)).toArray) ?_
          obtain ⟨w10, w11⟩ := w9 hst2
          change ret2 = none at hrn
          subst hrn
          change y2.name = "<init>" at hni
          have hgw : GoodIn lw_tz (Jvm.Cond.code y2 cc2 nl3 none :: lw_tz.filter zgdw) := zgood (fun w hw => by
            rcases List.mem_cons.mp hw with rfl | z
            · exact ⟨w1, rfl⟩
            · exact List.mem_filter.mp z)
          rcases hlk with hlk | ⟨hlk, -⟩
          · exact va_runI (Ts := lw_tz) (own := y.cls) (cc := cc) (nL := nl) (g := F0 m pc lsC (st.map (zcv ρ))) (b := ρ t0 i0) (As := as.map (zcv ρ)) (n := as.length) ⟨hx, hb, hml, hown, hts⟩ (zMet ih he hot w4 w7 hsz hW hk hv) (cwI as.length hts hgw rfl rfl rfl (hts _ w2) (hts _ (zlk_m hlk)) (hts _ w10) hni ⟨w5, w6, hpd2⟩ ⟨show d' + 1 + 1 ≤ R.frames by omega, show 8 + (nl3 + 11) + (64 * d' + 200) ≤ R.locals by omega⟩) ⟨zPc_blind, (zpre (as := .inr (.inr (t0, some i0)) :: as) hH hc hs hts hB hS)⟩ rfl (List.length_map _) hL.1 hstk (show 2 * 0 + ((rest.map (zcv ρ)).map fun v => v.category).sum ≤ 8 by omega) hdg ⟨show zcells M - zcells M0 + (zcells M2 - zcells M) ≤ R.cells by omega, show zslots M - zslots M0 + (zslots M2 - zslots M) ≤ R.slots by omega⟩
          · exact va_runIN (host := "WakePark") (Ts := lw_tz) (own := y.cls) (cc := cc) (nL := nl) (g := F0 m pc lsC (st.map (zcv ρ))) (b := ρ t0 i0) (As := as.map (zcv ρ)) (n := as.length) ⟨hx, hb, hml, hown, hts⟩ (zMet ih he hot w4 w7 hsz hW hk hv) ⟨va_cnB as.length hts hgw rfl rfl rfl (va_tabs rfl rfl (hts _ (zlk_m hlk))) (hts _ w2) ⟨w5, w6, hpd2⟩ ⟨show d' + 1 + 1 ≤ R.frames by omega, show 8 + (nl3 + 11) + (64 * d' + 200) ≤ R.locals by omega⟩, hni, hts _ w10⟩ ⟨zPc_blind, (zpre (as := .inr (.inr (t0, some i0)) :: as) hH hc hs hts hB hS)⟩ rfl (List.length_map _) hL.1 hstk (show 2 * 0 + ((rest.map (zcv ρ)).map fun v => v.category).sum ≤ 8 by omega) hdg ⟨show zcells M - zcells M0 + (zcells M2 - zcells M) ≤ R.cells by omega, show zslots M - zslots M0 + (zslots M2 - zslots M) ≤ R.slots by omega⟩
      · rcases st with _ | ⟨x1 | x1 | ⟨t1, _ | i1⟩, r⟩ <;> first | (cases h; done) | skip
        replace hsv := List.forall_mem_cons.mp hsv; obtain ⟨hx1, hsv⟩ := hsv
        replace h := zbx h; obtain ⟨hlr, h⟩ := h
        have hlr := Nat.le_of_ble_eq_true hlr
        have hcat := zcat_sum ρ r
        have hR1 := hR.1
        have hR2 := hR.2.1
        refine W.objInit hx hb hown (hts _ (zlk_m hlk)) (hts _ (by decide +kernel)) (hts _ (by decide +kernel)) (g := F0 m pc lsC (Value.ref (ρ t1 i1) :: r.map (zcv ρ))) rfl (hL.1.trans hml.symm) (rest := r.map (zcv ρ)) rfl hdg (by omega) (show 2 * 0 + ((r.map (zcv ρ)).map fun v => v.category).sum + 12 ≤ R.locals by omega) ?_
        exact ih h hF hd5 hsp hT ⟨hH, hW, hk, hc, hs, hL, hlv, hsv, hB, hS⟩ hag hmo hR hret
    case invokestatic idx => 
      replace hok := zand2 hok; obtain ⟨hlen, hok⟩ := hok; have hlen := Nat.eq_of_beq_eq_true hlen; subst hlen
      replace hok := zokc_x hok
      rcases hok with ⟨mi, n0, j, ar, q, rfl, -, hq, hst2, hlk, hpd⟩ | ⟨mi, n0, j, nest, tg, ar, q, c0, rfl, -, -, -, -, -, -, -, -, ⟨hk2, -⟩ | ⟨hk2, -⟩⟩ | ⟨a, b, j, ar, rfl, hk2, -⟩ | ⟨a, b, j, ar, rfl, -, hlk⟩ | ⟨a, b, j, ar, rfl, hk2, -⟩ | ⟨a, b, j, ar, rfl, -, hlk, hown5⟩ | ⟨a, b, j, ar, rfl, -, hlk⟩ | ⟨a, b, j, ar, rfl, -, hlk⟩ | ⟨a, b, j, ar, rfl, -, hlk⟩ <;> first | (cases hk2; done) | skip
      · cases hpo : zpo n0 [] st with
        | none => simp only [zst, ziv, hpo] at h; cases h
        | some w =>
          obtain ⟨as, rest⟩ := w
          simp only [zst, ziv, hpo] at h
          replace h := zbx h; obtain ⟨hlr, h⟩ := h
          replace h := zcx h; obtain ⟨d', tab2, nl2, rv, M2, hd, hg, hsz, he, h⟩ := h
          obtain ⟨hot, hnl2, hom⟩ := zckm_x (hck mi tab2 nl2 hg) hq
          obtain ⟨y2, cc2, nl3, ret2, st2, js⟩ := q
          change nl3 = nl2 at hnl2
          subst hnl2
          obtain ⟨w1, w2, w3, w4, w5, w6, w7, w8, w9⟩ := zokm_x hom
          obtain ⟨pre, has, hst, hpl⟩ := zpo_spec hpo
          rw [List.append_nil] at has
          subst has
          have hv : ∀ v, v ∈ as → zvl M v := fun v hv => hsv v (by rw [hst]; exact List.mem_append_left _ (List.mem_reverse.mpr hv))
          have hcat := zcat_sum ρ rest
          have hlr := Nat.le_of_ble_eq_true hlr
          have hm1 := zex_mo he
          have hm2 := zex_mo h
          have c1 : zcells M0 ≤ zcells M := hmo.2.1
          have c2 : zcells M ≤ zcells M2 := hm1.2.1
          have c3 : zcells M2 ≤ zcells M' := hm2.2.1
          have c4 : zslots M0 ≤ zslots M := hmo.2.2.1
          have c5 : zslots M ≤ zslots M2 := hm1.2.2.1
          have c6 : zslots M2 ≤ zslots M' := hm2.2.2.1
          have hR3 := hR.2.2.1
          have hR4 := hR.2.2.2
          have hR1 := hR.1
          have hR2 := hR.2.1
          refine zafter ih h hF hd5 hsp hT ⟨hH, hW, hk, hc, hs, hL, hlv, fun v hv => hsv v (by rw [hst]; exact List.mem_append_right _ hv), hB, hS⟩ hag hmo hm1 hR hret (a := (as.map (zcv ρ)).toArray) ?_
          exact va_runS (Ts := lw_tz) (own := y.cls) (cc := cc) (nL := nl) (g := F0 m pc lsC (st.map (zcv ρ))) (As := as.map (zcv ρ)) (n := n0) ⟨hx, hb, hml, hown, hts⟩ (zMet ih he hot w4 w7 hsz hW hk hv) (va_cwS n0 hts (zgood (fun w hw => by
            rcases List.mem_append.mp hw with z | z
            · simp only [List.mem_cons, List.not_mem_nil, or_false] at z
              rcases z with rfl | rfl | rfl
              · exact ⟨zlk_m hlk, rfl⟩
              · exact ⟨w8 hst2, rfl⟩
              · exact ⟨w2, rfl⟩
            · rcases List.mem_cons.mp z with rfl | z
              · exact ⟨w1, rfl⟩
              · exact List.mem_filter.mp z)) rfl rfl rfl ⟨w5, w6, hpd⟩ ⟨show d' + 1 + 1 ≤ R.frames by omega, show 8 + (nl3 + 11) + (64 * d' + 200) ≤ R.locals by omega⟩) ⟨zPc_blind, zpre hH hc hs hts hB hS⟩ rfl (by rw [List.length_map]; exact hpl) hL.1 (by show st.map (zcv ρ) = _; rw [hst, List.map_append, List.map_reverse]) (show 2 * 0 + ((rest.map (zcv ρ)).map fun v => v.category).sum ≤ 8 by omega) hdg ⟨show zcells M - zcells M0 + (zcells M2 - zcells M) ≤ R.cells by omega, show zslots M - zslots M0 + (zslots M2 - zslots M) ≤ R.slots by omega⟩
      · rcases st with _ | ⟨n1 | n1 | n1, _ | ⟨dp | dp | dp, _ | ⟨x2 | x2 | ⟨t2, _ | i2⟩, _ | ⟨s0 | s0 | s0, _ | ⟨x1 | x1 | ⟨t1, _ | i1⟩, r⟩⟩⟩⟩⟩ <;> first | (cases h; done) | skip
        replace hsv := List.forall_mem_cons.mp hsv; obtain ⟨hn1, hsv⟩ := hsv
        replace hsv := List.forall_mem_cons.mp hsv; obtain ⟨hdp, hsv⟩ := hsv
        replace hsv := List.forall_mem_cons.mp hsv; obtain ⟨hx2, hsv⟩ := hsv
        replace hsv := List.forall_mem_cons.mp hsv; obtain ⟨hs0, hsv⟩ := hsv
        replace hsv := List.forall_mem_cons.mp hsv; obtain ⟨hx1, hsv⟩ := hsv
        have hi1 : i1 < mC M t1 := hx1 i1 rfl
        have hi2 : i2 < mC M t2 := hx2 i2 rfl
        replace h := zbx h; obtain ⟨hlr, h⟩ := h
        have hlr := Nat.le_of_ble_eq_true hlr
        replace h := zemx h; rcases h with ⟨hz1, h⟩ | ⟨_, h⟩ | ⟨_, h⟩ | ⟨_, h⟩ | ⟨_, h⟩ | ⟨_, h⟩ | ⟨_, h⟩ <;> first | (cases h; done) | skip
        replace h := zemx h; rcases h with ⟨hz2, h⟩ | ⟨_, h⟩ | ⟨_, h⟩ | ⟨_, h⟩ | ⟨_, h⟩ | ⟨_, h⟩ | ⟨_, h⟩ <;> first | (cases h; done) | skip
        replace h := zgd h; obtain ⟨hbd, h⟩ := h
        obtain ⟨m1, g1⟩ := zmt_a (t := t1) (by omega)
        obtain ⟨m2, g2⟩ := zmt_a (t := t2) (by omega)
        have h1104 : t1 < 104 := by rcases Nat.lt_or_ge t1 104 with z | z <;> first | exact z | (have := hW.2.2.2.2.2.2.2.2.2.2.2.2.2.2 t1 z; omega)
        have h2104 : t2 < 104 := by rcases Nat.lt_or_ge t2 104 with z | z <;> first | exact z | (have := hW.2.2.2.2.2.2.2.2.2.2.2.2.2.2 t2 z; omega)
        have e1 : H[ρ t1 i1]? = some (arrV (aC t1) (mN M t1 i1) (fun j => .int (Int32.ofInt (mI M t1 i1 j)))) := by rw [(hH t1 i1 m1 hi1).2 g1]; exact congrArg some (arrV_cg fun j _ => by unfold zav; rw [hz1]; rfl)
        have e2 : H[ρ t2 i2]? = some (arrV (aC t2) (mN M t2 i2) (fun j => .int (Int32.ofInt (mI M t2 i2 j)))) := by rw [(hH t2 i2 m2 hi2).2 g2]; exact congrArg some (arrV_cg fun j _ => by unfold zav; rw [hz2]; rfl)
        have y1 := (zks_at hs h1104).1
        rw [(zty_of (t := t1) (by omega)).1 hz1] at y1
        have y2 := (zks_at hs h2104).1
        rw [(zty_of (t := t2) (by omega)).1 hz2] at y2
        have hcat := zcat_sum ρ r
        have hR1 := hR.1
        have hR2 := hR.2.1
        have hnw : nativeFrameWords "java/lang/System" "arraycopy" 5 + 11 ≤ 100 := by decide +kernel
        refine zw_copy hx hb (hml.trans hL.1.symm) hown (hts _ (zlk_m hlk)) (hts _ (by decide +kernel)) (hts _ (by decide +kernel)) (hts _ (by decide +kernel)) e1 e2 y1 y2 (by rw [zn_lt0 hs0]; omega) (by rw [zn_lt0 hdp]; omega) (by rw [zn_lt0 hn1]; omega) (by rw [zn_nat hs0, zn_nat hn1]; omega) (by rw [zn_nat hdp, zn_nat hn1]; omega) (by omega) (by omega) hdg (fun H1 L z1 z2 z3 z4 => ?_)
        rw [zn_nat hs0, zn_nat hdp, zn_nat hn1] at z3
        exact ih h hF hd5 hsp hT ⟨zHp_cp hH hW.2.2.2.1 hi2 hz1 hz2 z2 z3, zWf_cp hW, hk, hc, hs, hL, hlv, hsv, hB, ⟨by rw [z1]; exact hS.1, fun q q1 q2 => by rw [z2 q (fun z => q2 (by rw [z]; exact hW.2.2.2.2.1 t2 i2 m2 hi2))]; exact hS.2.1 q q1 q2, fun q hq => by
          rcases List.mem_append.mp hq with z | z
          · exact hS.2.2 q z
          · rw [z4 q z]; exact hW.2.2.2.2.1 t2 i2 m2 hi2⟩⟩ hag hmo hR hret
      · rcases st with _ | ⟨x2 | x2 | ⟨t2, _ | o2⟩, _ | ⟨p3 | p3 | p3, _ | ⟨p2 | p2 | p2, _ | ⟨p1 | p1 | p1, _ | ⟨p0 | p0 | p0, _ | ⟨x1 | x1 | ⟨t1, _ | o1⟩, r⟩⟩⟩⟩⟩⟩ <;> first | (cases h; done) | skip
        replace hsv := List.forall_mem_cons.mp hsv; obtain ⟨hx2, hsv⟩ := hsv
        replace hsv := List.forall_mem_cons.mp hsv; obtain ⟨hp3, hsv⟩ := hsv
        replace hsv := List.forall_mem_cons.mp hsv; obtain ⟨hp2, hsv⟩ := hsv
        replace hsv := List.forall_mem_cons.mp hsv; obtain ⟨hp1, hsv⟩ := hsv
        replace hsv := List.forall_mem_cons.mp hsv; obtain ⟨hp0, hsv⟩ := hsv
        replace hsv := List.forall_mem_cons.mp hsv; obtain ⟨hx1, hsv⟩ := hsv
        replace h := zbx h; obtain ⟨hlr, h⟩ := h
        obtain ⟨hlr, hlr4⟩ := zand2 hlr
        obtain ⟨hlr, hlr3⟩ := zand2 hlr
        obtain ⟨ht2, ht1⟩ := zand2 hlr
        have hlr4 := Nat.le_of_ble_eq_true hlr4
        have ht2 := Nat.eq_of_beq_eq_true ht2
        have ht1 := Nat.eq_of_beq_eq_true ht1
        have hlr3 := Nat.le_of_ble_eq_true hlr3
        subst ht2; subst ht1
        have hcat := zcat_sum ρ r
        have hd4 := (hd5 hown5).2
        have hR3 := hR.2.2.1
        have hR4 := hR.2.2.2
        have hR1 := hR.1
        have hR2 := hR.2.1
        have c1 : zcells M0 ≤ zcells M := hmo.2.1
        have c4 : zslots M0 ≤ zslots M := hmo.2.2.1
        change (if zrt p0 p1 p2 p3 = 1 then zex zG d tab (pc + 3) ls (.inl 1 :: r) (pCe M 6) n else zex zG d tab (pc + 3) ls (.inl 0 :: r) (pL M 103 o2 0 (zrv p0 p1 p2 p3)) n) = some (rr, M') at h
        by_cases hz : zrt p0 p1 p2 p3 = 1
        · rw [if_pos hz] at h
          have hm2 := zex_mo h
          have c3 : zcells M + 1 ≤ zcells M' := hm2.2.1
          have c6 : zslots M + 6 ≤ zslots M' := hm2.2.2.1
          refine h5 (hd5 hown5).1 hF hL.1 hown5 hdg (hts _ (zlk_m hlk)) hp0 hp1 hp2 hp3 (by omega) (by omega) (by omega) (fun _ => ⟨by omega, by omega⟩) (by omega) (by omega) hH hW hk hc hs hB hS (hx1 _ rfl) (hx2 _ rfl) hlr4 (fun _ H1 L z1 z2 z3 => ?_) (fun z => absurd hz z)
          have e1 : zcells M - zcells M0 + 1 = zcells (pCe M 6) - zcells M0 := by show _ = zcells M + 1 - zcells M0; omega
          have e2 : zslots M - zslots M0 + 6 = zslots (pCe M 6) - zslots M0 := by show _ = zslots M + 6 - zslots M0; omega
          rw [e1, e2]
          exact ih h hF hd5 hsp hT ⟨zHp_ce (n := 6) hH z2, hW, hk, hc, hs, hL, hlv, List.forall_mem_cons.mpr ⟨⟨by decide, by decide⟩, hsv⟩, hB, ⟨Nat.le_trans hS.1 z1, fun q q1 q2 => by rw [z2 q (Nat.lt_of_lt_of_le q1 hS.1)]; exact hS.2.1 q q1 q2, fun q hq => by
            rcases List.mem_append.mp hq with z | z
            · exact hS.2.2 q z
            · exact z3 q z⟩⟩ hag (zmo_tr hmo (zmo_ce M 6)) hR hret
        · rw [if_neg hz] at h
          have hm2 := zex_mo h
          have c3 : zcells M ≤ zcells M' := hm2.2.1
          have c6 : zslots M ≤ zslots M' := hm2.2.2.1
          have ho2 : o2 < mC M 103 := hx2 _ rfl
          refine h5 (hd5 hown5).1 hF hL.1 hown5 hdg (hts _ (zlk_m hlk)) hp0 hp1 hp2 hp3 (by omega) (by omega) (by omega) (fun z => absurd z hz) (by omega) (by omega) hH hW hk hc hs hB hS (hx1 _ rfl) ho2 hlr4 (fun z => absurd z hz) (fun _ H1 L z0 z1 z2 z4 z3 => ?_)
          exact ih h hF hd5 hsp hT ⟨zHp_pLa hH hW.2.2.2.1 ho2 rfl z2 z4, zWf_pL hW z0, hk, hc, hs, hL, hlv, List.forall_mem_cons.mpr ⟨⟨by decide, by decide⟩, hsv⟩, hB, ⟨by rw [z1]; exact hS.1, fun q q1 q2 => by rw [z2 q (fun z => q2 (by rw [z]; exact hW.2.2.2.2.1 103 o2 rfl ho2))]; exact hS.2.1 q q1 q2, fun q hq => by
            rcases List.mem_append.mp hq with z | z
            · exact hS.2.2 q z
            · exact z3 q z⟩⟩ hag hmo hR hret
      · rcases st with _ | ⟨v1 | v1 | v1, _ | ⟨u1 | u1 | u1, r⟩⟩ <;> first | (cases h; done) | skip
        replace hsv := List.forall_mem_cons.mp hsv; obtain ⟨hv1, hsv⟩ := hsv
        replace hsv := List.forall_mem_cons.mp hsv; obtain ⟨hu1, hsv⟩ := hsv
        replace h := zbx h; obtain ⟨hlr, h⟩ := h
        have hlr := Nat.le_of_ble_eq_true hlr
        have hcat := zcat_sum ρ r
        have hm2 := zex_mo h
        have c1 : zcells M0 ≤ zcells M := hmo.2.1
        have c3 : zcells M ≤ zcells M' := hm2.2.1
        have c4 : zslots M0 ≤ zslots M := hmo.2.2.1
        have c6 : zslots M ≤ zslots M' := hm2.2.2.1
        have hR3 := hR.2.2.1
        have hR4 := hR.2.2.2
        have hR1 := hR.1
        have hR2 := hR.2.1
        refine va_mmax hx hb (hml.trans hL.1.symm) hown (hts _ (zlk_m hlk)) (hts _ (by decide +kernel)) (hts _ (by decide +kernel)) (hts _ (by decide +kernel)) (by omega) (by omega) (by omega) (by omega) hdg ?_
        have hval : (if Int32.ofInt u1 < Int32.ofInt v1 then Int32.ofInt v1 else Int32.ofInt u1) = Int32.ofInt (zmax u1 v1) := by unfold zmax; by_cases z : u1 < v1 <;> simp [z, zn_lt hu1 hv1]
        rw [hval]
        exact ih h hF hd5 hsp hT ⟨hH, hW, hk, hc, hs, hL, hlv, List.forall_mem_cons.mpr ⟨(by unfold zmax; split <;> assumption), hsv⟩, hB, hS⟩ hag hmo hR hret
      · rcases st with _ | ⟨v1 | v1 | v1, _ | ⟨u1 | u1 | u1, r⟩⟩ <;> first | (cases h; done) | skip
        replace hsv := List.forall_mem_cons.mp hsv; obtain ⟨hv1, hsv⟩ := hsv
        replace hsv := List.forall_mem_cons.mp hsv; obtain ⟨hu1, hsv⟩ := hsv
        replace h := zbx h; obtain ⟨hlr, h⟩ := h
        have hlr := Nat.le_of_ble_eq_true hlr
        have hcat := zcat_sum ρ r
        have hm2 := zex_mo h
        have c1 : zcells M0 ≤ zcells M := hmo.2.1
        have c3 : zcells M ≤ zcells M' := hm2.2.1
        have c4 : zslots M0 ≤ zslots M := hmo.2.2.1
        have c6 : zslots M ≤ zslots M' := hm2.2.2.1
        have hR3 := hR.2.2.1
        have hR4 := hR.2.2.2
        have hR1 := hR.1
        have hR2 := hR.2.1
        refine va_mmin hx hb (hml.trans hL.1.symm) hown (hts _ (zlk_m hlk)) (hts _ (by decide +kernel)) (hts _ (by decide +kernel)) (hts _ (by decide +kernel)) (by omega) (by omega) (by omega) (by omega) hdg ?_
        have hval : (if Int32.ofInt v1 < Int32.ofInt u1 then Int32.ofInt v1 else Int32.ofInt u1) = Int32.ofInt (zmin u1 v1) := by unfold zmin; by_cases z : v1 < u1 <;> simp [z, zn_lt hv1 hu1]
        rw [hval]
        exact ih h hF hd5 hsp hT ⟨hH, hW, hk, hc, hs, hL, hlv, List.forall_mem_cons.mpr ⟨(by unfold zmin; split <;> assumption), hsv⟩, hB, hS⟩ hag hmo hR hret
      · rcases st with _ | ⟨u1 | u1 | u1, r⟩ <;> first | (cases h; done) | skip
        replace hsv := List.forall_mem_cons.mp hsv; obtain ⟨hu1, hsv⟩ := hsv
        replace h := zbx h; obtain ⟨hlr, h⟩ := h
        have hlr := Nat.le_of_ble_eq_true hlr
        have hcat := zcat_sum ρ r
        have hm2 := zex_mo h
        have c1 : zcells M0 ≤ zcells M := hmo.2.1
        have c3 : zcells M ≤ zcells M' := hm2.2.1
        have c4 : zslots M0 ≤ zslots M := hmo.2.2.1
        have c6 : zslots M ≤ zslots M' := hm2.2.2.1
        have hR3 := hR.2.2.1
        have hR4 := hR.2.2.2
        have hR1 := hR.1
        have hR2 := hR.2.1
        refine va_mabs hx hb (hml.trans hL.1.symm) hown (hts _ (zlk_m hlk)) (hts _ (by decide +kernel)) (hts _ (by decide +kernel)) (hts _ (by decide +kernel)) (by omega) (by omega) (by omega) (by omega) hdg ?_
        have hval : (if 0 ≤ Int32.ofInt u1 then Int32.ofInt u1 else 0 - Int32.ofInt u1) = Int32.ofInt (zabs u1) := by
          have e0 : (0 : Int32) ≤ Int32.ofInt u1 ↔ 0 ≤ u1 := zn_le zr_0 hu1
          unfold zabs
          by_cases z : 0 ≤ u1
          · rw [if_pos z, if_pos (e0.mpr z)]
          · rw [if_neg z, if_neg (fun w => z (e0.mp w))]; exact zn_sub 0 u1
        rw [hval]
        exact ih h hF hd5 hsp hT ⟨hH, hW, hk, hc, hs, hL, hlv, List.forall_mem_cons.mpr ⟨(by show zr32 _; unfold zabs; split; exact hu1; exact z32_r _), hsv⟩, hB, hS⟩ hag hmo hR hret
    all_goals (cases h)
theorem zsnd_0 : zSnd l dC dI aC B sl sx hl 0 := by
  intro d tab pc ls st M r M' h
  cases h
theorem zsnd (hck : ∀ (mi : Nat) (tab : ZT) (nl : Nat), zG mi = some (tab, nl) → zckm mi tab nl = true) (h4 : zR4 l B sl sx) (h5 : zR5 l dC dI aC B sl sx hl) (n : Nat) : zSnd l dC dI aC B sl sx hl n := by
  induction n with
  | zero => exact zsnd_0
  | succ n ih => exact zsnd_step hck h4 h5 ih
end ZTHM
