def zG (mi : Nat) : Option (ZT × Nat) := znl [(tb_X1_init, 1), (tb_X1_measure, 3), (tb_X1_take, 7), (tb_X1_give, 5), (tb_X1_bring, 7), (tb_X1_sold, 3), (tb_X1_runStep, 5), (tb_X2_init, 1), (tb_X2_value, 8), (tb_X2_fact, 5), (tb_X2_joined, 3), (tb_X3_init, 1), (tb_X3_lay, 4), (tb_X4_init, 2), (tb_X4_add, 2), (tb_X4_get, 2), (tb_X4_round, 2), (tb_X4_copy, 2), (tb_X5_init, 1), (tb_X5_clear, 1), (tb_X5_addTurbine, 6), (tb_X5_byName, 4), (tb_X5_isTaken, 3), (tb_X5_priceAt, 2), (tb_X5_isSlack, 2), (tb_X5_tenths, 10), (tb_X5_takenOf, 4), (tb_X5_gives, 8), (tb_X5_turnedBy, 1), (tb_X5_left, 2), (tb_X5_drift, 3), (tb_X5_only, 2), (tb_X6_init, 3), (tb_X6_readPark, 3), (tb_X6_readDay, 4), (tb_X6_readParkLine, 2), (tb_X6_readTurbine, 6), (tb_X6_readCable, 3), (tb_X6_readGoal, 2), (tb_X6_readList, 4), (tb_X6_readWakes, 2), (tb_X6_readWears, 1), (tb_X6_readSlack, 1), (tb_X6_readE, 4), (tb_X6_readTest, 3), (tb_X6_readSum, 4), (tb_X6_readProduct, 3), (tb_X6_readPart, 6), (tb_X6_readDayLine, 2), (tb_X6_fail, 2), (tb_X6_once, 2), (tb_X6_passSign, 2), (tb_X6_passWord, 2), (tb_X6_passNumber, 3), (tb_X6_isNumber, 3), (tb_X6_isName, 2), (tb_X6_isTurbine, 1), (tb_X6_kindOf, 1), (tb_X6_deedOf, 1), (tb_X6_factOf, 1), (tb_X7_init, 1), (tb_X7_seek, 9), (tb_X7_foresee, 11), (tb_X7_listTries, 6), (tb_X7_isNew, 5), (tb_X7_isAlike, 5), (tb_X7_angleOf, 2), (tb_X7_keepRow, 3), (tb_X7_next, 3), (tb_X7_addFrom, 6), (tb_X7_giftOf, 4), (tb_X7_sale, 5), (tb_X7_share, 5), (tb_X8_init, 1), (tb_X8_begin, 2), (tb_X8_copy, 2), (tb_X8_everyone, 2), (tb_X8_isOpen, 2), (tb_X8_isBroken, 2), (tb_X8_runs, 2), (tb_X8_can, 4), (tb_X8_act, 6), (tb_X8_wear, 5), (tb_X9_init, 1), (tb_X9_put, 6), (tb_X9_clear, 1), (tb_X9_start, 1), (tb_X9_pass, 2), (tb_X9_takeWord, 4), (tb_X9_takeNumber, 3), (tb_X9_isSign, 1), (tb_X10_init, 1), (tb_X10_guess, 8), (tb_X10_mostAlike, 5), (tb_X10_note, 3), (tb_X10_isAsSeen, 4), (tb_X12_init, 2), (tb_X12_feed, 7), (tb_X12_park, 4), (tb_X12_day, 1), (tb_X12_turbine, 3), (tb_X12_wind, 2), (tb_X12_power, 2), (tb_X12_carried, 2), (tb_X12_home, 1), (tb_X12_turn, 4), (tb_X12_shut, 2), (tb_X12_open, 2), (tb_X12_mend, 2), (tb_X12_step, 1), (tb_X12_undo, 1), (tb_X12_judged, 8), (tb_X12_takes, 3), (tb_X12_later, 3), (tb_X12_total, 4), (tb_X12_breaks, 3), (tb_X12_lost, 1), (tb_X12_best, 2), (tb_X12_alone, 3), (tb_X12_idle, 6), (tb_X12_straight, 1), (tb_X12_full, 3), (tb_X12_dear, 4), (tb_X12_fault, 2), (tb_X12_robbed, 4), (tb_X12_front, 3), (tb_X12_shade, 4), (tb_X12_hops, 5), (tb_X12_see, 3), (tb_X12_winds, 2), (tb_X12_ask, 5), (tb_X12_chance, 7), ([], 9), (tb_X12_days, 11), (tb_X12_mark, 4), (tb_X12_count, 2), (tb_X12_stands, 2), (tb_X12_act, 4), (tb_X12_remember, 1), (tb_X12_forgetPast, 1), (tb_X12_forgetSearches, 2), (tb_X12_takenNow, 3), (tb_X12_searched, 4), (tb_X12_ownWind, 5), (tb_X12_isDigit, 1), (tb_X12_keeps, 5), (tb_X12_gain, 5), (tb_X12_drawn, 2), (tb_X12_below, 3), (tb_X13_init, 1), (tb_X13_thrown, 1), (tb_X13_within, 3), (tb_X13_between, 3), (tb_X13_feed, 11), (tb_X13_signAt, 2), (tb_X13_nextToken, 2), (tb_X13_isWord, 3), (tb_X13_isSign, 2), (tb_X13_fails, 2), (tb_X13_usual, 3), (tb_X13_puts, 2), (tb_X13_fact, 1), (tb_X13_reads, 6), (tb_X13_opens, 2), (tb_X13_sums, 2), (tb_X13_tests, 3), (tb_X13_worked, 6), (tb_X13_isKept, 1), (tb_X13_turbineNamed, 3), (tb_X13_needsNumber, 3), (tb_X13_needsBoth, 5), (tb_X13_closes, 1), (tb_X13_needsTurbine, 2), (tb_X13_stands, 3), (tb_X13_readsTurbine, 4), (tb_X13_readsCable, 3), (tb_X13_isTold, 3), (tb_X13_readsRow, 4), (tb_X13_readsOne, 3), (tb_X13_readsWakes, 2), (tb_X13_readsGives, 1), (tb_X13_begins, 1), (tb_X13_readsPark, 1), (tb_X13_readsAll, 1), (tb_X13_shifts, 3), (tb_X13_lays, 2), (tb_X13_copies, 5), (tb_X13_readsLine, 3), (tb_X13_laysLines, 4), (tb_X13_laysSeen, 4), (tb_X13_fresh0, 2), (tb_X13_park, 2), (tb_X13_day, 1), (tb_X13_isTurbine, 2), (tb_X13_rowOf, 3), (tb_X13_priceNow, 1), (tb_X13_isShut, 2), (tb_X13_isBroken, 2), (tb_X13_runs, 2), (tb_X13_turnedOf, 2), (tb_X13_looks, 1), (tb_X13_behind, 8), (tb_X13_takesOf, 4), (tb_X13_takenOf, 4), (tb_X13_windOf, 2), (tb_X13_powerOf, 3), (tb_X13_hopsOf, 4), (tb_X13_homeBy, 5), (tb_X13_laysPowers, 2), (tb_X13_homeNow, 1), (tb_X13_powersNow, 3), (tb_X13_soldNow, 1), (tb_X13_passes, 5), (tb_X13_turbine, 3), (tb_X13_wind, 2), (tb_X13_power, 2), (tb_X13_carried, 2), (tb_X13_home, 1), (tb_X13_keeps, 2), (tb_X13_turn, 4), (tb_X13_canMend, 2), (tb_X13_mends, 2), (tb_X13_shut, 2), (tb_X13_open, 2), (tb_X13_mend, 2), (tb_X13_step, 1), (tb_X13_undo, 1), (tb_X13_isDone, 4), (tb_X13_judged, 6), (tb_X13_takes, 3), (tb_X13_later, 3), (tb_X13_total, 4), (tb_X13_breaks, 3), (tb_X13_lost, 2), (tb_X13_turnsAll, 7), (tb_X13_ownedBy, 4), (tb_X13_powerBy, 4), (tb_X13_foundOf, 5), (tb_X13_best, 2), (tb_X13_alone, 3), (tb_X13_idle, 7), (tb_X13_straight, 3), (tb_X13_full, 3), (tb_X13_dear, 5), (tb_X13_fault, 2), (tb_X13_hops, 2), (tb_X13_windsOf, 4), (tb_X13_robbed, 5), (tb_X13_front, 3), (tb_X13_shade, 4), (tb_X13_laysWinds, 4), (tb_X13_see, 3), (tb_X13_winds, 7), (tb_X13_ask, 6), (tb_X13_chance, 7), (tb_X13_getsBy, 5), (tb_X13_rests, 9), (tb_X13_draws, 2), (tb_X13_livesStep, 3), (tb_X13_days, 7), (tb_X13_mark, 5), (tb_X13_count, 2), (tb_J9_floorMod_7cf53, 3), (tb_J7_fill_53178, 4)] mi
def zR (d : Nat) (tab : ZT) (pc : Nat) (ls : ZL) (st : List ZV) (M : ZM) (r : ZR) : Prop := ∃ n, zex zG d tab pc ls st M n = some r
section ZRUN
variable {d : Nat} {tab tab2 : ZT} {pc pc' : Nat} {ls ls' ls2 : ZL} {st st' rest : List ZV} {M M' M1 M2 : ZM} {r : ZR} {rv : Option ZV}
theorem zR_go (k : Nat) (hr : zR d tab pc' ls' st' M' r) (h : ∀ n, zex zG d tab pc ls st M (n + k) = zex zG d tab pc' ls' st' M' n) : zR d tab pc ls st M r := by
  obtain ⟨n, hn⟩ := hr
  exact ⟨n + k, (h n).trans hn⟩
theorem zR_up (h : zR d tab pc ls st M r) (hl : zle ls ls') : zR d tab pc ls' st M r := by
  obtain ⟨n, hn⟩ := h
  exact ⟨n, zex_mono (Nat.le_refl n) hl hn⟩
theorem zR_ret (k : Nat) (h : zex zG d tab pc ls st M k = some r) : zR d tab pc ls st M r := ⟨k, h⟩
theorem zR_call (k : Nat) (hcal : zR d tab2 0 ls2 [] M1 (rv, M2)) (h : ∀ n, zex zG (d + 1) tab pc ls st M (n + k) = zcall (zex zG d tab2 0 ls2 [] M1 n) fun r M => zex zG (d + 1) tab pc' ls' (r.toList ++ rest) M n) (hc : zR (d + 1) tab pc' ls' (rv.toList ++ rest) M2 r) : zR (d + 1) tab pc ls st M r := by
  obtain ⟨n1, h1⟩ := hcal
  obtain ⟨n2, h2⟩ := hc
  refine ⟨(n1 + n2) + k, (h (n1 + n2)).trans ?_⟩
  rw [zex_mono (Nat.le_add_right n1 n2) (zle_rf _) h1]
  exact zex_mono (Nat.le_add_left n2 n1) (zle_rf _) h2
end ZRUN
section ZDEN
variable {α β : Type}
def zB (o : Option (Int × ZM)) (f : Int → ZM → Option β) : Option β := match o with
  | none => none
  | some p => f p.1 p.2
def zBv (o : Option ZM) (f : ZM → Option β) : Option β := match o with
  | none => none
  | some p => f p
def zO (o : Option Nat) (f : Nat → Option β) : Option β := match o with
  | none => none
  | some p => f p
def zN (o : Option Nat) (a : β) (f : Nat → β) : β := match o with
  | none => a
  | some p => f p
def zW (a : α) (f : α → β) : β := f a
theorem zBx {o : Option (Int × ZM)} {f : Int → ZM → Option β} {r : β} (h : zB o f = some r) : ∃ v M1, o = some (v, M1) ∧ f v M1 = some r := by
  cases o with
  | none => cases h
  | some p => exact ⟨p.1, p.2, rfl, h⟩
theorem zBvx {o : Option ZM} {f : ZM → Option β} {r : β} (h : zBv o f = some r) : ∃ M1, o = some M1 ∧ f M1 = some r := by
  cases o with
  | none => cases h
  | some p => exact ⟨p, rfl, h⟩
theorem zOx {o : Option Nat} {f : Nat → Option β} {r : β} (h : zO o f = some r) : ∃ v, o = some v ∧ f v = some r := by
  cases o with
  | none => cases h
  | some p => exact ⟨p, rfl, h⟩
theorem zNx {o : Option Nat} {a : Option β} {f : Nat → Option β} {r : β} (h : zN o a f = some r) : (o = none ∧ a = some r) ∨ ∃ v, o = some v ∧ f v = some r := by
  cases o with
  | none => exact .inl ⟨rfl, h⟩
  | some p => exact .inr ⟨p, rfl, h⟩
theorem zgd {c : Prop} [Decidable c] {a : Option β} {r : β} (h : (if c then a else none) = some r) : c ∧ a = some r := by
  by_cases e : c
  · rw [if_pos e] at h; exact ⟨e, h⟩
  · rw [if_neg e] at h; cases h
theorem zgn {c : Prop} [Decidable c] {a : Option β} {r : β} (h : (if c then none else a) = some r) : ¬ c ∧ a = some r := by
  by_cases e : c
  · rw [if_pos e] at h; cases h
  · rw [if_neg e] at h; exact ⟨e, h⟩
theorem zit {c : Prop} [Decidable c] {a b : Option β} {r : β} (h : (if c then a else b) = some r) : (c ∧ a = some r) ∨ (¬ c ∧ b = some r) := by
  by_cases e : c
  · rw [if_pos e] at h; exact .inl ⟨e, h⟩
  · rw [if_neg e] at h; exact .inr ⟨e, h⟩
end ZDEN
/-- a run that answers an int (a long, nothing), and leaves what stands fast -/
def zLI (d : Nat) (tab : ZT) (pc : Nat) (ls : ZL) (st : List ZV) (M : ZM) (x : Int) (M' : ZM) (K : ZK) : Prop := zR d tab pc ls st M (some (vI x), M') ∧ mK M' = K
def zLL (d : Nat) (tab : ZT) (pc : Nat) (ls : ZL) (st : List ZV) (M : ZM) (x : Int) (M' : ZM) (K : ZK) : Prop := zR d tab pc ls st M (some (vL x), M') ∧ mK M' = K
def zLV (d : Nat) (tab : ZT) (pc : Nat) (ls : ZL) (st : List ZV) (M : ZM) (M' : ZM) (K : ZK) : Prop := zR d tab pc ls st M (none, M') ∧ mK M' = K
def zI {β : Type} (c : Prop) [Decidable c] (a : Option β) : Option β := if c then a else none
theorem zIx {β : Type} {c : Prop} [Decidable c] {a : Option β} {r : β} (h : zI c a = some r) : c ∧ a = some r := zgd h
theorem zrI {a x : Int} {b M' : ZM} (h : some (a, b) = some (x, M')) : a = x ∧ b = M' := by
  have h2 := Option.some.inj h
  exact ⟨congrArg Prod.fst h2, congrArg Prod.snd h2⟩
theorem zrV {b M' : ZM} (h : some b = some M') : b = M' := Option.some.inj h
theorem zWx {α β : Type} {a : α} {f : α → β} {r : β} (h : zW a f = r) : f a = r := h
