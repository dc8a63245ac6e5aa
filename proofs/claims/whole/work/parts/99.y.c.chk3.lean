set_option maxRecDepth 100000 in
theorem ck_X13_readsGives : zckm 180 tb_X13_readsGives 1 = true := by decide +kernel
set_option maxRecDepth 100000 in
theorem ck_X13_begins : zckm 181 tb_X13_begins 1 = true := by decide +kernel
set_option maxRecDepth 100000 in
theorem ck_X13_readsPark : zckm 182 tb_X13_readsPark 1 = true := by decide +kernel
set_option maxRecDepth 100000 in
theorem ck_X13_readsAll : zckm 183 tb_X13_readsAll 1 = true := by decide +kernel
set_option maxRecDepth 100000 in
theorem ck_X13_shifts : zckm 184 tb_X13_shifts 3 = true := by decide +kernel
set_option maxRecDepth 100000 in
theorem ck_X13_lays : zckm 185 tb_X13_lays 2 = true := by decide +kernel
set_option maxRecDepth 100000 in
theorem ck_X13_copies : zckm 186 tb_X13_copies 5 = true := by decide +kernel
set_option maxRecDepth 100000 in
theorem ck_X13_readsLine : zckm 187 tb_X13_readsLine 3 = true := by decide +kernel
set_option maxRecDepth 100000 in
theorem ck_X13_laysLines : zckm 188 tb_X13_laysLines 4 = true := by decide +kernel
set_option maxRecDepth 100000 in
theorem ck_X13_laysSeen : zckm 189 tb_X13_laysSeen 4 = true := by decide +kernel
set_option maxRecDepth 100000 in
theorem ck_X13_fresh0 : zckm 190 tb_X13_fresh0 2 = true := by decide +kernel
set_option maxRecDepth 100000 in
theorem ck_X13_park : zckm 191 tb_X13_park 2 = true := by decide +kernel
set_option maxRecDepth 100000 in
theorem ck_X13_day : zckm 192 tb_X13_day 1 = true := by decide +kernel
set_option maxRecDepth 100000 in
theorem ck_X13_isTurbine : zckm 193 tb_X13_isTurbine 2 = true := by decide +kernel
set_option maxRecDepth 100000 in
theorem ck_X13_rowOf : zckm 194 tb_X13_rowOf 3 = true := by decide +kernel
set_option maxRecDepth 100000 in
theorem ck_X13_priceNow : zckm 195 tb_X13_priceNow 1 = true := by decide +kernel
set_option maxRecDepth 100000 in
theorem ck_X13_isShut : zckm 196 tb_X13_isShut 2 = true := by decide +kernel
set_option maxRecDepth 100000 in
theorem ck_X13_isBroken : zckm 197 tb_X13_isBroken 2 = true := by decide +kernel
set_option maxRecDepth 100000 in
theorem ck_X13_runs : zckm 198 tb_X13_runs 2 = true := by decide +kernel
set_option maxRecDepth 100000 in
theorem ck_X13_turnedOf : zckm 199 tb_X13_turnedOf 2 = true := by decide +kernel
set_option maxRecDepth 100000 in
theorem ck_X13_looks : zckm 200 tb_X13_looks 1 = true := by decide +kernel
set_option maxRecDepth 100000 in
theorem ck_X13_behind : zckm 201 tb_X13_behind 8 = true := by decide +kernel
set_option maxRecDepth 100000 in
theorem ck_X13_takesOf : zckm 202 tb_X13_takesOf 4 = true := by decide +kernel
set_option maxRecDepth 100000 in
theorem ck_X13_takenOf : zckm 203 tb_X13_takenOf 4 = true := by decide +kernel
set_option maxRecDepth 100000 in
theorem ck_X13_windOf : zckm 204 tb_X13_windOf 2 = true := by decide +kernel
set_option maxRecDepth 100000 in
theorem ck_X13_powerOf : zckm 205 tb_X13_powerOf 3 = true := by decide +kernel
set_option maxRecDepth 100000 in
theorem ck_X13_hopsOf : zckm 206 tb_X13_hopsOf 4 = true := by decide +kernel
set_option maxRecDepth 100000 in
theorem ck_X13_homeBy : zckm 207 tb_X13_homeBy 5 = true := by decide +kernel
set_option maxRecDepth 100000 in
theorem ck_X13_laysPowers : zckm 208 tb_X13_laysPowers 2 = true := by decide +kernel
set_option maxRecDepth 100000 in
theorem ck_X13_homeNow : zckm 209 tb_X13_homeNow 1 = true := by decide +kernel
set_option maxRecDepth 100000 in
theorem ck_X13_powersNow : zckm 210 tb_X13_powersNow 3 = true := by decide +kernel
set_option maxRecDepth 100000 in
theorem ck_X13_soldNow : zckm 211 tb_X13_soldNow 1 = true := by decide +kernel
set_option maxRecDepth 100000 in
theorem ck_X13_passes : zckm 212 tb_X13_passes 5 = true := by decide +kernel
set_option maxRecDepth 100000 in
theorem ck_X13_turbine : zckm 213 tb_X13_turbine 3 = true := by decide +kernel
set_option maxRecDepth 100000 in
theorem ck_X13_wind : zckm 214 tb_X13_wind 2 = true := by decide +kernel
set_option maxRecDepth 100000 in
theorem ck_X13_power : zckm 215 tb_X13_power 2 = true := by decide +kernel
set_option maxRecDepth 100000 in
theorem ck_X13_carried : zckm 216 tb_X13_carried 2 = true := by decide +kernel
set_option maxRecDepth 100000 in
theorem ck_X13_home : zckm 217 tb_X13_home 1 = true := by decide +kernel
set_option maxRecDepth 100000 in
theorem ck_X13_keeps : zckm 218 tb_X13_keeps 2 = true := by decide +kernel
set_option maxRecDepth 100000 in
theorem ck_X13_turn : zckm 219 tb_X13_turn 4 = true := by decide +kernel
set_option maxRecDepth 100000 in
theorem ck_X13_canMend : zckm 220 tb_X13_canMend 2 = true := by decide +kernel
set_option maxRecDepth 100000 in
theorem ck_X13_mends : zckm 221 tb_X13_mends 2 = true := by decide +kernel
set_option maxRecDepth 100000 in
theorem ck_X13_shut : zckm 222 tb_X13_shut 2 = true := by decide +kernel
set_option maxRecDepth 100000 in
theorem ck_X13_open : zckm 223 tb_X13_open 2 = true := by decide +kernel
set_option maxRecDepth 100000 in
theorem ck_X13_mend : zckm 224 tb_X13_mend 2 = true := by decide +kernel
set_option maxRecDepth 100000 in
theorem ck_X13_step : zckm 225 tb_X13_step 1 = true := by decide +kernel
set_option maxRecDepth 100000 in
theorem ck_X13_undo : zckm 226 tb_X13_undo 1 = true := by decide +kernel
set_option maxRecDepth 100000 in
theorem ck_X13_isDone : zckm 227 tb_X13_isDone 4 = true := by decide +kernel
set_option maxRecDepth 100000 in
theorem ck_X13_judged : zckm 228 tb_X13_judged 6 = true := by decide +kernel
set_option maxRecDepth 100000 in
theorem ck_X13_takes : zckm 229 tb_X13_takes 3 = true := by decide +kernel
set_option maxRecDepth 100000 in
theorem ck_X13_later : zckm 230 tb_X13_later 3 = true := by decide +kernel
set_option maxRecDepth 100000 in
theorem ck_X13_total : zckm 231 tb_X13_total 4 = true := by decide +kernel
set_option maxRecDepth 100000 in
theorem ck_X13_breaks : zckm 232 tb_X13_breaks 3 = true := by decide +kernel
set_option maxRecDepth 100000 in
theorem ck_X13_lost : zckm 233 tb_X13_lost 2 = true := by decide +kernel
set_option maxRecDepth 100000 in
theorem ck_X13_turnsAll : zckm 234 tb_X13_turnsAll 7 = true := by decide +kernel
set_option maxRecDepth 100000 in
theorem ck_X13_ownedBy : zckm 235 tb_X13_ownedBy 4 = true := by decide +kernel
set_option maxRecDepth 100000 in
theorem ck_X13_powerBy : zckm 236 tb_X13_powerBy 4 = true := by decide +kernel
set_option maxRecDepth 100000 in
theorem ck_X13_foundOf : zckm 237 tb_X13_foundOf 5 = true := by decide +kernel
set_option maxRecDepth 100000 in
theorem ck_X13_best : zckm 238 tb_X13_best 2 = true := by decide +kernel
set_option maxRecDepth 100000 in
theorem ck_X13_alone : zckm 239 tb_X13_alone 3 = true := by decide +kernel
set_option maxRecDepth 100000 in
theorem ck_X13_idle : zckm 240 tb_X13_idle 7 = true := by decide +kernel
set_option maxRecDepth 100000 in
theorem ck_X13_straight : zckm 241 tb_X13_straight 3 = true := by decide +kernel
set_option maxRecDepth 100000 in
theorem ck_X13_full : zckm 242 tb_X13_full 3 = true := by decide +kernel
set_option maxRecDepth 100000 in
theorem ck_X13_dear : zckm 243 tb_X13_dear 5 = true := by decide +kernel
set_option maxRecDepth 100000 in
theorem ck_X13_fault : zckm 244 tb_X13_fault 2 = true := by decide +kernel
set_option maxRecDepth 100000 in
theorem ck_X13_hops : zckm 245 tb_X13_hops 2 = true := by decide +kernel
set_option maxRecDepth 100000 in
theorem ck_X13_windsOf : zckm 246 tb_X13_windsOf 4 = true := by decide +kernel
set_option maxRecDepth 100000 in
theorem ck_X13_robbed : zckm 247 tb_X13_robbed 5 = true := by decide +kernel
set_option maxRecDepth 100000 in
theorem ck_X13_front : zckm 248 tb_X13_front 3 = true := by decide +kernel
set_option maxRecDepth 100000 in
theorem ck_X13_shade : zckm 249 tb_X13_shade 4 = true := by decide +kernel
set_option maxRecDepth 100000 in
theorem ck_X13_laysWinds : zckm 250 tb_X13_laysWinds 4 = true := by decide +kernel
set_option maxRecDepth 100000 in
theorem ck_X13_see : zckm 251 tb_X13_see 3 = true := by decide +kernel
set_option maxRecDepth 100000 in
theorem ck_X13_winds : zckm 252 tb_X13_winds 7 = true := by decide +kernel
set_option maxRecDepth 100000 in
theorem ck_X13_ask : zckm 253 tb_X13_ask 6 = true := by decide +kernel
set_option maxRecDepth 100000 in
theorem ck_X13_chance : zckm 254 tb_X13_chance 7 = true := by decide +kernel
set_option maxRecDepth 100000 in
theorem ck_X13_getsBy : zckm 255 tb_X13_getsBy 5 = true := by decide +kernel
set_option maxRecDepth 100000 in
theorem ck_X13_rests : zckm 256 tb_X13_rests 9 = true := by decide +kernel
set_option maxRecDepth 100000 in
theorem ck_X13_draws : zckm 257 tb_X13_draws 2 = true := by decide +kernel
set_option maxRecDepth 100000 in
theorem ck_X13_livesStep : zckm 258 tb_X13_livesStep 3 = true := by decide +kernel
set_option maxRecDepth 100000 in
theorem ck_X13_days : zckm 259 tb_X13_days 7 = true := by decide +kernel
set_option maxRecDepth 100000 in
theorem ck_X13_mark : zckm 260 tb_X13_mark 5 = true := by decide +kernel
set_option maxRecDepth 100000 in
theorem ck_X13_count : zckm 261 tb_X13_count 2 = true := by decide +kernel
set_option maxRecDepth 100000 in
theorem ck_J9_floorMod_7cf53 : zckm 262 tb_J9_floorMod_7cf53 3 = true := by decide +kernel
set_option maxRecDepth 100000 in
theorem ck_J7_fill_53178 : zckm 263 tb_J7_fill_53178 4 = true := by decide +kernel
theorem zchk : ∀ (mi : Nat) (tab : ZT) (nl : Nat), zG mi = some (tab, nl) → zckm mi tab nl = true
  | 0, _, _, h => by cases h; exact ck_X1_init
  | 1, _, _, h => by cases h; exact ck_X1_measure
  | 2, _, _, h => by cases h; exact ck_X1_take
  | 3, _, _, h => by cases h; exact ck_X1_give
  | 4, _, _, h => by cases h; exact ck_X1_bring
  | 5, _, _, h => by cases h; exact ck_X1_sold
  | 6, _, _, h => by cases h; exact ck_X1_runStep
  | 7, _, _, h => by cases h; exact ck_X2_init
  | 8, _, _, h => by cases h; exact ck_X2_value
  | 9, _, _, h => by cases h; exact ck_X2_fact
  | 10, _, _, h => by cases h; exact ck_X2_joined
  | 11, _, _, h => by cases h; exact ck_X3_init
  | 12, _, _, h => by cases h; exact ck_X3_lay
  | 13, _, _, h => by cases h; exact ck_X4_init
  | 14, _, _, h => by cases h; exact ck_X4_add
  | 15, _, _, h => by cases h; exact ck_X4_get
  | 16, _, _, h => by cases h; exact ck_X4_round
  | 17, _, _, h => by cases h; exact ck_X4_copy
  | 18, _, _, h => by cases h; exact ck_X5_init
  | 19, _, _, h => by cases h; exact ck_X5_clear
  | 20, _, _, h => by cases h; exact ck_X5_addTurbine
  | 21, _, _, h => by cases h; exact ck_X5_byName
  | 22, _, _, h => by cases h; exact ck_X5_isTaken
  | 23, _, _, h => by cases h; exact ck_X5_priceAt
  | 24, _, _, h => by cases h; exact ck_X5_isSlack
  | 25, _, _, h => by cases h; exact ck_X5_tenths
  | 26, _, _, h => by cases h; exact ck_X5_takenOf
  | 27, _, _, h => by cases h; exact ck_X5_gives
  | 28, _, _, h => by cases h; exact ck_X5_turnedBy
  | 29, _, _, h => by cases h; exact ck_X5_left
  | 30, _, _, h => by cases h; exact ck_X5_drift
  | 31, _, _, h => by cases h; exact ck_X5_only
  | 32, _, _, h => by cases h; exact ck_X6_init
  | 33, _, _, h => by cases h; exact ck_X6_readPark
  | 34, _, _, h => by cases h; exact ck_X6_readDay
  | 35, _, _, h => by cases h; exact ck_X6_readParkLine
  | 36, _, _, h => by cases h; exact ck_X6_readTurbine
  | 37, _, _, h => by cases h; exact ck_X6_readCable
  | 38, _, _, h => by cases h; exact ck_X6_readGoal
  | 39, _, _, h => by cases h; exact ck_X6_readList
  | 40, _, _, h => by cases h; exact ck_X6_readWakes
  | 41, _, _, h => by cases h; exact ck_X6_readWears
  | 42, _, _, h => by cases h; exact ck_X6_readSlack
  | 43, _, _, h => by cases h; exact ck_X6_readE
  | 44, _, _, h => by cases h; exact ck_X6_readTest
  | 45, _, _, h => by cases h; exact ck_X6_readSum
  | 46, _, _, h => by cases h; exact ck_X6_readProduct
  | 47, _, _, h => by cases h; exact ck_X6_readPart
  | 48, _, _, h => by cases h; exact ck_X6_readDayLine
  | 49, _, _, h => by cases h; exact ck_X6_fail
  | 50, _, _, h => by cases h; exact ck_X6_once
  | 51, _, _, h => by cases h; exact ck_X6_passSign
  | 52, _, _, h => by cases h; exact ck_X6_passWord
  | 53, _, _, h => by cases h; exact ck_X6_passNumber
  | 54, _, _, h => by cases h; exact ck_X6_isNumber
  | 55, _, _, h => by cases h; exact ck_X6_isName
  | 56, _, _, h => by cases h; exact ck_X6_isTurbine
  | 57, _, _, h => by cases h; exact ck_X6_kindOf
  | 58, _, _, h => by cases h; exact ck_X6_deedOf
  | 59, _, _, h => by cases h; exact ck_X6_factOf
  | 60, _, _, h => by cases h; exact ck_X7_init
  | 61, _, _, h => by cases h; exact ck_X7_seek
  | 62, _, _, h => by cases h; exact ck_X7_foresee
  | 63, _, _, h => by cases h; exact ck_X7_listTries
  | 64, _, _, h => by cases h; exact ck_X7_isNew
  | 65, _, _, h => by cases h; exact ck_X7_isAlike
  | 66, _, _, h => by cases h; exact ck_X7_angleOf
  | 67, _, _, h => by cases h; exact ck_X7_keepRow
  | 68, _, _, h => by cases h; exact ck_X7_next
  | 69, _, _, h => by cases h; exact ck_X7_addFrom
  | 70, _, _, h => by cases h; exact ck_X7_giftOf
  | 71, _, _, h => by cases h; exact ck_X7_sale
  | 72, _, _, h => by cases h; exact ck_X7_share
  | 73, _, _, h => by cases h; exact ck_X8_init
  | 74, _, _, h => by cases h; exact ck_X8_begin
  | 75, _, _, h => by cases h; exact ck_X8_copy
  | 76, _, _, h => by cases h; exact ck_X8_everyone
  | 77, _, _, h => by cases h; exact ck_X8_isOpen
  | 78, _, _, h => by cases h; exact ck_X8_isBroken
  | 79, _, _, h => by cases h; exact ck_X8_runs
  | 80, _, _, h => by cases h; exact ck_X8_can
  | 81, _, _, h => by cases h; exact ck_X8_act
  | 82, _, _, h => by cases h; exact ck_X8_wear
  | 83, _, _, h => by cases h; exact ck_X9_init
  | 84, _, _, h => by cases h; exact ck_X9_put
  | 85, _, _, h => by cases h; exact ck_X9_clear
  | 86, _, _, h => by cases h; exact ck_X9_start
  | 87, _, _, h => by cases h; exact ck_X9_pass
  | 88, _, _, h => by cases h; exact ck_X9_takeWord
  | 89, _, _, h => by cases h; exact ck_X9_takeNumber
  | 90, _, _, h => by cases h; exact ck_X9_isSign
  | 91, _, _, h => by cases h; exact ck_X10_init
  | 92, _, _, h => by cases h; exact ck_X10_guess
  | 93, _, _, h => by cases h; exact ck_X10_mostAlike
  | 94, _, _, h => by cases h; exact ck_X10_note
  | 95, _, _, h => by cases h; exact ck_X10_isAsSeen
  | 96, _, _, h => by cases h; exact ck_X12_init
  | 97, _, _, h => by cases h; exact ck_X12_feed
  | 98, _, _, h => by cases h; exact ck_X12_park
  | 99, _, _, h => by cases h; exact ck_X12_day
  | 100, _, _, h => by cases h; exact ck_X12_turbine
  | 101, _, _, h => by cases h; exact ck_X12_wind
  | 102, _, _, h => by cases h; exact ck_X12_power
  | 103, _, _, h => by cases h; exact ck_X12_carried
  | 104, _, _, h => by cases h; exact ck_X12_home
  | 105, _, _, h => by cases h; exact ck_X12_turn
  | 106, _, _, h => by cases h; exact ck_X12_shut
  | 107, _, _, h => by cases h; exact ck_X12_open
  | 108, _, _, h => by cases h; exact ck_X12_mend
  | 109, _, _, h => by cases h; exact ck_X12_step
  | 110, _, _, h => by cases h; exact ck_X12_undo
  | 111, _, _, h => by cases h; exact ck_X12_judged
  | 112, _, _, h => by cases h; exact ck_X12_takes
  | 113, _, _, h => by cases h; exact ck_X12_later
  | 114, _, _, h => by cases h; exact ck_X12_total
  | 115, _, _, h => by cases h; exact ck_X12_breaks
  | 116, _, _, h => by cases h; exact ck_X12_lost
  | 117, _, _, h => by cases h; exact ck_X12_best
  | 118, _, _, h => by cases h; exact ck_X12_alone
  | 119, _, _, h => by cases h; exact ck_X12_idle
  | 120, _, _, h => by cases h; exact ck_X12_straight
  | 121, _, _, h => by cases h; exact ck_X12_full
  | 122, _, _, h => by cases h; exact ck_X12_dear
  | 123, _, _, h => by cases h; exact ck_X12_fault
  | 124, _, _, h => by cases h; exact ck_X12_robbed
  | 125, _, _, h => by cases h; exact ck_X12_front
  | 126, _, _, h => by cases h; exact ck_X12_shade
  | 127, _, _, h => by cases h; exact ck_X12_hops
  | 128, _, _, h => by cases h; exact ck_X12_see
  | 129, _, _, h => by cases h; exact ck_X12_winds
  | 130, _, _, h => by cases h; exact ck_X12_ask
  | 131, _, _, h => by cases h; exact ck_X12_chance
  | 132, _, _, h => by cases h; exact ck_X12_rests
  | 133, _, _, h => by cases h; exact ck_X12_days
  | 134, _, _, h => by cases h; exact ck_X12_mark
  | 135, _, _, h => by cases h; exact ck_X12_count
  | 136, _, _, h => by cases h; exact ck_X12_stands
  | 137, _, _, h => by cases h; exact ck_X12_act
  | 138, _, _, h => by cases h; exact ck_X12_remember
  | 139, _, _, h => by cases h; exact ck_X12_forgetPast
  | 140, _, _, h => by cases h; exact ck_X12_forgetSearches
  | 141, _, _, h => by cases h; exact ck_X12_takenNow
  | 142, _, _, h => by cases h; exact ck_X12_searched
  | 143, _, _, h => by cases h; exact ck_X12_ownWind
  | 144, _, _, h => by cases h; exact ck_X12_isDigit
  | 145, _, _, h => by cases h; exact ck_X12_keeps
  | 146, _, _, h => by cases h; exact ck_X12_gain
  | 147, _, _, h => by cases h; exact ck_X12_drawn
  | 148, _, _, h => by cases h; exact ck_X12_below
  | 149, _, _, h => by cases h; exact ck_X13_init
  | 150, _, _, h => by cases h; exact ck_X13_thrown
  | 151, _, _, h => by cases h; exact ck_X13_within
  | 152, _, _, h => by cases h; exact ck_X13_between
  | 153, _, _, h => by cases h; exact ck_X13_feed
  | 154, _, _, h => by cases h; exact ck_X13_signAt
  | 155, _, _, h => by cases h; exact ck_X13_nextToken
  | 156, _, _, h => by cases h; exact ck_X13_isWord
  | 157, _, _, h => by cases h; exact ck_X13_isSign
  | 158, _, _, h => by cases h; exact ck_X13_fails
  | 159, _, _, h => by cases h; exact ck_X13_usual
  | 160, _, _, h => by cases h; exact ck_X13_puts
  | 161, _, _, h => by cases h; exact ck_X13_fact
  | 162, _, _, h => by cases h; exact ck_X13_reads
  | 163, _, _, h => by cases h; exact ck_X13_opens
  | 164, _, _, h => by cases h; exact ck_X13_sums
  | 165, _, _, h => by cases h; exact ck_X13_tests
  | 166, _, _, h => by cases h; exact ck_X13_worked
  | 167, _, _, h => by cases h; exact ck_X13_isKept
  | 168, _, _, h => by cases h; exact ck_X13_turbineNamed
  | 169, _, _, h => by cases h; exact ck_X13_needsNumber
  | 170, _, _, h => by cases h; exact ck_X13_needsBoth
  | 171, _, _, h => by cases h; exact ck_X13_closes
  | 172, _, _, h => by cases h; exact ck_X13_needsTurbine
  | 173, _, _, h => by cases h; exact ck_X13_stands
  | 174, _, _, h => by cases h; exact ck_X13_readsTurbine
  | 175, _, _, h => by cases h; exact ck_X13_readsCable
  | 176, _, _, h => by cases h; exact ck_X13_isTold
  | 177, _, _, h => by cases h; exact ck_X13_readsRow
  | 178, _, _, h => by cases h; exact ck_X13_readsOne
  | 179, _, _, h => by cases h; exact ck_X13_readsWakes
  | 180, _, _, h => by cases h; exact ck_X13_readsGives
  | 181, _, _, h => by cases h; exact ck_X13_begins
  | 182, _, _, h => by cases h; exact ck_X13_readsPark
  | 183, _, _, h => by cases h; exact ck_X13_readsAll
  | 184, _, _, h => by cases h; exact ck_X13_shifts
  | 185, _, _, h => by cases h; exact ck_X13_lays
  | 186, _, _, h => by cases h; exact ck_X13_copies
  | 187, _, _, h => by cases h; exact ck_X13_readsLine
  | 188, _, _, h => by cases h; exact ck_X13_laysLines
  | 189, _, _, h => by cases h; exact ck_X13_laysSeen
  | 190, _, _, h => by cases h; exact ck_X13_fresh0
  | 191, _, _, h => by cases h; exact ck_X13_park
  | 192, _, _, h => by cases h; exact ck_X13_day
  | 193, _, _, h => by cases h; exact ck_X13_isTurbine
  | 194, _, _, h => by cases h; exact ck_X13_rowOf
  | 195, _, _, h => by cases h; exact ck_X13_priceNow
  | 196, _, _, h => by cases h; exact ck_X13_isShut
  | 197, _, _, h => by cases h; exact ck_X13_isBroken
  | 198, _, _, h => by cases h; exact ck_X13_runs
  | 199, _, _, h => by cases h; exact ck_X13_turnedOf
  | 200, _, _, h => by cases h; exact ck_X13_looks
  | 201, _, _, h => by cases h; exact ck_X13_behind
  | 202, _, _, h => by cases h; exact ck_X13_takesOf
  | 203, _, _, h => by cases h; exact ck_X13_takenOf
  | 204, _, _, h => by cases h; exact ck_X13_windOf
  | 205, _, _, h => by cases h; exact ck_X13_powerOf
  | 206, _, _, h => by cases h; exact ck_X13_hopsOf
  | 207, _, _, h => by cases h; exact ck_X13_homeBy
  | 208, _, _, h => by cases h; exact ck_X13_laysPowers
  | 209, _, _, h => by cases h; exact ck_X13_homeNow
  | 210, _, _, h => by cases h; exact ck_X13_powersNow
  | 211, _, _, h => by cases h; exact ck_X13_soldNow
  | 212, _, _, h => by cases h; exact ck_X13_passes
  | 213, _, _, h => by cases h; exact ck_X13_turbine
  | 214, _, _, h => by cases h; exact ck_X13_wind
  | 215, _, _, h => by cases h; exact ck_X13_power
  | 216, _, _, h => by cases h; exact ck_X13_carried
  | 217, _, _, h => by cases h; exact ck_X13_home
  | 218, _, _, h => by cases h; exact ck_X13_keeps
  | 219, _, _, h => by cases h; exact ck_X13_turn
  | 220, _, _, h => by cases h; exact ck_X13_canMend
  | 221, _, _, h => by cases h; exact ck_X13_mends
  | 222, _, _, h => by cases h; exact ck_X13_shut
  | 223, _, _, h => by cases h; exact ck_X13_open
  | 224, _, _, h => by cases h; exact ck_X13_mend
  | 225, _, _, h => by cases h; exact ck_X13_step
  | 226, _, _, h => by cases h; exact ck_X13_undo
  | 227, _, _, h => by cases h; exact ck_X13_isDone
  | 228, _, _, h => by cases h; exact ck_X13_judged
  | 229, _, _, h => by cases h; exact ck_X13_takes
  | 230, _, _, h => by cases h; exact ck_X13_later
  | 231, _, _, h => by cases h; exact ck_X13_total
  | 232, _, _, h => by cases h; exact ck_X13_breaks
  | 233, _, _, h => by cases h; exact ck_X13_lost
  | 234, _, _, h => by cases h; exact ck_X13_turnsAll
  | 235, _, _, h => by cases h; exact ck_X13_ownedBy
  | 236, _, _, h => by cases h; exact ck_X13_powerBy
  | 237, _, _, h => by cases h; exact ck_X13_foundOf
  | 238, _, _, h => by cases h; exact ck_X13_best
  | 239, _, _, h => by cases h; exact ck_X13_alone
  | 240, _, _, h => by cases h; exact ck_X13_idle
  | 241, _, _, h => by cases h; exact ck_X13_straight
  | 242, _, _, h => by cases h; exact ck_X13_full
  | 243, _, _, h => by cases h; exact ck_X13_dear
  | 244, _, _, h => by cases h; exact ck_X13_fault
  | 245, _, _, h => by cases h; exact ck_X13_hops
  | 246, _, _, h => by cases h; exact ck_X13_windsOf
  | 247, _, _, h => by cases h; exact ck_X13_robbed
  | 248, _, _, h => by cases h; exact ck_X13_front
  | 249, _, _, h => by cases h; exact ck_X13_shade
  | 250, _, _, h => by cases h; exact ck_X13_laysWinds
  | 251, _, _, h => by cases h; exact ck_X13_see
  | 252, _, _, h => by cases h; exact ck_X13_winds
  | 253, _, _, h => by cases h; exact ck_X13_ask
  | 254, _, _, h => by cases h; exact ck_X13_chance
  | 255, _, _, h => by cases h; exact ck_X13_getsBy
  | 256, _, _, h => by cases h; exact ck_X13_rests
  | 257, _, _, h => by cases h; exact ck_X13_draws
  | 258, _, _, h => by cases h; exact ck_X13_livesStep
  | 259, _, _, h => by cases h; exact ck_X13_days
  | 260, _, _, h => by cases h; exact ck_X13_mark
  | 261, _, _, h => by cases h; exact ck_X13_count
  | 262, _, _, h => by cases h; exact ck_J9_floorMod_7cf53
  | 263, _, _, h => by cases h; exact ck_J7_fill_53178
  | n + 264, _, _, h => by cases h
