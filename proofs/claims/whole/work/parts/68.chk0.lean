set_option maxRecDepth 100000 in
theorem ck_X1_init : zckm 0 tb_X1_init 1 = true := by decide +kernel
set_option maxRecDepth 100000 in
theorem ck_X1_measure : zckm 1 tb_X1_measure 3 = true := by decide +kernel
set_option maxRecDepth 100000 in
theorem ck_X1_take : zckm 2 tb_X1_take 7 = true := by decide +kernel
set_option maxRecDepth 100000 in
theorem ck_X1_give : zckm 3 tb_X1_give 5 = true := by decide +kernel
set_option maxRecDepth 100000 in
theorem ck_X1_bring : zckm 4 tb_X1_bring 7 = true := by decide +kernel
set_option maxRecDepth 100000 in
theorem ck_X1_sold : zckm 5 tb_X1_sold 3 = true := by decide +kernel
set_option maxRecDepth 100000 in
theorem ck_X1_runStep : zckm 6 tb_X1_runStep 5 = true := by decide +kernel
set_option maxRecDepth 100000 in
theorem ck_X2_init : zckm 7 tb_X2_init 1 = true := by decide +kernel
set_option maxRecDepth 100000 in
theorem ck_X2_value : zckm 8 tb_X2_value 8 = true := by decide +kernel
set_option maxRecDepth 100000 in
theorem ck_X2_fact : zckm 9 tb_X2_fact 5 = true := by decide +kernel
set_option maxRecDepth 100000 in
theorem ck_X2_joined : zckm 10 tb_X2_joined 3 = true := by decide +kernel
set_option maxRecDepth 100000 in
theorem ck_X3_init : zckm 11 tb_X3_init 1 = true := by decide +kernel
set_option maxRecDepth 100000 in
theorem ck_X3_lay : zckm 12 tb_X3_lay 4 = true := by decide +kernel
set_option maxRecDepth 100000 in
theorem ck_X4_init : zckm 13 tb_X4_init 2 = true := by decide +kernel
set_option maxRecDepth 100000 in
theorem ck_X4_add : zckm 14 tb_X4_add 2 = true := by decide +kernel
set_option maxRecDepth 100000 in
theorem ck_X4_get : zckm 15 tb_X4_get 2 = true := by decide +kernel
set_option maxRecDepth 100000 in
theorem ck_X4_round : zckm 16 tb_X4_round 2 = true := by decide +kernel
set_option maxRecDepth 100000 in
theorem ck_X4_copy : zckm 17 tb_X4_copy 2 = true := by decide +kernel
set_option maxRecDepth 100000 in
theorem ck_X5_init : zckm 18 tb_X5_init 1 = true := by decide +kernel
set_option maxRecDepth 100000 in
theorem ck_X5_clear : zckm 19 tb_X5_clear 1 = true := by decide +kernel
set_option maxRecDepth 100000 in
theorem ck_X5_addTurbine : zckm 20 tb_X5_addTurbine 6 = true := by decide +kernel
set_option maxRecDepth 100000 in
theorem ck_X5_byName : zckm 21 tb_X5_byName 4 = true := by decide +kernel
set_option maxRecDepth 100000 in
theorem ck_X5_isTaken : zckm 22 tb_X5_isTaken 3 = true := by decide +kernel
set_option maxRecDepth 100000 in
theorem ck_X5_priceAt : zckm 23 tb_X5_priceAt 2 = true := by decide +kernel
set_option maxRecDepth 100000 in
theorem ck_X5_isSlack : zckm 24 tb_X5_isSlack 2 = true := by decide +kernel
set_option maxRecDepth 100000 in
theorem ck_X5_tenths : zckm 25 tb_X5_tenths 10 = true := by decide +kernel
set_option maxRecDepth 100000 in
theorem ck_X5_takenOf : zckm 26 tb_X5_takenOf 4 = true := by decide +kernel
set_option maxRecDepth 100000 in
theorem ck_X5_gives : zckm 27 tb_X5_gives 8 = true := by decide +kernel
set_option maxRecDepth 100000 in
theorem ck_X5_turnedBy : zckm 28 tb_X5_turnedBy 1 = true := by decide +kernel
set_option maxRecDepth 100000 in
theorem ck_X5_left : zckm 29 tb_X5_left 2 = true := by decide +kernel
set_option maxRecDepth 100000 in
theorem ck_X5_drift : zckm 30 tb_X5_drift 3 = true := by decide +kernel
set_option maxRecDepth 100000 in
theorem ck_X5_only : zckm 31 tb_X5_only 2 = true := by decide +kernel
set_option maxRecDepth 100000 in
theorem ck_X6_init : zckm 32 tb_X6_init 3 = true := by decide +kernel
set_option maxRecDepth 100000 in
theorem ck_X6_readPark : zckm 33 tb_X6_readPark 3 = true := by decide +kernel
set_option maxRecDepth 100000 in
theorem ck_X6_readDay : zckm 34 tb_X6_readDay 4 = true := by decide +kernel
set_option maxRecDepth 100000 in
theorem ck_X6_readParkLine : zckm 35 tb_X6_readParkLine 2 = true := by decide +kernel
set_option maxRecDepth 100000 in
theorem ck_X6_readTurbine : zckm 36 tb_X6_readTurbine 6 = true := by decide +kernel
set_option maxRecDepth 100000 in
theorem ck_X6_readCable : zckm 37 tb_X6_readCable 3 = true := by decide +kernel
set_option maxRecDepth 100000 in
theorem ck_X6_readGoal : zckm 38 tb_X6_readGoal 2 = true := by decide +kernel
set_option maxRecDepth 100000 in
theorem ck_X6_readList : zckm 39 tb_X6_readList 4 = true := by decide +kernel
set_option maxRecDepth 100000 in
theorem ck_X6_readWakes : zckm 40 tb_X6_readWakes 2 = true := by decide +kernel
set_option maxRecDepth 100000 in
theorem ck_X6_readWears : zckm 41 tb_X6_readWears 1 = true := by decide +kernel
set_option maxRecDepth 100000 in
theorem ck_X6_readSlack : zckm 42 tb_X6_readSlack 1 = true := by decide +kernel
set_option maxRecDepth 100000 in
theorem ck_X6_readE : zckm 43 tb_X6_readE 4 = true := by decide +kernel
set_option maxRecDepth 100000 in
theorem ck_X6_readTest : zckm 44 tb_X6_readTest 3 = true := by decide +kernel
set_option maxRecDepth 100000 in
theorem ck_X6_readSum : zckm 45 tb_X6_readSum 4 = true := by decide +kernel
set_option maxRecDepth 100000 in
theorem ck_X6_readProduct : zckm 46 tb_X6_readProduct 3 = true := by decide +kernel
set_option maxRecDepth 100000 in
theorem ck_X6_readPart : zckm 47 tb_X6_readPart 6 = true := by decide +kernel
set_option maxRecDepth 100000 in
theorem ck_X6_readDayLine : zckm 48 tb_X6_readDayLine 2 = true := by decide +kernel
set_option maxRecDepth 100000 in
theorem ck_X6_fail : zckm 49 tb_X6_fail 2 = true := by decide +kernel
set_option maxRecDepth 100000 in
theorem ck_X6_once : zckm 50 tb_X6_once 2 = true := by decide +kernel
set_option maxRecDepth 100000 in
theorem ck_X6_passSign : zckm 51 tb_X6_passSign 2 = true := by decide +kernel
set_option maxRecDepth 100000 in
theorem ck_X6_passWord : zckm 52 tb_X6_passWord 2 = true := by decide +kernel
set_option maxRecDepth 100000 in
theorem ck_X6_passNumber : zckm 53 tb_X6_passNumber 3 = true := by decide +kernel
set_option maxRecDepth 100000 in
theorem ck_X6_isNumber : zckm 54 tb_X6_isNumber 3 = true := by decide +kernel
set_option maxRecDepth 100000 in
theorem ck_X6_isName : zckm 55 tb_X6_isName 2 = true := by decide +kernel
set_option maxRecDepth 100000 in
theorem ck_X6_isTurbine : zckm 56 tb_X6_isTurbine 1 = true := by decide +kernel
set_option maxRecDepth 100000 in
theorem ck_X6_kindOf : zckm 57 tb_X6_kindOf 1 = true := by decide +kernel
set_option maxRecDepth 100000 in
theorem ck_X6_deedOf : zckm 58 tb_X6_deedOf 1 = true := by decide +kernel
set_option maxRecDepth 100000 in
theorem ck_X6_factOf : zckm 59 tb_X6_factOf 1 = true := by decide +kernel
