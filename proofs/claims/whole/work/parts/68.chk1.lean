set_option maxRecDepth 100000 in
theorem ck_X7_init : zckm 60 tb_X7_init 1 = true := by decide +kernel
set_option maxRecDepth 100000 in
theorem ck_X7_seek : zckm 61 tb_X7_seek 9 = true := by decide +kernel
set_option maxRecDepth 100000 in
theorem ck_X7_foresee : zckm 62 tb_X7_foresee 11 = true := by decide +kernel
set_option maxRecDepth 100000 in
theorem ck_X7_listTries : zckm 63 tb_X7_listTries 6 = true := by decide +kernel
set_option maxRecDepth 100000 in
theorem ck_X7_isNew : zckm 64 tb_X7_isNew 5 = true := by decide +kernel
set_option maxRecDepth 100000 in
theorem ck_X7_isAlike : zckm 65 tb_X7_isAlike 5 = true := by decide +kernel
set_option maxRecDepth 100000 in
theorem ck_X7_angleOf : zckm 66 tb_X7_angleOf 2 = true := by decide +kernel
set_option maxRecDepth 100000 in
theorem ck_X7_keepRow : zckm 67 tb_X7_keepRow 3 = true := by decide +kernel
set_option maxRecDepth 100000 in
theorem ck_X7_next : zckm 68 tb_X7_next 3 = true := by decide +kernel
set_option maxRecDepth 100000 in
theorem ck_X7_addFrom : zckm 69 tb_X7_addFrom 6 = true := by decide +kernel
set_option maxRecDepth 100000 in
theorem ck_X7_giftOf : zckm 70 tb_X7_giftOf 4 = true := by decide +kernel
set_option maxRecDepth 100000 in
theorem ck_X7_sale : zckm 71 tb_X7_sale 5 = true := by decide +kernel
set_option maxRecDepth 100000 in
theorem ck_X7_share : zckm 72 tb_X7_share 5 = true := by decide +kernel
set_option maxRecDepth 100000 in
theorem ck_X8_init : zckm 73 tb_X8_init 1 = true := by decide +kernel
set_option maxRecDepth 100000 in
theorem ck_X8_begin : zckm 74 tb_X8_begin 2 = true := by decide +kernel
set_option maxRecDepth 100000 in
theorem ck_X8_copy : zckm 75 tb_X8_copy 2 = true := by decide +kernel
set_option maxRecDepth 100000 in
theorem ck_X8_everyone : zckm 76 tb_X8_everyone 2 = true := by decide +kernel
set_option maxRecDepth 100000 in
theorem ck_X8_isOpen : zckm 77 tb_X8_isOpen 2 = true := by decide +kernel
set_option maxRecDepth 100000 in
theorem ck_X8_isBroken : zckm 78 tb_X8_isBroken 2 = true := by decide +kernel
set_option maxRecDepth 100000 in
theorem ck_X8_runs : zckm 79 tb_X8_runs 2 = true := by decide +kernel
set_option maxRecDepth 100000 in
theorem ck_X8_can : zckm 80 tb_X8_can 4 = true := by decide +kernel
set_option maxRecDepth 100000 in
theorem ck_X8_act : zckm 81 tb_X8_act 6 = true := by decide +kernel
set_option maxRecDepth 100000 in
theorem ck_X8_wear : zckm 82 tb_X8_wear 5 = true := by decide +kernel
set_option maxRecDepth 100000 in
theorem ck_X9_init : zckm 83 tb_X9_init 1 = true := by decide +kernel
set_option maxRecDepth 100000 in
theorem ck_X9_put : zckm 84 tb_X9_put 6 = true := by decide +kernel
set_option maxRecDepth 100000 in
theorem ck_X9_clear : zckm 85 tb_X9_clear 1 = true := by decide +kernel
set_option maxRecDepth 100000 in
theorem ck_X9_start : zckm 86 tb_X9_start 1 = true := by decide +kernel
set_option maxRecDepth 100000 in
theorem ck_X9_pass : zckm 87 tb_X9_pass 2 = true := by decide +kernel
set_option maxRecDepth 100000 in
theorem ck_X9_takeWord : zckm 88 tb_X9_takeWord 4 = true := by decide +kernel
set_option maxRecDepth 100000 in
theorem ck_X9_takeNumber : zckm 89 tb_X9_takeNumber 3 = true := by decide +kernel
set_option maxRecDepth 100000 in
theorem ck_X9_isSign : zckm 90 tb_X9_isSign 1 = true := by decide +kernel
set_option maxRecDepth 100000 in
theorem ck_X10_init : zckm 91 tb_X10_init 1 = true := by decide +kernel
set_option maxRecDepth 100000 in
theorem ck_X10_guess : zckm 92 tb_X10_guess 8 = true := by decide +kernel
set_option maxRecDepth 100000 in
theorem ck_X10_mostAlike : zckm 93 tb_X10_mostAlike 5 = true := by decide +kernel
set_option maxRecDepth 100000 in
theorem ck_X10_note : zckm 94 tb_X10_note 3 = true := by decide +kernel
set_option maxRecDepth 100000 in
theorem ck_X10_isAsSeen : zckm 95 tb_X10_isAsSeen 4 = true := by decide +kernel
set_option maxRecDepth 100000 in
theorem ck_X12_init : zckm 96 tb_X12_init 2 = true := by decide +kernel
set_option maxRecDepth 100000 in
theorem ck_X12_feed : zckm 97 tb_X12_feed 7 = true := by decide +kernel
set_option maxRecDepth 100000 in
theorem ck_X12_park : zckm 98 tb_X12_park 4 = true := by decide +kernel
set_option maxRecDepth 100000 in
theorem ck_X12_day : zckm 99 tb_X12_day 1 = true := by decide +kernel
set_option maxRecDepth 100000 in
theorem ck_X12_turbine : zckm 100 tb_X12_turbine 3 = true := by decide +kernel
set_option maxRecDepth 100000 in
theorem ck_X12_wind : zckm 101 tb_X12_wind 2 = true := by decide +kernel
set_option maxRecDepth 100000 in
theorem ck_X12_power : zckm 102 tb_X12_power 2 = true := by decide +kernel
set_option maxRecDepth 100000 in
theorem ck_X12_carried : zckm 103 tb_X12_carried 2 = true := by decide +kernel
set_option maxRecDepth 100000 in
theorem ck_X12_home : zckm 104 tb_X12_home 1 = true := by decide +kernel
set_option maxRecDepth 100000 in
theorem ck_X12_turn : zckm 105 tb_X12_turn 4 = true := by decide +kernel
set_option maxRecDepth 100000 in
theorem ck_X12_shut : zckm 106 tb_X12_shut 2 = true := by decide +kernel
set_option maxRecDepth 100000 in
theorem ck_X12_open : zckm 107 tb_X12_open 2 = true := by decide +kernel
set_option maxRecDepth 100000 in
theorem ck_X12_mend : zckm 108 tb_X12_mend 2 = true := by decide +kernel
set_option maxRecDepth 100000 in
theorem ck_X12_step : zckm 109 tb_X12_step 1 = true := by decide +kernel
set_option maxRecDepth 100000 in
theorem ck_X12_undo : zckm 110 tb_X12_undo 1 = true := by decide +kernel
set_option maxRecDepth 100000 in
theorem ck_X12_judged : zckm 111 tb_X12_judged 8 = true := by decide +kernel
set_option maxRecDepth 100000 in
theorem ck_X12_takes : zckm 112 tb_X12_takes 3 = true := by decide +kernel
set_option maxRecDepth 100000 in
theorem ck_X12_later : zckm 113 tb_X12_later 3 = true := by decide +kernel
set_option maxRecDepth 100000 in
theorem ck_X12_total : zckm 114 tb_X12_total 4 = true := by decide +kernel
set_option maxRecDepth 100000 in
theorem ck_X12_breaks : zckm 115 tb_X12_breaks 3 = true := by decide +kernel
set_option maxRecDepth 100000 in
theorem ck_X12_lost : zckm 116 tb_X12_lost 1 = true := by decide +kernel
set_option maxRecDepth 100000 in
theorem ck_X12_best : zckm 117 tb_X12_best 2 = true := by decide +kernel
set_option maxRecDepth 100000 in
theorem ck_X12_alone : zckm 118 tb_X12_alone 3 = true := by decide +kernel
set_option maxRecDepth 100000 in
theorem ck_X12_idle : zckm 119 tb_X12_idle 6 = true := by decide +kernel
