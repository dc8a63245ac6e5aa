set_option maxRecDepth 100000 in
theorem ck_X12_straight : zckm 120 tb_X12_straight 1 = true := by decide +kernel
set_option maxRecDepth 100000 in
theorem ck_X12_full : zckm 121 tb_X12_full 3 = true := by decide +kernel
set_option maxRecDepth 100000 in
theorem ck_X12_dear : zckm 122 tb_X12_dear 4 = true := by decide +kernel
set_option maxRecDepth 100000 in
theorem ck_X12_fault : zckm 123 tb_X12_fault 2 = true := by decide +kernel
set_option maxRecDepth 100000 in
theorem ck_X12_robbed : zckm 124 tb_X12_robbed 4 = true := by decide +kernel
set_option maxRecDepth 100000 in
theorem ck_X12_front : zckm 125 tb_X12_front 3 = true := by decide +kernel
set_option maxRecDepth 100000 in
theorem ck_X12_shade : zckm 126 tb_X12_shade 4 = true := by decide +kernel
set_option maxRecDepth 100000 in
theorem ck_X12_hops : zckm 127 tb_X12_hops 5 = true := by decide +kernel
set_option maxRecDepth 100000 in
theorem ck_X12_see : zckm 128 tb_X12_see 3 = true := by decide +kernel
set_option maxRecDepth 100000 in
theorem ck_X12_winds : zckm 129 tb_X12_winds 2 = true := by decide +kernel
set_option maxRecDepth 100000 in
theorem ck_X12_ask : zckm 130 tb_X12_ask 5 = true := by decide +kernel
set_option maxRecDepth 100000 in
theorem ck_X12_chance : zckm 131 tb_X12_chance 7 = true := by decide +kernel
set_option maxRecDepth 100000 in
theorem ck_X12_rests : zckm 132 [] 9 = true := by decide +kernel
set_option maxRecDepth 100000 in
theorem ck_X12_days : zckm 133 tb_X12_days 11 = true := by decide +kernel
set_option maxRecDepth 100000 in
theorem ck_X12_mark : zckm 134 tb_X12_mark 4 = true := by decide +kernel
set_option maxRecDepth 100000 in
theorem ck_X12_count : zckm 135 tb_X12_count 2 = true := by decide +kernel
set_option maxRecDepth 100000 in
theorem ck_X12_stands : zckm 136 tb_X12_stands 2 = true := by decide +kernel
set_option maxRecDepth 100000 in
theorem ck_X12_act : zckm 137 tb_X12_act 4 = true := by decide +kernel
set_option maxRecDepth 100000 in
theorem ck_X12_remember : zckm 138 tb_X12_remember 1 = true := by decide +kernel
set_option maxRecDepth 100000 in
theorem ck_X12_forgetPast : zckm 139 tb_X12_forgetPast 1 = true := by decide +kernel
set_option maxRecDepth 100000 in
theorem ck_X12_forgetSearches : zckm 140 tb_X12_forgetSearches 2 = true := by decide +kernel
set_option maxRecDepth 100000 in
theorem ck_X12_takenNow : zckm 141 tb_X12_takenNow 3 = true := by decide +kernel
set_option maxRecDepth 100000 in
theorem ck_X12_searched : zckm 142 tb_X12_searched 4 = true := by decide +kernel
set_option maxRecDepth 100000 in
theorem ck_X12_ownWind : zckm 143 tb_X12_ownWind 5 = true := by decide +kernel
set_option maxRecDepth 100000 in
theorem ck_X12_isDigit : zckm 144 tb_X12_isDigit 1 = true := by decide +kernel
set_option maxRecDepth 100000 in
theorem ck_X12_keeps : zckm 145 tb_X12_keeps 5 = true := by decide +kernel
set_option maxRecDepth 100000 in
theorem ck_X12_gain : zckm 146 tb_X12_gain 5 = true := by decide +kernel
set_option maxRecDepth 100000 in
theorem ck_X12_drawn : zckm 147 tb_X12_drawn 2 = true := by decide +kernel
set_option maxRecDepth 100000 in
theorem ck_X12_below : zckm 148 tb_X12_below 3 = true := by decide +kernel
set_option maxRecDepth 100000 in
theorem ck_X13_init : zckm 149 tb_X13_init 1 = true := by decide +kernel
set_option maxRecDepth 100000 in
theorem ck_X13_thrown : zckm 150 tb_X13_thrown 1 = true := by decide +kernel
set_option maxRecDepth 100000 in
theorem ck_X13_within : zckm 151 tb_X13_within 3 = true := by decide +kernel
set_option maxRecDepth 100000 in
theorem ck_X13_between : zckm 152 tb_X13_between 3 = true := by decide +kernel
set_option maxRecDepth 100000 in
theorem ck_X13_feed : zckm 153 tb_X13_feed 11 = true := by decide +kernel
set_option maxRecDepth 100000 in
theorem ck_X13_signAt : zckm 154 tb_X13_signAt 2 = true := by decide +kernel
set_option maxRecDepth 100000 in
theorem ck_X13_nextToken : zckm 155 tb_X13_nextToken 2 = true := by decide +kernel
set_option maxRecDepth 100000 in
theorem ck_X13_isWord : zckm 156 tb_X13_isWord 3 = true := by decide +kernel
set_option maxRecDepth 100000 in
theorem ck_X13_isSign : zckm 157 tb_X13_isSign 2 = true := by decide +kernel
set_option maxRecDepth 100000 in
theorem ck_X13_fails : zckm 158 tb_X13_fails 2 = true := by decide +kernel
set_option maxRecDepth 100000 in
theorem ck_X13_usual : zckm 159 tb_X13_usual 3 = true := by decide +kernel
set_option maxRecDepth 100000 in
theorem ck_X13_puts : zckm 160 tb_X13_puts 2 = true := by decide +kernel
set_option maxRecDepth 100000 in
theorem ck_X13_fact : zckm 161 tb_X13_fact 1 = true := by decide +kernel
set_option maxRecDepth 100000 in
theorem ck_X13_reads : zckm 162 tb_X13_reads 6 = true := by decide +kernel
set_option maxRecDepth 100000 in
theorem ck_X13_opens : zckm 163 tb_X13_opens 2 = true := by decide +kernel
set_option maxRecDepth 100000 in
theorem ck_X13_sums : zckm 164 tb_X13_sums 2 = true := by decide +kernel
set_option maxRecDepth 100000 in
theorem ck_X13_tests : zckm 165 tb_X13_tests 3 = true := by decide +kernel
set_option maxRecDepth 100000 in
theorem ck_X13_worked : zckm 166 tb_X13_worked 6 = true := by decide +kernel
set_option maxRecDepth 100000 in
theorem ck_X13_isKept : zckm 167 tb_X13_isKept 1 = true := by decide +kernel
set_option maxRecDepth 100000 in
theorem ck_X13_turbineNamed : zckm 168 tb_X13_turbineNamed 3 = true := by decide +kernel
set_option maxRecDepth 100000 in
theorem ck_X13_needsNumber : zckm 169 tb_X13_needsNumber 3 = true := by decide +kernel
set_option maxRecDepth 100000 in
theorem ck_X13_needsBoth : zckm 170 tb_X13_needsBoth 5 = true := by decide +kernel
set_option maxRecDepth 100000 in
theorem ck_X13_closes : zckm 171 tb_X13_closes 1 = true := by decide +kernel
set_option maxRecDepth 100000 in
theorem ck_X13_needsTurbine : zckm 172 tb_X13_needsTurbine 2 = true := by decide +kernel
set_option maxRecDepth 100000 in
theorem ck_X13_stands : zckm 173 tb_X13_stands 3 = true := by decide +kernel
set_option maxRecDepth 100000 in
theorem ck_X13_readsTurbine : zckm 174 tb_X13_readsTurbine 4 = true := by decide +kernel
set_option maxRecDepth 100000 in
theorem ck_X13_readsCable : zckm 175 tb_X13_readsCable 3 = true := by decide +kernel
set_option maxRecDepth 100000 in
theorem ck_X13_isTold : zckm 176 tb_X13_isTold 3 = true := by decide +kernel
set_option maxRecDepth 100000 in
theorem ck_X13_readsRow : zckm 177 tb_X13_readsRow 4 = true := by decide +kernel
set_option maxRecDepth 100000 in
theorem ck_X13_readsOne : zckm 178 tb_X13_readsOne 3 = true := by decide +kernel
set_option maxRecDepth 100000 in
theorem ck_X13_readsWakes : zckm 179 tb_X13_readsWakes 2 = true := by decide +kernel
