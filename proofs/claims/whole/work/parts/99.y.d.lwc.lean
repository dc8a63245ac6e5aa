def zlq (z : Nat × ZE) : Bool := zok "WakeParkLaw" false 7 cL_law z && zokr (some .boolean) z.2
set_option maxRecDepth 100000 in
theorem ck_L_0 : ((tb_L_law.drop 0).take 25).all zlq = true := by decide +kernel
set_option maxRecDepth 100000 in
theorem ck_L_1 : ((tb_L_law.drop 25).take 25).all zlq = true := by decide +kernel
set_option maxRecDepth 100000 in
theorem ck_L_2 : ((tb_L_law.drop 50).take 25).all zlq = true := by decide +kernel
set_option maxRecDepth 100000 in
theorem ck_L_3 : ((tb_L_law.drop 75).take 25).all zlq = true := by decide +kernel
set_option maxRecDepth 100000 in
theorem ck_L_4 : ((tb_L_law.drop 100).take 25).all zlq = true := by decide +kernel
set_option maxRecDepth 100000 in
theorem ck_L_5 : ((tb_L_law.drop 125).take 25).all zlq = true := by decide +kernel
set_option maxRecDepth 100000 in
theorem ck_L_6 : ((tb_L_law.drop 150).take 25).all zlq = true := by decide +kernel
set_option maxRecDepth 100000 in
theorem ck_L_7 : ((tb_L_law.drop 175).take 25).all zlq = true := by decide +kernel
set_option maxRecDepth 100000 in
theorem ck_L_8 : ((tb_L_law.drop 200).take 25).all zlq = true := by decide +kernel
set_option maxRecDepth 100000 in
theorem ck_L_9 : ((tb_L_law.drop 225).take 25).all zlq = true := by decide +kernel
set_option maxRecDepth 100000 in
theorem ck_L_10 : ((tb_L_law.drop 250).take 25).all zlq = true := by decide +kernel
set_option maxRecDepth 100000 in
theorem ck_L_11 : ((tb_L_law.drop 275).take 25).all zlq = true := by decide +kernel
set_option maxRecDepth 100000 in
theorem ck_L_12 : ((tb_L_law.drop 300).take 25).all zlq = true := by decide +kernel
set_option maxRecDepth 100000 in
theorem ck_L_13 : ((tb_L_law.drop 325).take 25).all zlq = true := by decide +kernel
set_option maxRecDepth 100000 in
theorem ck_L_14 : ((tb_L_law.drop 350).take 25).all zlq = true := by decide +kernel
set_option maxRecDepth 100000 in
theorem ck_L_15 : ((tb_L_law.drop 375).take 25).all zlq = true := by decide +kernel
set_option maxRecDepth 100000 in
theorem ck_L_16 : ((tb_L_law.drop 400).take 25).all zlq = true := by decide +kernel
set_option maxRecDepth 100000 in
theorem ck_L_17 : ((tb_L_law.drop 425).take 25).all zlq = true := by decide +kernel
set_option maxRecDepth 100000 in
theorem ck_L_18 : ((tb_L_law.drop 450).take 25).all zlq = true := by decide +kernel
set_option maxRecDepth 100000 in
theorem ck_L_19 : ((tb_L_law.drop 475).take 25).all zlq = true := by decide +kernel
set_option maxRecDepth 100000 in
theorem ck_L_20 : ((tb_L_law.drop 500).take 25).all zlq = true := by decide +kernel
set_option maxRecDepth 100000 in
theorem ck_L_21 : ((tb_L_law.drop 525).take 25).all zlq = true := by decide +kernel
set_option maxRecDepth 100000 in
theorem ck_L_22 : ((tb_L_law.drop 550).take 25).all zlq = true := by decide +kernel
set_option maxRecDepth 100000 in
theorem ck_L_23 : ((tb_L_law.drop 575).take 25).all zlq = true := by decide +kernel
set_option maxRecDepth 100000 in
theorem ck_L_24 : ((tb_L_law.drop 600).take 25).all zlq = true := by decide +kernel
set_option maxRecDepth 100000 in
theorem ck_L_25 : ((tb_L_law.drop 625).take 25).all zlq = true := by decide +kernel
set_option maxRecDepth 100000 in
theorem ck_L_26 : ((tb_L_law.drop 650).take 25).all zlq = true := by decide +kernel
set_option maxRecDepth 100000 in
theorem ck_L_27 : ((tb_L_law.drop 675).take 25).all zlq = true := by decide +kernel
set_option maxRecDepth 100000 in
theorem ck_L_28 : ((tb_L_law.drop 700).take 25).all zlq = true := by decide +kernel
set_option maxRecDepth 100000 in
theorem ck_L_29 : ((tb_L_law.drop 725).take 25).all zlq = true := by decide +kernel
set_option maxRecDepth 100000 in
theorem ck_L_30 : ((tb_L_law.drop 750).take 25).all zlq = true := by decide +kernel
set_option maxRecDepth 100000 in
theorem ck_L_31 : ((tb_L_law.drop 775).take 25).all zlq = true := by decide +kernel
set_option maxRecDepth 100000 in
theorem ck_L_32 : ((tb_L_law.drop 800).take 25).all zlq = true := by decide +kernel
theorem zall_cut {α : Type} {f : α → Bool} {l : List α} {n : Nat} (h1 : (l.take n).all f = true) (h2 : (l.drop n).all f = true) : l.all f = true := by
  rw [← List.take_append_drop n l, List.all_append, h1, h2]
  rfl
theorem ck_Lw_33 : (tb_L_law.drop 825).all zlq = true := by decide +kernel
theorem ck_Lw_32 : (tb_L_law.drop 800).all zlq = true := zall_cut (n := 25) ck_L_32 (by rw [List.drop_drop]; exact ck_Lw_33)
theorem ck_Lw_31 : (tb_L_law.drop 775).all zlq = true := zall_cut (n := 25) ck_L_31 (by rw [List.drop_drop]; exact ck_Lw_32)
theorem ck_Lw_30 : (tb_L_law.drop 750).all zlq = true := zall_cut (n := 25) ck_L_30 (by rw [List.drop_drop]; exact ck_Lw_31)
theorem ck_Lw_29 : (tb_L_law.drop 725).all zlq = true := zall_cut (n := 25) ck_L_29 (by rw [List.drop_drop]; exact ck_Lw_30)
theorem ck_Lw_28 : (tb_L_law.drop 700).all zlq = true := zall_cut (n := 25) ck_L_28 (by rw [List.drop_drop]; exact ck_Lw_29)
theorem ck_Lw_27 : (tb_L_law.drop 675).all zlq = true := zall_cut (n := 25) ck_L_27 (by rw [List.drop_drop]; exact ck_Lw_28)
theorem ck_Lw_26 : (tb_L_law.drop 650).all zlq = true := zall_cut (n := 25) ck_L_26 (by rw [List.drop_drop]; exact ck_Lw_27)
theorem ck_Lw_25 : (tb_L_law.drop 625).all zlq = true := zall_cut (n := 25) ck_L_25 (by rw [List.drop_drop]; exact ck_Lw_26)
theorem ck_Lw_24 : (tb_L_law.drop 600).all zlq = true := zall_cut (n := 25) ck_L_24 (by rw [List.drop_drop]; exact ck_Lw_25)
theorem ck_Lw_23 : (tb_L_law.drop 575).all zlq = true := zall_cut (n := 25) ck_L_23 (by rw [List.drop_drop]; exact ck_Lw_24)
theorem ck_Lw_22 : (tb_L_law.drop 550).all zlq = true := zall_cut (n := 25) ck_L_22 (by rw [List.drop_drop]; exact ck_Lw_23)
theorem ck_Lw_21 : (tb_L_law.drop 525).all zlq = true := zall_cut (n := 25) ck_L_21 (by rw [List.drop_drop]; exact ck_Lw_22)
theorem ck_Lw_20 : (tb_L_law.drop 500).all zlq = true := zall_cut (n := 25) ck_L_20 (by rw [List.drop_drop]; exact ck_Lw_21)
theorem ck_Lw_19 : (tb_L_law.drop 475).all zlq = true := zall_cut (n := 25) ck_L_19 (by rw [List.drop_drop]; exact ck_Lw_20)
theorem ck_Lw_18 : (tb_L_law.drop 450).all zlq = true := zall_cut (n := 25) ck_L_18 (by rw [List.drop_drop]; exact ck_Lw_19)
theorem ck_Lw_17 : (tb_L_law.drop 425).all zlq = true := zall_cut (n := 25) ck_L_17 (by rw [List.drop_drop]; exact ck_Lw_18)
theorem ck_Lw_16 : (tb_L_law.drop 400).all zlq = true := zall_cut (n := 25) ck_L_16 (by rw [List.drop_drop]; exact ck_Lw_17)
theorem ck_Lw_15 : (tb_L_law.drop 375).all zlq = true := zall_cut (n := 25) ck_L_15 (by rw [List.drop_drop]; exact ck_Lw_16)
theorem ck_Lw_14 : (tb_L_law.drop 350).all zlq = true := zall_cut (n := 25) ck_L_14 (by rw [List.drop_drop]; exact ck_Lw_15)
theorem ck_Lw_13 : (tb_L_law.drop 325).all zlq = true := zall_cut (n := 25) ck_L_13 (by rw [List.drop_drop]; exact ck_Lw_14)
theorem ck_Lw_12 : (tb_L_law.drop 300).all zlq = true := zall_cut (n := 25) ck_L_12 (by rw [List.drop_drop]; exact ck_Lw_13)
theorem ck_Lw_11 : (tb_L_law.drop 275).all zlq = true := zall_cut (n := 25) ck_L_11 (by rw [List.drop_drop]; exact ck_Lw_12)
theorem ck_Lw_10 : (tb_L_law.drop 250).all zlq = true := zall_cut (n := 25) ck_L_10 (by rw [List.drop_drop]; exact ck_Lw_11)
theorem ck_Lw_9 : (tb_L_law.drop 225).all zlq = true := zall_cut (n := 25) ck_L_9 (by rw [List.drop_drop]; exact ck_Lw_10)
theorem ck_Lw_8 : (tb_L_law.drop 200).all zlq = true := zall_cut (n := 25) ck_L_8 (by rw [List.drop_drop]; exact ck_Lw_9)
theorem ck_Lw_7 : (tb_L_law.drop 175).all zlq = true := zall_cut (n := 25) ck_L_7 (by rw [List.drop_drop]; exact ck_Lw_8)
theorem ck_Lw_6 : (tb_L_law.drop 150).all zlq = true := zall_cut (n := 25) ck_L_6 (by rw [List.drop_drop]; exact ck_Lw_7)
theorem ck_Lw_5 : (tb_L_law.drop 125).all zlq = true := zall_cut (n := 25) ck_L_5 (by rw [List.drop_drop]; exact ck_Lw_6)
theorem ck_Lw_4 : (tb_L_law.drop 100).all zlq = true := zall_cut (n := 25) ck_L_4 (by rw [List.drop_drop]; exact ck_Lw_5)
theorem ck_Lw_3 : (tb_L_law.drop 75).all zlq = true := zall_cut (n := 25) ck_L_3 (by rw [List.drop_drop]; exact ck_Lw_4)
theorem ck_Lw_2 : (tb_L_law.drop 50).all zlq = true := zall_cut (n := 25) ck_L_2 (by rw [List.drop_drop]; exact ck_Lw_3)
theorem ck_Lw_1 : (tb_L_law.drop 25).all zlq = true := zall_cut (n := 25) ck_L_1 (by rw [List.drop_drop]; exact ck_Lw_2)
theorem ck_Lw_0 : (tb_L_law.drop 0).all zlq = true := zall_cut (n := 25) ck_L_0 (by rw [List.drop_drop]; exact ck_Lw_1)
theorem ck_L_law : tb_L_law.all zlq = true := ck_Lw_0
