section
-- ===== PART A: goes FIRST, ahead of the names: the tables' words, and 'selects' of the private methods out of them =====
/-- a private method of a class that the tables say can be made, by its rows of tables_1 -/
def lw_okq (q : MethodName × Nat) : Prop := (q.1.cls ≠ "java/lang/invoke/MethodHandle" ∧ q.1.cls ≠ "java/lang/invoke/VarHandle") ∧ Cond.instantiable q.1.cls q.2 ∈ tables_1 ∧ Cond.privateMethod q.1 ∈ tables_1 ∧ Cond.instanceMethod q.1 ∈ tables_1
theorem lw_p0 : lw_okq (⟨"WakePark$Tape", "takeWord", "(I)V"⟩, 8) := ⟨⟨by decide +kernel, by decide +kernel⟩, List.mem_of_getElem? (i := 32) (by decide +kernel), List.mem_of_getElem? (i := 491) (by decide +kernel), List.mem_of_getElem? (i := 492) (by decide +kernel)⟩
theorem lw_p1 : lw_okq (⟨"WakePark$Tape", "takeNumber", "(I)V"⟩, 8) := ⟨⟨by decide +kernel, by decide +kernel⟩, List.mem_of_getElem? (i := 32) (by decide +kernel), List.mem_of_getElem? (i := 498) (by decide +kernel), List.mem_of_getElem? (i := 499) (by decide +kernel)⟩
theorem lw_p2 : lw_okq (⟨"WakePark$Reader", "readParkLine", "()Z"⟩, 7) := ⟨⟨by decide +kernel, by decide +kernel⟩, List.mem_of_getElem? (i := 203) (by decide +kernel), List.mem_of_getElem? (i := 505) (by decide +kernel), List.mem_of_getElem? (i := 506) (by decide +kernel)⟩
theorem lw_p3 : lw_okq (⟨"WakePark$Reader", "fail", "(I)Z"⟩, 7) := ⟨⟨by decide +kernel, by decide +kernel⟩, List.mem_of_getElem? (i := 203) (by decide +kernel), List.mem_of_getElem? (i := 509) (by decide +kernel), List.mem_of_getElem? (i := 510) (by decide +kernel)⟩
theorem lw_p4 : lw_okq (⟨"WakePark$Reader", "readTurbine", "()Z"⟩, 7) := ⟨⟨by decide +kernel, by decide +kernel⟩, List.mem_of_getElem? (i := 203) (by decide +kernel), List.mem_of_getElem? (i := 521) (by decide +kernel), List.mem_of_getElem? (i := 522) (by decide +kernel)⟩
theorem lw_p5 : lw_okq (⟨"WakePark$Reader", "isName", "()Z"⟩, 7) := ⟨⟨by decide +kernel, by decide +kernel⟩, List.mem_of_getElem? (i := 203) (by decide +kernel), List.mem_of_getElem? (i := 526) (by decide +kernel), List.mem_of_getElem? (i := 527) (by decide +kernel)⟩
theorem lw_p6 : lw_okq (⟨"WakePark$Reader", "passWord", "(LWakePark$Word;)Z"⟩, 7) := ⟨⟨by decide +kernel, by decide +kernel⟩, List.mem_of_getElem? (i := 203) (by decide +kernel), List.mem_of_getElem? (i := 547) (by decide +kernel), List.mem_of_getElem? (i := 548) (by decide +kernel)⟩
theorem lw_p7 : lw_okq (⟨"WakePark$Reader", "passNumber", "(II)Z"⟩, 7) := ⟨⟨by decide +kernel, by decide +kernel⟩, List.mem_of_getElem? (i := 203) (by decide +kernel), List.mem_of_getElem? (i := 551) (by decide +kernel), List.mem_of_getElem? (i := 552) (by decide +kernel)⟩
theorem lw_p8 : lw_okq (⟨"WakePark$Reader", "isNumber", "(II)Z"⟩, 7) := ⟨⟨by decide +kernel, by decide +kernel⟩, List.mem_of_getElem? (i := 203) (by decide +kernel), List.mem_of_getElem? (i := 555) (by decide +kernel), List.mem_of_getElem? (i := 556) (by decide +kernel)⟩
theorem lw_p9 : lw_okq (⟨"WakePark$Reader", "passSign", "(I)Z"⟩, 7) := ⟨⟨by decide +kernel, by decide +kernel⟩, List.mem_of_getElem? (i := 203) (by decide +kernel), List.mem_of_getElem? (i := 569) (by decide +kernel), List.mem_of_getElem? (i := 570) (by decide +kernel)⟩
theorem lw_p10 : lw_okq (⟨"WakePark$Reader", "readCable", "()Z"⟩, 7) := ⟨⟨by decide +kernel, by decide +kernel⟩, List.mem_of_getElem? (i := 203) (by decide +kernel), List.mem_of_getElem? (i := 573) (by decide +kernel), List.mem_of_getElem? (i := 574) (by decide +kernel)⟩
theorem lw_p11 : lw_okq (⟨"WakePark$Reader", "isTurbine", "()Z"⟩, 7) := ⟨⟨by decide +kernel, by decide +kernel⟩, List.mem_of_getElem? (i := 203) (by decide +kernel), List.mem_of_getElem? (i := 577) (by decide +kernel), List.mem_of_getElem? (i := 578) (by decide +kernel)⟩
theorem lw_p12 : lw_okq (⟨"WakePark$Reader", "readGoal", "()Z"⟩, 7) := ⟨⟨by decide +kernel, by decide +kernel⟩, List.mem_of_getElem? (i := 203) (by decide +kernel), List.mem_of_getElem? (i := 581) (by decide +kernel), List.mem_of_getElem? (i := 582) (by decide +kernel)⟩
theorem lw_p13 : lw_okq (⟨"WakePark$Reader", "once", "(I)Z"⟩, 7) := ⟨⟨by decide +kernel, by decide +kernel⟩, List.mem_of_getElem? (i := 203) (by decide +kernel), List.mem_of_getElem? (i := 592) (by decide +kernel), List.mem_of_getElem? (i := 593) (by decide +kernel)⟩
theorem lw_p14 : lw_okq (⟨"WakePark$Reader", "readList", "(LWakePark$Numbers;I)Z"⟩, 7) := ⟨⟨by decide +kernel, by decide +kernel⟩, List.mem_of_getElem? (i := 203) (by decide +kernel), List.mem_of_getElem? (i := 596) (by decide +kernel), List.mem_of_getElem? (i := 597) (by decide +kernel)⟩
theorem lw_p15 : lw_okq (⟨"WakePark$Reader", "readWakes", "()Z"⟩, 7) := ⟨⟨by decide +kernel, by decide +kernel⟩, List.mem_of_getElem? (i := 203) (by decide +kernel), List.mem_of_getElem? (i := 600) (by decide +kernel), List.mem_of_getElem? (i := 601) (by decide +kernel)⟩
def lw_privs_1 : List (MethodName × Nat) := [(⟨"WakePark$Tape", "takeWord", "(I)V"⟩, 8), (⟨"WakePark$Tape", "takeNumber", "(I)V"⟩, 8), (⟨"WakePark$Reader", "readParkLine", "()Z"⟩, 7), (⟨"WakePark$Reader", "fail", "(I)Z"⟩, 7), (⟨"WakePark$Reader", "readTurbine", "()Z"⟩, 7), (⟨"WakePark$Reader", "isName", "()Z"⟩, 7), (⟨"WakePark$Reader", "passWord", "(LWakePark$Word;)Z"⟩, 7), (⟨"WakePark$Reader", "passNumber", "(II)Z"⟩, 7), (⟨"WakePark$Reader", "isNumber", "(II)Z"⟩, 7), (⟨"WakePark$Reader", "passSign", "(I)Z"⟩, 7), (⟨"WakePark$Reader", "readCable", "()Z"⟩, 7), (⟨"WakePark$Reader", "isTurbine", "()Z"⟩, 7), (⟨"WakePark$Reader", "readGoal", "()Z"⟩, 7), (⟨"WakePark$Reader", "once", "(I)Z"⟩, 7), (⟨"WakePark$Reader", "readList", "(LWakePark$Numbers;I)Z"⟩, 7), (⟨"WakePark$Reader", "readWakes", "()Z"⟩, 7)]
theorem lw_r1 : ∀ q ∈ lw_privs_1, lw_okq q := List.forall_mem_cons.mpr ⟨lw_p0, List.forall_mem_cons.mpr ⟨lw_p1, List.forall_mem_cons.mpr ⟨lw_p2, List.forall_mem_cons.mpr ⟨lw_p3, List.forall_mem_cons.mpr ⟨lw_p4, List.forall_mem_cons.mpr ⟨lw_p5, List.forall_mem_cons.mpr ⟨lw_p6, List.forall_mem_cons.mpr ⟨lw_p7, List.forall_mem_cons.mpr ⟨lw_p8, List.forall_mem_cons.mpr ⟨lw_p9, List.forall_mem_cons.mpr ⟨lw_p10, List.forall_mem_cons.mpr ⟨lw_p11, List.forall_mem_cons.mpr ⟨lw_p12, List.forall_mem_cons.mpr ⟨lw_p13, List.forall_mem_cons.mpr ⟨lw_p14, List.forall_mem_cons.mpr ⟨lw_p15, fun _ h => absurd h List.not_mem_nil⟩⟩⟩⟩⟩⟩⟩⟩⟩⟩⟩⟩⟩⟩⟩⟩
theorem lw_p16 : lw_okq (⟨"WakePark$Reader", "readWears", "()Z"⟩, 7) := ⟨⟨by decide +kernel, by decide +kernel⟩, List.mem_of_getElem? (i := 203) (by decide +kernel), List.mem_of_getElem? (i := 604) (by decide +kernel), List.mem_of_getElem? (i := 605) (by decide +kernel)⟩
theorem lw_p17 : lw_okq (⟨"WakePark$Reader", "readSlack", "()Z"⟩, 7) := ⟨⟨by decide +kernel, by decide +kernel⟩, List.mem_of_getElem? (i := 203) (by decide +kernel), List.mem_of_getElem? (i := 608) (by decide +kernel), List.mem_of_getElem? (i := 609) (by decide +kernel)⟩
theorem lw_p18 : lw_okq (⟨"WakePark$Reader", "readE", "(I)Z"⟩, 7) := ⟨⟨by decide +kernel, by decide +kernel⟩, List.mem_of_getElem? (i := 203) (by decide +kernel), List.mem_of_getElem? (i := 612) (by decide +kernel), List.mem_of_getElem? (i := 613) (by decide +kernel)⟩
theorem lw_p19 : lw_okq (⟨"WakePark$Reader", "readTest", "(I)Z"⟩, 7) := ⟨⟨by decide +kernel, by decide +kernel⟩, List.mem_of_getElem? (i := 203) (by decide +kernel), List.mem_of_getElem? (i := 616) (by decide +kernel), List.mem_of_getElem? (i := 617) (by decide +kernel)⟩
theorem lw_p20 : lw_okq (⟨"WakePark$Reader", "readSum", "(I)Z"⟩, 7) := ⟨⟨by decide +kernel, by decide +kernel⟩, List.mem_of_getElem? (i := 203) (by decide +kernel), List.mem_of_getElem? (i := 620) (by decide +kernel), List.mem_of_getElem? (i := 621) (by decide +kernel)⟩
theorem lw_p21 : lw_okq (⟨"WakePark$Reader", "readProduct", "(I)Z"⟩, 7) := ⟨⟨by decide +kernel, by decide +kernel⟩, List.mem_of_getElem? (i := 203) (by decide +kernel), List.mem_of_getElem? (i := 624) (by decide +kernel), List.mem_of_getElem? (i := 625) (by decide +kernel)⟩
theorem lw_p22 : lw_okq (⟨"WakePark$Reader", "readPart", "(I)Z"⟩, 7) := ⟨⟨by decide +kernel, by decide +kernel⟩, List.mem_of_getElem? (i := 203) (by decide +kernel), List.mem_of_getElem? (i := 628) (by decide +kernel), List.mem_of_getElem? (i := 629) (by decide +kernel)⟩
theorem lw_p23 : lw_okq (⟨"WakePark", "forgetPast", "()V"⟩, 15) := ⟨⟨by decide +kernel, by decide +kernel⟩, List.mem_of_getElem? (i := 24) (by decide +kernel), List.mem_of_getElem? (i := 653) (by decide +kernel), List.mem_of_getElem? (i := 654) (by decide +kernel)⟩
theorem lw_p24 : lw_okq (⟨"WakePark", "forgetSearches", "()V"⟩, 15) := ⟨⟨by decide +kernel, by decide +kernel⟩, List.mem_of_getElem? (i := 24) (by decide +kernel), List.mem_of_getElem? (i := 657) (by decide +kernel), List.mem_of_getElem? (i := 658) (by decide +kernel)⟩
theorem lw_p25 : lw_okq (⟨"WakePark$Reader", "readDayLine", "()Z"⟩, 7) := ⟨⟨by decide +kernel, by decide +kernel⟩, List.mem_of_getElem? (i := 203) (by decide +kernel), List.mem_of_getElem? (i := 669) (by decide +kernel), List.mem_of_getElem? (i := 670) (by decide +kernel)⟩
theorem lw_p26 : lw_okq (⟨"WakePark", "stands", "(I)Z"⟩, 15) := ⟨⟨by decide +kernel, by decide +kernel⟩, List.mem_of_getElem? (i := 24) (by decide +kernel), List.mem_of_getElem? (i := 700) (by decide +kernel), List.mem_of_getElem? (i := 701) (by decide +kernel)⟩
theorem lw_p27 : lw_okq (⟨"WakePark", "act", "(III)Z"⟩, 15) := ⟨⟨by decide +kernel, by decide +kernel⟩, List.mem_of_getElem? (i := 24) (by decide +kernel), List.mem_of_getElem? (i := 804) (by decide +kernel), List.mem_of_getElem? (i := 805) (by decide +kernel)⟩
theorem lw_p28 : lw_okq (⟨"WakePark", "remember", "()V"⟩, 15) := ⟨⟨by decide +kernel, by decide +kernel⟩, List.mem_of_getElem? (i := 24) (by decide +kernel), List.mem_of_getElem? (i := 816) (by decide +kernel), List.mem_of_getElem? (i := 817) (by decide +kernel)⟩
theorem lw_p29 : lw_okq (⟨"WakePark", "takenNow", "(II)I"⟩, 15) := ⟨⟨by decide +kernel, by decide +kernel⟩, List.mem_of_getElem? (i := 24) (by decide +kernel), List.mem_of_getElem? (i := 879) (by decide +kernel), List.mem_of_getElem? (i := 880) (by decide +kernel)⟩
theorem lw_p30 : lw_okq (⟨"WakePark", "searched", "(II)I"⟩, 15) := ⟨⟨by decide +kernel, by decide +kernel⟩, List.mem_of_getElem? (i := 24) (by decide +kernel), List.mem_of_getElem? (i := 906) (by decide +kernel), List.mem_of_getElem? (i := 907) (by decide +kernel)⟩
theorem lw_p31 : lw_okq (⟨"WakePark$Search", "foresee", "(LWakePark$Park;LWakePark$State;I)V"⟩, 9) := ⟨⟨by decide +kernel, by decide +kernel⟩, List.mem_of_getElem? (i := 384) (by decide +kernel), List.mem_of_getElem? (i := 914) (by decide +kernel), List.mem_of_getElem? (i := 915) (by decide +kernel)⟩
def lw_privs_2 : List (MethodName × Nat) := [(⟨"WakePark$Reader", "readWears", "()Z"⟩, 7), (⟨"WakePark$Reader", "readSlack", "()Z"⟩, 7), (⟨"WakePark$Reader", "readE", "(I)Z"⟩, 7), (⟨"WakePark$Reader", "readTest", "(I)Z"⟩, 7), (⟨"WakePark$Reader", "readSum", "(I)Z"⟩, 7), (⟨"WakePark$Reader", "readProduct", "(I)Z"⟩, 7), (⟨"WakePark$Reader", "readPart", "(I)Z"⟩, 7), (⟨"WakePark", "forgetPast", "()V"⟩, 15), (⟨"WakePark", "forgetSearches", "()V"⟩, 15), (⟨"WakePark$Reader", "readDayLine", "()Z"⟩, 7), (⟨"WakePark", "stands", "(I)Z"⟩, 15), (⟨"WakePark", "act", "(III)Z"⟩, 15), (⟨"WakePark", "remember", "()V"⟩, 15), (⟨"WakePark", "takenNow", "(II)I"⟩, 15), (⟨"WakePark", "searched", "(II)I"⟩, 15), (⟨"WakePark$Search", "foresee", "(LWakePark$Park;LWakePark$State;I)V"⟩, 9)]
theorem lw_r2 : ∀ q ∈ lw_privs_2, lw_okq q := List.forall_mem_cons.mpr ⟨lw_p16, List.forall_mem_cons.mpr ⟨lw_p17, List.forall_mem_cons.mpr ⟨lw_p18, List.forall_mem_cons.mpr ⟨lw_p19, List.forall_mem_cons.mpr ⟨lw_p20, List.forall_mem_cons.mpr ⟨lw_p21, List.forall_mem_cons.mpr ⟨lw_p22, List.forall_mem_cons.mpr ⟨lw_p23, List.forall_mem_cons.mpr ⟨lw_p24, List.forall_mem_cons.mpr ⟨lw_p25, List.forall_mem_cons.mpr ⟨lw_p26, List.forall_mem_cons.mpr ⟨lw_p27, List.forall_mem_cons.mpr ⟨lw_p28, List.forall_mem_cons.mpr ⟨lw_p29, List.forall_mem_cons.mpr ⟨lw_p30, List.forall_mem_cons.mpr ⟨lw_p31, fun _ h => absurd h List.not_mem_nil⟩⟩⟩⟩⟩⟩⟩⟩⟩⟩⟩⟩⟩⟩⟩⟩
theorem lw_p32 : lw_okq (⟨"WakePark$Search", "listTries", "(III)V"⟩, 9) := ⟨⟨by decide +kernel, by decide +kernel⟩, List.mem_of_getElem? (i := 384) (by decide +kernel), List.mem_of_getElem? (i := 923) (by decide +kernel), List.mem_of_getElem? (i := 924) (by decide +kernel)⟩
theorem lw_p33 : lw_okq (⟨"WakePark$Search", "isNew", "(III)Z"⟩, 9) := ⟨⟨by decide +kernel, by decide +kernel⟩, List.mem_of_getElem? (i := 384) (by decide +kernel), List.mem_of_getElem? (i := 927) (by decide +kernel), List.mem_of_getElem? (i := 928) (by decide +kernel)⟩
theorem lw_p34 : lw_okq (⟨"WakePark$Search", "isAlike", "(III)Z"⟩, 9) := ⟨⟨by decide +kernel, by decide +kernel⟩, List.mem_of_getElem? (i := 384) (by decide +kernel), List.mem_of_getElem? (i := 931) (by decide +kernel), List.mem_of_getElem? (i := 932) (by decide +kernel)⟩
theorem lw_p35 : lw_okq (⟨"WakePark$Search", "addFrom", "(II)V"⟩, 9) := ⟨⟨by decide +kernel, by decide +kernel⟩, List.mem_of_getElem? (i := 384) (by decide +kernel), List.mem_of_getElem? (i := 935) (by decide +kernel), List.mem_of_getElem? (i := 936) (by decide +kernel)⟩
theorem lw_p36 : lw_okq (⟨"WakePark$Search", "angleOf", "(I)I"⟩, 9) := ⟨⟨by decide +kernel, by decide +kernel⟩, List.mem_of_getElem? (i := 384) (by decide +kernel), List.mem_of_getElem? (i := 939) (by decide +kernel), List.mem_of_getElem? (i := 940) (by decide +kernel)⟩
theorem lw_p37 : lw_okq (⟨"WakePark$Search", "sale", "(LWakePark$Park;LWakePark$Flow;I)I"⟩, 9) := ⟨⟨by decide +kernel, by decide +kernel⟩, List.mem_of_getElem? (i := 384) (by decide +kernel), List.mem_of_getElem? (i := 944) (by decide +kernel), List.mem_of_getElem? (i := 945) (by decide +kernel)⟩
theorem lw_p38 : lw_okq (⟨"WakePark$Search", "giftOf", "(LWakePark$Park;I)I"⟩, 9) := ⟨⟨by decide +kernel, by decide +kernel⟩, List.mem_of_getElem? (i := 384) (by decide +kernel), List.mem_of_getElem? (i := 948) (by decide +kernel), List.mem_of_getElem? (i := 949) (by decide +kernel)⟩
theorem lw_p39 : lw_okq (⟨"WakePark$Search", "share", "(LWakePark$Park;I)I"⟩, 9) := ⟨⟨by decide +kernel, by decide +kernel⟩, List.mem_of_getElem? (i := 384) (by decide +kernel), List.mem_of_getElem? (i := 954) (by decide +kernel), List.mem_of_getElem? (i := 955) (by decide +kernel)⟩
theorem lw_p40 : lw_okq (⟨"WakePark$Search", "keepRow", "(I)V"⟩, 9) := ⟨⟨by decide +kernel, by decide +kernel⟩, List.mem_of_getElem? (i := 384) (by decide +kernel), List.mem_of_getElem? (i := 958) (by decide +kernel), List.mem_of_getElem? (i := 959) (by decide +kernel)⟩
theorem lw_p41 : lw_okq (⟨"WakePark$Search", "next", "(I)I"⟩, 9) := ⟨⟨by decide +kernel, by decide +kernel⟩, List.mem_of_getElem? (i := 384) (by decide +kernel), List.mem_of_getElem? (i := 962) (by decide +kernel), List.mem_of_getElem? (i := 963) (by decide +kernel)⟩
theorem lw_p42 : lw_okq (⟨"WakePark", "ownWind", "(LWakePark$State;I)I"⟩, 15) := ⟨⟨by decide +kernel, by decide +kernel⟩, List.mem_of_getElem? (i := 24) (by decide +kernel), List.mem_of_getElem? (i := 1001) (by decide +kernel), List.mem_of_getElem? (i := 1002) (by decide +kernel)⟩
theorem lw_p43 : lw_okq (⟨"WakePark$Winds", "note", "(II)V"⟩, 7) := ⟨⟨by decide +kernel, by decide +kernel⟩, List.mem_of_getElem? (i := 315) (by decide +kernel), List.mem_of_getElem? (i := 1037) (by decide +kernel), List.mem_of_getElem? (i := 1038) (by decide +kernel)⟩
theorem lw_p44 : lw_okq (⟨"java/lang/Throwable", "fillInStackTrace", "(I)Ljava/lang/Throwable;"⟩, 6) := ⟨⟨by decide +kernel, by decide +kernel⟩, List.mem_of_getElem? (i := 1134) (by decide +kernel), List.mem_of_getElem? (i := 1132) (by decide +kernel), List.mem_of_getElem? (i := 1133) (by decide +kernel)⟩
theorem lw_p45 : lw_okq (⟨"WakeParkModel", "usual", "(I)V"⟩, 60) := ⟨⟨by decide +kernel, by decide +kernel⟩, List.mem_of_getElem? (i := 1165) (by decide +kernel), List.mem_of_getElem? (i := 1171) (by decide +kernel), List.mem_of_getElem? (i := 1172) (by decide +kernel)⟩
theorem lw_p46 : lw_okq (⟨"WakeParkModel", "fresh0", "()V"⟩, 60) := ⟨⟨by decide +kernel, by decide +kernel⟩, List.mem_of_getElem? (i := 1165) (by decide +kernel), List.mem_of_getElem? (i := 1175) (by decide +kernel), List.mem_of_getElem? (i := 1176) (by decide +kernel)⟩
theorem lw_p47 : lw_okq (⟨"WakeParkModel", "readsAll", "()Z"⟩, 60) := ⟨⟨by decide +kernel, by decide +kernel⟩, List.mem_of_getElem? (i := 1165) (by decide +kernel), List.mem_of_getElem? (i := 1373) (by decide +kernel), List.mem_of_getElem? (i := 1374) (by decide +kernel)⟩
def lw_privs_3 : List (MethodName × Nat) := [(⟨"WakePark$Search", "listTries", "(III)V"⟩, 9), (⟨"WakePark$Search", "isNew", "(III)Z"⟩, 9), (⟨"WakePark$Search", "isAlike", "(III)Z"⟩, 9), (⟨"WakePark$Search", "addFrom", "(II)V"⟩, 9), (⟨"WakePark$Search", "angleOf", "(I)I"⟩, 9), (⟨"WakePark$Search", "sale", "(LWakePark$Park;LWakePark$Flow;I)I"⟩, 9), (⟨"WakePark$Search", "giftOf", "(LWakePark$Park;I)I"⟩, 9), (⟨"WakePark$Search", "share", "(LWakePark$Park;I)I"⟩, 9), (⟨"WakePark$Search", "keepRow", "(I)V"⟩, 9), (⟨"WakePark$Search", "next", "(I)I"⟩, 9), (⟨"WakePark", "ownWind", "(LWakePark$State;I)I"⟩, 15), (⟨"WakePark$Winds", "note", "(II)V"⟩, 7), (⟨"java/lang/Throwable", "fillInStackTrace", "(I)Ljava/lang/Throwable;"⟩, 6), (⟨"WakeParkModel", "usual", "(I)V"⟩, 60), (⟨"WakeParkModel", "fresh0", "()V"⟩, 60), (⟨"WakeParkModel", "readsAll", "()Z"⟩, 60)]
theorem lw_r3 : ∀ q ∈ lw_privs_3, lw_okq q := List.forall_mem_cons.mpr ⟨lw_p32, List.forall_mem_cons.mpr ⟨lw_p33, List.forall_mem_cons.mpr ⟨lw_p34, List.forall_mem_cons.mpr ⟨lw_p35, List.forall_mem_cons.mpr ⟨lw_p36, List.forall_mem_cons.mpr ⟨lw_p37, List.forall_mem_cons.mpr ⟨lw_p38, List.forall_mem_cons.mpr ⟨lw_p39, List.forall_mem_cons.mpr ⟨lw_p40, List.forall_mem_cons.mpr ⟨lw_p41, List.forall_mem_cons.mpr ⟨lw_p42, List.forall_mem_cons.mpr ⟨lw_p43, List.forall_mem_cons.mpr ⟨lw_p44, List.forall_mem_cons.mpr ⟨lw_p45, List.forall_mem_cons.mpr ⟨lw_p46, List.forall_mem_cons.mpr ⟨lw_p47, fun _ h => absurd h List.not_mem_nil⟩⟩⟩⟩⟩⟩⟩⟩⟩⟩⟩⟩⟩⟩⟩⟩
theorem lw_p48 : lw_okq (⟨"WakeParkModel", "begins", "()V"⟩, 60) := ⟨⟨by decide +kernel, by decide +kernel⟩, List.mem_of_getElem? (i := 1165) (by decide +kernel), List.mem_of_getElem? (i := 1377) (by decide +kernel), List.mem_of_getElem? (i := 1378) (by decide +kernel)⟩
theorem lw_p49 : lw_okq (⟨"WakeParkModel", "nextToken", "()V"⟩, 60) := ⟨⟨by decide +kernel, by decide +kernel⟩, List.mem_of_getElem? (i := 1165) (by decide +kernel), List.mem_of_getElem? (i := 1381) (by decide +kernel), List.mem_of_getElem? (i := 1382) (by decide +kernel)⟩
theorem lw_p50 : lw_okq (⟨"WakeParkModel", "signAt", "(I)I"⟩, 60) := ⟨⟨by decide +kernel, by decide +kernel⟩, List.mem_of_getElem? (i := 1165) (by decide +kernel), List.mem_of_getElem? (i := 1385) (by decide +kernel), List.mem_of_getElem? (i := 1386) (by decide +kernel)⟩
theorem lw_p51 : lw_okq (⟨"WakeParkModel", "readsPark", "()Z"⟩, 60) := ⟨⟨by decide +kernel, by decide +kernel⟩, List.mem_of_getElem? (i := 1165) (by decide +kernel), List.mem_of_getElem? (i := 1391) (by decide +kernel), List.mem_of_getElem? (i := 1392) (by decide +kernel)⟩
theorem lw_p52 : lw_okq (⟨"WakeParkModel", "isWord", "(J)Z"⟩, 60) := ⟨⟨by decide +kernel, by decide +kernel⟩, List.mem_of_getElem? (i := 1165) (by decide +kernel), List.mem_of_getElem? (i := 1396) (by decide +kernel), List.mem_of_getElem? (i := 1397) (by decide +kernel)⟩
theorem lw_p53 : lw_okq (⟨"WakeParkModel", "readsTurbine", "()Z"⟩, 60) := ⟨⟨by decide +kernel, by decide +kernel⟩, List.mem_of_getElem? (i := 1165) (by decide +kernel), List.mem_of_getElem? (i := 1400) (by decide +kernel), List.mem_of_getElem? (i := 1401) (by decide +kernel)⟩
theorem lw_p54 : lw_okq (⟨"WakeParkModel", "fails", "(I)Z"⟩, 60) := ⟨⟨by decide +kernel, by decide +kernel⟩, List.mem_of_getElem? (i := 1165) (by decide +kernel), List.mem_of_getElem? (i := 1404) (by decide +kernel), List.mem_of_getElem? (i := 1405) (by decide +kernel)⟩
theorem lw_p55 : lw_okq (⟨"WakeParkModel", "isKept", "()Z"⟩, 60) := ⟨⟨by decide +kernel, by decide +kernel⟩, List.mem_of_getElem? (i := 1165) (by decide +kernel), List.mem_of_getElem? (i := 1408) (by decide +kernel), List.mem_of_getElem? (i := 1409) (by decide +kernel)⟩
theorem lw_p56 : lw_okq (⟨"WakeParkModel", "turbineNamed", "(I)I"⟩, 60) := ⟨⟨by decide +kernel, by decide +kernel⟩, List.mem_of_getElem? (i := 1165) (by decide +kernel), List.mem_of_getElem? (i := 1437) (by decide +kernel), List.mem_of_getElem? (i := 1438) (by decide +kernel)⟩
theorem lw_p57 : lw_okq (⟨"WakeParkModel", "needsBoth", "(JII)Z"⟩, 60) := ⟨⟨by decide +kernel, by decide +kernel⟩, List.mem_of_getElem? (i := 1165) (by decide +kernel), List.mem_of_getElem? (i := 1441) (by decide +kernel), List.mem_of_getElem? (i := 1442) (by decide +kernel)⟩
theorem lw_p58 : lw_okq (⟨"WakeParkModel", "needsNumber", "(II)Z"⟩, 60) := ⟨⟨by decide +kernel, by decide +kernel⟩, List.mem_of_getElem? (i := 1165) (by decide +kernel), List.mem_of_getElem? (i := 1445) (by decide +kernel), List.mem_of_getElem? (i := 1446) (by decide +kernel)⟩
theorem lw_p59 : lw_okq (⟨"WakeParkModel", "stands", "(I)Z"⟩, 60) := ⟨⟨by decide +kernel, by decide +kernel⟩, List.mem_of_getElem? (i := 1165) (by decide +kernel), List.mem_of_getElem? (i := 1452) (by decide +kernel), List.mem_of_getElem? (i := 1453) (by decide +kernel)⟩
theorem lw_p60 : lw_okq (⟨"WakeParkModel", "closes", "()Z"⟩, 60) := ⟨⟨by decide +kernel, by decide +kernel⟩, List.mem_of_getElem? (i := 1165) (by decide +kernel), List.mem_of_getElem? (i := 1456) (by decide +kernel), List.mem_of_getElem? (i := 1457) (by decide +kernel)⟩
theorem lw_p61 : lw_okq (⟨"WakeParkModel", "isSign", "(I)Z"⟩, 60) := ⟨⟨by decide +kernel, by decide +kernel⟩, List.mem_of_getElem? (i := 1165) (by decide +kernel), List.mem_of_getElem? (i := 1460) (by decide +kernel), List.mem_of_getElem? (i := 1461) (by decide +kernel)⟩
theorem lw_p62 : lw_okq (⟨"WakeParkModel", "readsCable", "()Z"⟩, 60) := ⟨⟨by decide +kernel, by decide +kernel⟩, List.mem_of_getElem? (i := 1165) (by decide +kernel), List.mem_of_getElem? (i := 1464) (by decide +kernel), List.mem_of_getElem? (i := 1465) (by decide +kernel)⟩
theorem lw_p63 : lw_okq (⟨"WakeParkModel", "needsTurbine", "(I)Z"⟩, 60) := ⟨⟨by decide +kernel, by decide +kernel⟩, List.mem_of_getElem? (i := 1165) (by decide +kernel), List.mem_of_getElem? (i := 1468) (by decide +kernel), List.mem_of_getElem? (i := 1469) (by decide +kernel)⟩
def lw_privs_4 : List (MethodName × Nat) := [(⟨"WakeParkModel", "begins", "()V"⟩, 60), (⟨"WakeParkModel", "nextToken", "()V"⟩, 60), (⟨"WakeParkModel", "signAt", "(I)I"⟩, 60), (⟨"WakeParkModel", "readsPark", "()Z"⟩, 60), (⟨"WakeParkModel", "isWord", "(J)Z"⟩, 60), (⟨"WakeParkModel", "readsTurbine", "()Z"⟩, 60), (⟨"WakeParkModel", "fails", "(I)Z"⟩, 60), (⟨"WakeParkModel", "isKept", "()Z"⟩, 60), (⟨"WakeParkModel", "turbineNamed", "(I)I"⟩, 60), (⟨"WakeParkModel", "needsBoth", "(JII)Z"⟩, 60), (⟨"WakeParkModel", "needsNumber", "(II)Z"⟩, 60), (⟨"WakeParkModel", "stands", "(I)Z"⟩, 60), (⟨"WakeParkModel", "closes", "()Z"⟩, 60), (⟨"WakeParkModel", "isSign", "(I)Z"⟩, 60), (⟨"WakeParkModel", "readsCable", "()Z"⟩, 60), (⟨"WakeParkModel", "needsTurbine", "(I)Z"⟩, 60)]
theorem lw_r4 : ∀ q ∈ lw_privs_4, lw_okq q := List.forall_mem_cons.mpr ⟨lw_p48, List.forall_mem_cons.mpr ⟨lw_p49, List.forall_mem_cons.mpr ⟨lw_p50, List.forall_mem_cons.mpr ⟨lw_p51, List.forall_mem_cons.mpr ⟨lw_p52, List.forall_mem_cons.mpr ⟨lw_p53, List.forall_mem_cons.mpr ⟨lw_p54, List.forall_mem_cons.mpr ⟨lw_p55, List.forall_mem_cons.mpr ⟨lw_p56, List.forall_mem_cons.mpr ⟨lw_p57, List.forall_mem_cons.mpr ⟨lw_p58, List.forall_mem_cons.mpr ⟨lw_p59, List.forall_mem_cons.mpr ⟨lw_p60, List.forall_mem_cons.mpr ⟨lw_p61, List.forall_mem_cons.mpr ⟨lw_p62, List.forall_mem_cons.mpr ⟨lw_p63, fun _ h => absurd h List.not_mem_nil⟩⟩⟩⟩⟩⟩⟩⟩⟩⟩⟩⟩⟩⟩⟩⟩
theorem lw_p64 : lw_okq (⟨"WakeParkModel", "readsRow", "(II)Z"⟩, 60) := ⟨⟨by decide +kernel, by decide +kernel⟩, List.mem_of_getElem? (i := 1165) (by decide +kernel), List.mem_of_getElem? (i := 1472) (by decide +kernel), List.mem_of_getElem? (i := 1473) (by decide +kernel)⟩
theorem lw_p65 : lw_okq (⟨"WakeParkModel", "isTold", "(I)Z"⟩, 60) := ⟨⟨by decide +kernel, by decide +kernel⟩, List.mem_of_getElem? (i := 1165) (by decide +kernel), List.mem_of_getElem? (i := 1476) (by decide +kernel), List.mem_of_getElem? (i := 1477) (by decide +kernel)⟩
theorem lw_p66 : lw_okq (⟨"WakeParkModel", "readsWakes", "()Z"⟩, 60) := ⟨⟨by decide +kernel, by decide +kernel⟩, List.mem_of_getElem? (i := 1165) (by decide +kernel), List.mem_of_getElem? (i := 1480) (by decide +kernel), List.mem_of_getElem? (i := 1481) (by decide +kernel)⟩
theorem lw_p67 : lw_okq (⟨"WakeParkModel", "readsOne", "(II)Z"⟩, 60) := ⟨⟨by decide +kernel, by decide +kernel⟩, List.mem_of_getElem? (i := 1165) (by decide +kernel), List.mem_of_getElem? (i := 1484) (by decide +kernel), List.mem_of_getElem? (i := 1485) (by decide +kernel)⟩
theorem lw_p68 : lw_okq (⟨"WakeParkModel", "readsGives", "()Z"⟩, 60) := ⟨⟨by decide +kernel, by decide +kernel⟩, List.mem_of_getElem? (i := 1165) (by decide +kernel), List.mem_of_getElem? (i := 1488) (by decide +kernel), List.mem_of_getElem? (i := 1489) (by decide +kernel)⟩
theorem lw_p69 : lw_okq (⟨"WakeParkModel", "reads", "()Z"⟩, 60) := ⟨⟨by decide +kernel, by decide +kernel⟩, List.mem_of_getElem? (i := 1165) (by decide +kernel), List.mem_of_getElem? (i := 1492) (by decide +kernel), List.mem_of_getElem? (i := 1493) (by decide +kernel)⟩
theorem lw_p70 : lw_okq (⟨"WakeParkModel", "fact", "()I"⟩, 60) := ⟨⟨by decide +kernel, by decide +kernel⟩, List.mem_of_getElem? (i := 1165) (by decide +kernel), List.mem_of_getElem? (i := 1496) (by decide +kernel), List.mem_of_getElem? (i := 1497) (by decide +kernel)⟩
theorem lw_p71 : lw_okq (⟨"WakeParkModel", "puts", "(I)V"⟩, 60) := ⟨⟨by decide +kernel, by decide +kernel⟩, List.mem_of_getElem? (i := 1165) (by decide +kernel), List.mem_of_getElem? (i := 1504) (by decide +kernel), List.mem_of_getElem? (i := 1505) (by decide +kernel)⟩
theorem lw_p72 : lw_okq (⟨"WakeParkModel", "lays", "()V"⟩, 60) := ⟨⟨by decide +kernel, by decide +kernel⟩, List.mem_of_getElem? (i := 1165) (by decide +kernel), List.mem_of_getElem? (i := 1508) (by decide +kernel), List.mem_of_getElem? (i := 1509) (by decide +kernel)⟩
theorem lw_p73 : lw_okq (⟨"WakeParkModel", "readsLine", "()Z"⟩, 60) := ⟨⟨by decide +kernel, by decide +kernel⟩, List.mem_of_getElem? (i := 1165) (by decide +kernel), List.mem_of_getElem? (i := 1519) (by decide +kernel), List.mem_of_getElem? (i := 1520) (by decide +kernel)⟩
theorem lw_p74 : lw_okq (⟨"WakeParkModel", "laysLines", "(II)V"⟩, 60) := ⟨⟨by decide +kernel, by decide +kernel⟩, List.mem_of_getElem? (i := 1165) (by decide +kernel), List.mem_of_getElem? (i := 1523) (by decide +kernel), List.mem_of_getElem? (i := 1524) (by decide +kernel)⟩
theorem lw_p75 : lw_okq (⟨"WakeParkModel", "isTurbine", "(I)Z"⟩, 60) := ⟨⟨by decide +kernel, by decide +kernel⟩, List.mem_of_getElem? (i := 1165) (by decide +kernel), List.mem_of_getElem? (i := 1531) (by decide +kernel), List.mem_of_getElem? (i := 1532) (by decide +kernel)⟩
theorem lw_p76 : lw_okq (⟨"WakeParkModel", "isShut", "(I)Z"⟩, 60) := ⟨⟨by decide +kernel, by decide +kernel⟩, List.mem_of_getElem? (i := 1165) (by decide +kernel), List.mem_of_getElem? (i := 1535) (by decide +kernel), List.mem_of_getElem? (i := 1536) (by decide +kernel)⟩
theorem lw_p77 : lw_okq (⟨"WakeParkModel", "isBroken", "(I)Z"⟩, 60) := ⟨⟨by decide +kernel, by decide +kernel⟩, List.mem_of_getElem? (i := 1165) (by decide +kernel), List.mem_of_getElem? (i := 1539) (by decide +kernel), List.mem_of_getElem? (i := 1540) (by decide +kernel)⟩
theorem lw_p78 : lw_okq (⟨"WakeParkModel", "looks", "()V"⟩, 60) := ⟨⟨by decide +kernel, by decide +kernel⟩, List.mem_of_getElem? (i := 1165) (by decide +kernel), List.mem_of_getElem? (i := 1547) (by decide +kernel), List.mem_of_getElem? (i := 1548) (by decide +kernel)⟩
theorem lw_p79 : lw_okq (⟨"WakeParkModel", "rowOf", "(II)I"⟩, 60) := ⟨⟨by decide +kernel, by decide +kernel⟩, List.mem_of_getElem? (i := 1165) (by decide +kernel), List.mem_of_getElem? (i := 1551) (by decide +kernel), List.mem_of_getElem? (i := 1552) (by decide +kernel)⟩
def lw_privs_5 : List (MethodName × Nat) := [(⟨"WakeParkModel", "readsRow", "(II)Z"⟩, 60), (⟨"WakeParkModel", "isTold", "(I)Z"⟩, 60), (⟨"WakeParkModel", "readsWakes", "()Z"⟩, 60), (⟨"WakeParkModel", "readsOne", "(II)Z"⟩, 60), (⟨"WakeParkModel", "readsGives", "()Z"⟩, 60), (⟨"WakeParkModel", "reads", "()Z"⟩, 60), (⟨"WakeParkModel", "fact", "()I"⟩, 60), (⟨"WakeParkModel", "puts", "(I)V"⟩, 60), (⟨"WakeParkModel", "lays", "()V"⟩, 60), (⟨"WakeParkModel", "readsLine", "()Z"⟩, 60), (⟨"WakeParkModel", "laysLines", "(II)V"⟩, 60), (⟨"WakeParkModel", "isTurbine", "(I)Z"⟩, 60), (⟨"WakeParkModel", "isShut", "(I)Z"⟩, 60), (⟨"WakeParkModel", "isBroken", "(I)Z"⟩, 60), (⟨"WakeParkModel", "looks", "()V"⟩, 60), (⟨"WakeParkModel", "rowOf", "(II)I"⟩, 60)]
theorem lw_r5 : ∀ q ∈ lw_privs_5, lw_okq q := List.forall_mem_cons.mpr ⟨lw_p64, List.forall_mem_cons.mpr ⟨lw_p65, List.forall_mem_cons.mpr ⟨lw_p66, List.forall_mem_cons.mpr ⟨lw_p67, List.forall_mem_cons.mpr ⟨lw_p68, List.forall_mem_cons.mpr ⟨lw_p69, List.forall_mem_cons.mpr ⟨lw_p70, List.forall_mem_cons.mpr ⟨lw_p71, List.forall_mem_cons.mpr ⟨lw_p72, List.forall_mem_cons.mpr ⟨lw_p73, List.forall_mem_cons.mpr ⟨lw_p74, List.forall_mem_cons.mpr ⟨lw_p75, List.forall_mem_cons.mpr ⟨lw_p76, List.forall_mem_cons.mpr ⟨lw_p77, List.forall_mem_cons.mpr ⟨lw_p78, List.forall_mem_cons.mpr ⟨lw_p79, fun _ h => absurd h List.not_mem_nil⟩⟩⟩⟩⟩⟩⟩⟩⟩⟩⟩⟩⟩⟩⟩⟩
theorem lw_p80 : lw_okq (⟨"WakeParkModel", "windOf", "(I)I"⟩, 60) := ⟨⟨by decide +kernel, by decide +kernel⟩, List.mem_of_getElem? (i := 1165) (by decide +kernel), List.mem_of_getElem? (i := 1555) (by decide +kernel), List.mem_of_getElem? (i := 1556) (by decide +kernel)⟩
theorem lw_p81 : lw_okq (⟨"WakeParkModel", "takenOf", "(I)I"⟩, 60) := ⟨⟨by decide +kernel, by decide +kernel⟩, List.mem_of_getElem? (i := 1165) (by decide +kernel), List.mem_of_getElem? (i := 1559) (by decide +kernel), List.mem_of_getElem? (i := 1560) (by decide +kernel)⟩
theorem lw_p82 : lw_okq (⟨"WakeParkModel", "takesOf", "(II)I"⟩, 60) := ⟨⟨by decide +kernel, by decide +kernel⟩, List.mem_of_getElem? (i := 1165) (by decide +kernel), List.mem_of_getElem? (i := 1563) (by decide +kernel), List.mem_of_getElem? (i := 1564) (by decide +kernel)⟩
theorem lw_p83 : lw_okq (⟨"WakeParkModel", "runs", "(I)Z"⟩, 60) := ⟨⟨by decide +kernel, by decide +kernel⟩, List.mem_of_getElem? (i := 1165) (by decide +kernel), List.mem_of_getElem? (i := 1567) (by decide +kernel), List.mem_of_getElem? (i := 1568) (by decide +kernel)⟩
theorem lw_p84 : lw_okq (⟨"WakeParkModel", "behind", "(II)I"⟩, 60) := ⟨⟨by decide +kernel, by decide +kernel⟩, List.mem_of_getElem? (i := 1165) (by decide +kernel), List.mem_of_getElem? (i := 1571) (by decide +kernel), List.mem_of_getElem? (i := 1572) (by decide +kernel)⟩
theorem lw_p85 : lw_okq (⟨"WakeParkModel", "turnedOf", "(I)I"⟩, 60) := ⟨⟨by decide +kernel, by decide +kernel⟩, List.mem_of_getElem? (i := 1165) (by decide +kernel), List.mem_of_getElem? (i := 1575) (by decide +kernel), List.mem_of_getElem? (i := 1576) (by decide +kernel)⟩
theorem lw_p86 : lw_okq (⟨"WakeParkModel", "powerOf", "(I)I"⟩, 60) := ⟨⟨by decide +kernel, by decide +kernel⟩, List.mem_of_getElem? (i := 1165) (by decide +kernel), List.mem_of_getElem? (i := 1586) (by decide +kernel), List.mem_of_getElem? (i := 1587) (by decide +kernel)⟩
theorem lw_p87 : lw_okq (⟨"WakeParkModel", "worked", "(I)I"⟩, 60) := ⟨⟨by decide +kernel, by decide +kernel⟩, List.mem_of_getElem? (i := 1165) (by decide +kernel), List.mem_of_getElem? (i := 1590) (by decide +kernel), List.mem_of_getElem? (i := 1591) (by decide +kernel)⟩
theorem lw_p88 : lw_okq (⟨"WakeParkModel", "opens", "(I)V"⟩, 60) := ⟨⟨by decide +kernel, by decide +kernel⟩, List.mem_of_getElem? (i := 1165) (by decide +kernel), List.mem_of_getElem? (i := 1594) (by decide +kernel), List.mem_of_getElem? (i := 1595) (by decide +kernel)⟩
theorem lw_p89 : lw_okq (⟨"WakeParkModel", "sums", "(I)V"⟩, 60) := ⟨⟨by decide +kernel, by decide +kernel⟩, List.mem_of_getElem? (i := 1165) (by decide +kernel), List.mem_of_getElem? (i := 1598) (by decide +kernel), List.mem_of_getElem? (i := 1599) (by decide +kernel)⟩
theorem lw_p90 : lw_okq (⟨"WakeParkModel", "tests", "(I)V"⟩, 60) := ⟨⟨by decide +kernel, by decide +kernel⟩, List.mem_of_getElem? (i := 1165) (by decide +kernel), List.mem_of_getElem? (i := 1602) (by decide +kernel), List.mem_of_getElem? (i := 1603) (by decide +kernel)⟩
theorem lw_p91 : lw_okq (⟨"WakeParkModel", "homeNow", "()I"⟩, 60) := ⟨⟨by decide +kernel, by decide +kernel⟩, List.mem_of_getElem? (i := 1165) (by decide +kernel), List.mem_of_getElem? (i := 1613) (by decide +kernel), List.mem_of_getElem? (i := 1614) (by decide +kernel)⟩
theorem lw_p92 : lw_okq (⟨"WakeParkModel", "laysPowers", "()V"⟩, 60) := ⟨⟨by decide +kernel, by decide +kernel⟩, List.mem_of_getElem? (i := 1165) (by decide +kernel), List.mem_of_getElem? (i := 1617) (by decide +kernel), List.mem_of_getElem? (i := 1618) (by decide +kernel)⟩
theorem lw_p93 : lw_okq (⟨"WakeParkModel", "homeBy", "(I)I"⟩, 60) := ⟨⟨by decide +kernel, by decide +kernel⟩, List.mem_of_getElem? (i := 1165) (by decide +kernel), List.mem_of_getElem? (i := 1621) (by decide +kernel), List.mem_of_getElem? (i := 1622) (by decide +kernel)⟩
theorem lw_p94 : lw_okq (⟨"WakeParkModel", "hopsOf", "(I)I"⟩, 60) := ⟨⟨by decide +kernel, by decide +kernel⟩, List.mem_of_getElem? (i := 1165) (by decide +kernel), List.mem_of_getElem? (i := 1625) (by decide +kernel), List.mem_of_getElem? (i := 1626) (by decide +kernel)⟩
theorem lw_p95 : lw_okq (⟨"WakeParkModel", "keeps", "()V"⟩, 60) := ⟨⟨by decide +kernel, by decide +kernel⟩, List.mem_of_getElem? (i := 1165) (by decide +kernel), List.mem_of_getElem? (i := 1637) (by decide +kernel), List.mem_of_getElem? (i := 1638) (by decide +kernel)⟩
def lw_privs_6 : List (MethodName × Nat) := [(⟨"WakeParkModel", "windOf", "(I)I"⟩, 60), (⟨"WakeParkModel", "takenOf", "(I)I"⟩, 60), (⟨"WakeParkModel", "takesOf", "(II)I"⟩, 60), (⟨"WakeParkModel", "runs", "(I)Z"⟩, 60), (⟨"WakeParkModel", "behind", "(II)I"⟩, 60), (⟨"WakeParkModel", "turnedOf", "(I)I"⟩, 60), (⟨"WakeParkModel", "powerOf", "(I)I"⟩, 60), (⟨"WakeParkModel", "worked", "(I)I"⟩, 60), (⟨"WakeParkModel", "opens", "(I)V"⟩, 60), (⟨"WakeParkModel", "sums", "(I)V"⟩, 60), (⟨"WakeParkModel", "tests", "(I)V"⟩, 60), (⟨"WakeParkModel", "homeNow", "()I"⟩, 60), (⟨"WakeParkModel", "laysPowers", "()V"⟩, 60), (⟨"WakeParkModel", "homeBy", "(I)I"⟩, 60), (⟨"WakeParkModel", "hopsOf", "(I)I"⟩, 60), (⟨"WakeParkModel", "keeps", "()V"⟩, 60)]
theorem lw_r6 : ∀ q ∈ lw_privs_6, lw_okq q := List.forall_mem_cons.mpr ⟨lw_p80, List.forall_mem_cons.mpr ⟨lw_p81, List.forall_mem_cons.mpr ⟨lw_p82, List.forall_mem_cons.mpr ⟨lw_p83, List.forall_mem_cons.mpr ⟨lw_p84, List.forall_mem_cons.mpr ⟨lw_p85, List.forall_mem_cons.mpr ⟨lw_p86, List.forall_mem_cons.mpr ⟨lw_p87, List.forall_mem_cons.mpr ⟨lw_p88, List.forall_mem_cons.mpr ⟨lw_p89, List.forall_mem_cons.mpr ⟨lw_p90, List.forall_mem_cons.mpr ⟨lw_p91, List.forall_mem_cons.mpr ⟨lw_p92, List.forall_mem_cons.mpr ⟨lw_p93, List.forall_mem_cons.mpr ⟨lw_p94, List.forall_mem_cons.mpr ⟨lw_p95, fun _ h => absurd h List.not_mem_nil⟩⟩⟩⟩⟩⟩⟩⟩⟩⟩⟩⟩⟩⟩⟩⟩
theorem lw_p96 : lw_okq (⟨"WakeParkModel", "canMend", "(I)Z"⟩, 60) := ⟨⟨by decide +kernel, by decide +kernel⟩, List.mem_of_getElem? (i := 1165) (by decide +kernel), List.mem_of_getElem? (i := 1656) (by decide +kernel), List.mem_of_getElem? (i := 1657) (by decide +kernel)⟩
theorem lw_p97 : lw_okq (⟨"WakeParkModel", "mends", "(I)V"⟩, 60) := ⟨⟨by decide +kernel, by decide +kernel⟩, List.mem_of_getElem? (i := 1165) (by decide +kernel), List.mem_of_getElem? (i := 1660) (by decide +kernel), List.mem_of_getElem? (i := 1661) (by decide +kernel)⟩
theorem lw_p98 : lw_okq (⟨"WakeParkModel", "passes", "()I"⟩, 60) := ⟨⟨by decide +kernel, by decide +kernel⟩, List.mem_of_getElem? (i := 1165) (by decide +kernel), List.mem_of_getElem? (i := 1668) (by decide +kernel), List.mem_of_getElem? (i := 1669) (by decide +kernel)⟩
theorem lw_p99 : lw_okq (⟨"WakeParkModel", "soldNow", "()I"⟩, 60) := ⟨⟨by decide +kernel, by decide +kernel⟩, List.mem_of_getElem? (i := 1165) (by decide +kernel), List.mem_of_getElem? (i := 1672) (by decide +kernel), List.mem_of_getElem? (i := 1673) (by decide +kernel)⟩
theorem lw_p100 : lw_okq (⟨"WakeParkModel", "priceNow", "()I"⟩, 60) := ⟨⟨by decide +kernel, by decide +kernel⟩, List.mem_of_getElem? (i := 1165) (by decide +kernel), List.mem_of_getElem? (i := 1676) (by decide +kernel), List.mem_of_getElem? (i := 1677) (by decide +kernel)⟩
theorem lw_p101 : lw_okq (⟨"WakeParkModel", "isDone", "(I)Z"⟩, 60) := ⟨⟨by decide +kernel, by decide +kernel⟩, List.mem_of_getElem? (i := 1165) (by decide +kernel), List.mem_of_getElem? (i := 1689) (by decide +kernel), List.mem_of_getElem? (i := 1690) (by decide +kernel)⟩
theorem lw_p102 : lw_okq (⟨"WakeParkModel", "powersNow", "()I"⟩, 60) := ⟨⟨by decide +kernel, by decide +kernel⟩, List.mem_of_getElem? (i := 1165) (by decide +kernel), List.mem_of_getElem? (i := 1713) (by decide +kernel), List.mem_of_getElem? (i := 1714) (by decide +kernel)⟩
theorem lw_p103 : lw_okq (⟨"WakeParkModel", "ownedBy", "(I)I"⟩, 60) := ⟨⟨by decide +kernel, by decide +kernel⟩, List.mem_of_getElem? (i := 1165) (by decide +kernel), List.mem_of_getElem? (i := 1721) (by decide +kernel), List.mem_of_getElem? (i := 1722) (by decide +kernel)⟩
theorem lw_p104 : lw_okq (⟨"WakeParkModel", "turnsAll", "(II)V"⟩, 60) := ⟨⟨by decide +kernel, by decide +kernel⟩, List.mem_of_getElem? (i := 1165) (by decide +kernel), List.mem_of_getElem? (i := 1725) (by decide +kernel), List.mem_of_getElem? (i := 1726) (by decide +kernel)⟩
theorem lw_p105 : lw_okq (⟨"WakeParkModel", "powerBy", "(I)I"⟩, 60) := ⟨⟨by decide +kernel, by decide +kernel⟩, List.mem_of_getElem? (i := 1165) (by decide +kernel), List.mem_of_getElem? (i := 1729) (by decide +kernel), List.mem_of_getElem? (i := 1730) (by decide +kernel)⟩
theorem lw_p106 : lw_okq (⟨"WakeParkModel", "foundOf", "(II)I"⟩, 60) := ⟨⟨by decide +kernel, by decide +kernel⟩, List.mem_of_getElem? (i := 1165) (by decide +kernel), List.mem_of_getElem? (i := 1733) (by decide +kernel), List.mem_of_getElem? (i := 1734) (by decide +kernel)⟩
theorem lw_p107 : lw_okq (⟨"WakeParkModel", "windsOf", "(I)I"⟩, 60) := ⟨⟨by decide +kernel, by decide +kernel⟩, List.mem_of_getElem? (i := 1165) (by decide +kernel), List.mem_of_getElem? (i := 1769) (by decide +kernel), List.mem_of_getElem? (i := 1770) (by decide +kernel)⟩
theorem lw_p108 : lw_okq (⟨"WakeParkModel", "laysWinds", "()I"⟩, 60) := ⟨⟨by decide +kernel, by decide +kernel⟩, List.mem_of_getElem? (i := 1165) (by decide +kernel), List.mem_of_getElem? (i := 1789) (by decide +kernel), List.mem_of_getElem? (i := 1790) (by decide +kernel)⟩
theorem lw_p109 : lw_okq (⟨"WakeParkModel", "livesStep", "()V"⟩, 60) := ⟨⟨by decide +kernel, by decide +kernel⟩, List.mem_of_getElem? (i := 1165) (by decide +kernel), List.mem_of_getElem? (i := 1812) (by decide +kernel), List.mem_of_getElem? (i := 1813) (by decide +kernel)⟩
theorem lw_p110 : lw_okq (⟨"WakeParkModel", "draws", "(I)I"⟩, 60) := ⟨⟨by decide +kernel, by decide +kernel⟩, List.mem_of_getElem? (i := 1165) (by decide +kernel), List.mem_of_getElem? (i := 1816) (by decide +kernel), List.mem_of_getElem? (i := 1817) (by decide +kernel)⟩
theorem lw_p111 : lw_okq (⟨"WakeParkModel", "laysSeen", "(II)V"⟩, 60) := ⟨⟨by decide +kernel, by decide +kernel⟩, List.mem_of_getElem? (i := 1165) (by decide +kernel), List.mem_of_getElem? (i := 1828) (by decide +kernel), List.mem_of_getElem? (i := 1829) (by decide +kernel)⟩
def lw_privs_7 : List (MethodName × Nat) := [(⟨"WakeParkModel", "canMend", "(I)Z"⟩, 60), (⟨"WakeParkModel", "mends", "(I)V"⟩, 60), (⟨"WakeParkModel", "passes", "()I"⟩, 60), (⟨"WakeParkModel", "soldNow", "()I"⟩, 60), (⟨"WakeParkModel", "priceNow", "()I"⟩, 60), (⟨"WakeParkModel", "isDone", "(I)Z"⟩, 60), (⟨"WakeParkModel", "powersNow", "()I"⟩, 60), (⟨"WakeParkModel", "ownedBy", "(I)I"⟩, 60), (⟨"WakeParkModel", "turnsAll", "(II)V"⟩, 60), (⟨"WakeParkModel", "powerBy", "(I)I"⟩, 60), (⟨"WakeParkModel", "foundOf", "(II)I"⟩, 60), (⟨"WakeParkModel", "windsOf", "(I)I"⟩, 60), (⟨"WakeParkModel", "laysWinds", "()I"⟩, 60), (⟨"WakeParkModel", "livesStep", "()V"⟩, 60), (⟨"WakeParkModel", "draws", "(I)I"⟩, 60), (⟨"WakeParkModel", "laysSeen", "(II)V"⟩, 60)]
theorem lw_r7 : ∀ q ∈ lw_privs_7, lw_okq q := List.forall_mem_cons.mpr ⟨lw_p96, List.forall_mem_cons.mpr ⟨lw_p97, List.forall_mem_cons.mpr ⟨lw_p98, List.forall_mem_cons.mpr ⟨lw_p99, List.forall_mem_cons.mpr ⟨lw_p100, List.forall_mem_cons.mpr ⟨lw_p101, List.forall_mem_cons.mpr ⟨lw_p102, List.forall_mem_cons.mpr ⟨lw_p103, List.forall_mem_cons.mpr ⟨lw_p104, List.forall_mem_cons.mpr ⟨lw_p105, List.forall_mem_cons.mpr ⟨lw_p106, List.forall_mem_cons.mpr ⟨lw_p107, List.forall_mem_cons.mpr ⟨lw_p108, List.forall_mem_cons.mpr ⟨lw_p109, List.forall_mem_cons.mpr ⟨lw_p110, List.forall_mem_cons.mpr ⟨lw_p111, fun _ h => absurd h List.not_mem_nil⟩⟩⟩⟩⟩⟩⟩⟩⟩⟩⟩⟩⟩⟩⟩⟩
def lw_privs : List (MethodName × Nat) := lw_privs_1 ++ (lw_privs_2 ++ (lw_privs_3 ++ (lw_privs_4 ++ (lw_privs_5 ++ (lw_privs_6 ++ (lw_privs_7))))))
def lw_tbl : List Cond := k2_sels lw_privs ++ tables_1
theorem lw_privs_ok : ∀ q ∈ lw_privs, lw_okq q := by
  show ∀ q ∈ lw_privs_1 ++ (lw_privs_2 ++ (lw_privs_3 ++ (lw_privs_4 ++ (lw_privs_5 ++ (lw_privs_6 ++ (lw_privs_7)))))), lw_okq q
  exact List.forall_mem_append.mpr ⟨lw_r1, List.forall_mem_append.mpr ⟨lw_r2, List.forall_mem_append.mpr ⟨lw_r3, List.forall_mem_append.mpr ⟨lw_r4, List.forall_mem_append.mpr ⟨lw_r5, List.forall_mem_append.mpr ⟨lw_r6, lw_r7⟩⟩⟩⟩⟩⟩
-- ===== end of PART A; then your names; then what follows =====
end
section
/-! ===== BEGIN printed: names, fields, word lists, decode rows ===== -/
def RX0 : String := "WakePark$1"
def TX0 : u_T := fun k => match k with
  | _ => ("", "", "", false)
def tyX0 : Nat → FieldType := fun k => match k with
  | _ => .int
abbrev wsX00 : List Cond := u_ws RX0 TX0 0
theorem nmX0 : ∀ a, a < 0 → ∀ b, b < 0 → a ≠ b → (TX0 a).2.1 ≠ (TX0 b).2.1 := by decide +kernel
theorem tyX0_ok : ∀ k, k < 0 → parseFieldDescriptor (TX0 k).2.2.1 = some (tyX0 k) := by decide +kernel
def RX1 : String := "WakePark$Flow"
def TX1 : u_T := fun k => match k with
  | 0 => ("WakePark$Flow", "taken", "[I", true)
  | 1 => ("WakePark$Flow", "reach", "[I", true)
  | 2 => ("WakePark$Flow", "given", "[I", true)
  | 3 => ("WakePark$Flow", "loads", "[I", true)
  | 4 => ("WakePark$Flow", "coming", "[I", true)
  | 5 => ("WakePark$Flow", "sum", "I", false)
  | _ => ("WakePark$Flow", "brought", "I", false)
def tyX1 : Nat → FieldType := fun k => match k with
  | 0 => .array .int
  | 1 => .array .int
  | 2 => .array .int
  | 3 => .array .int
  | 4 => .array .int
  | 5 => .int
  | _ => .int
abbrev wsX10 : List Cond := u_ws RX1 TX1 7
theorem nmX1 : ∀ a, a < 7 → ∀ b, b < 7 → a ≠ b → (TX1 a).2.1 ≠ (TX1 b).2.1 := by decide +kernel
theorem tyX1_ok : ∀ k, k < 7 → parseFieldDescriptor (TX1 k).2.2.1 = some (tyX1 k) := by decide +kernel
abbrev cX1_init : ByteArray := prog_3_method_1_code
def yX1_init : MethodName := ⟨RX1, "<init>", "()V"⟩
abbrev cX1_measure : ByteArray := prog_3_method_2_code
def yX1_measure : MethodName := ⟨RX1, "measure", "(LWakePark$Park;LWakePark$State;)V"⟩
abbrev cX1_take : ByteArray := prog_3_method_3_code
def yX1_take : MethodName := ⟨RX1, "take", "(LWakePark$Park;LWakePark$State;I)V"⟩
abbrev cX1_give : ByteArray := prog_3_method_4_code
def yX1_give : MethodName := ⟨RX1, "give", "(LWakePark$Park;LWakePark$State;I)V"⟩
abbrev cX1_bring : ByteArray := prog_3_method_5_code
def yX1_bring : MethodName := ⟨RX1, "bring", "(LWakePark$Park;I)V"⟩
abbrev cX1_sold : ByteArray := prog_3_method_6_code
def yX1_sold : MethodName := ⟨RX1, "sold", "(LWakePark$Park;LWakePark$State;)I"⟩
abbrev cX1_runStep : ByteArray := prog_3_method_7_code
def yX1_runStep : MethodName := ⟨RX1, "runStep", "(LWakePark$Park;LWakePark$State;)I"⟩
def RX2 : String := "WakePark$Law"
def TX2 : u_T := fun k => match k with
  | 0 => ("WakePark$Law", "code", "LWakePark$Numbers;", true)
  | _ => ("WakePark$Law", "pile", "[I", true)
def tyX2 : Nat → FieldType := fun k => match k with
  | 0 => .object "WakePark$Numbers"
  | _ => .array .int
abbrev wsX20 : List Cond := u_ws RX2 TX2 2
theorem nmX2 : ∀ a, a < 2 → ∀ b, b < 2 → a ≠ b → (TX2 a).2.1 ≠ (TX2 b).2.1 := by decide +kernel
theorem tyX2_ok : ∀ k, k < 2 → parseFieldDescriptor (TX2 k).2.2.1 = some (tyX2 k) := by decide +kernel
abbrev cX2_init : ByteArray := prog_4_method_1_code
def yX2_init : MethodName := ⟨RX2, "<init>", "()V"⟩
abbrev cX2_value : ByteArray := prog_4_method_2_code
def yX2_value : MethodName := ⟨RX2, "value", "(IIII)I"⟩
abbrev cX2_fact : ByteArray := prog_4_method_3_code
def yX2_fact : MethodName := ⟨RX2, "fact", "(IIIII)I"⟩
abbrev cX2_joined : ByteArray := prog_4_method_4_code
def yX2_joined : MethodName := ⟨RX2, "joined", "(III)I"⟩
def RX3 : String := "WakePark$Mark"
def TX3 : u_T := fun k => match k with
  | 0 => ("WakePark$Mark", "state", "LWakePark$State;", true)
  | 1 => ("WakePark$Mark", "lines", "LWakePark$Numbers;", true)
  | 2 => ("WakePark$Mark", "sights", "LWakePark$Numbers;", true)
  | _ => ("WakePark$Mark", "laid", "Z", false)
def tyX3 : Nat → FieldType := fun k => match k with
  | 0 => .object "WakePark$State"
  | 1 => .object "WakePark$Numbers"
  | 2 => .object "WakePark$Numbers"
  | _ => .boolean
abbrev wsX30 : List Cond := u_ws RX3 TX3 4
theorem nmX3 : ∀ a, a < 4 → ∀ b, b < 4 → a ≠ b → (TX3 a).2.1 ≠ (TX3 b).2.1 := by decide +kernel
theorem tyX3_ok : ∀ k, k < 4 → parseFieldDescriptor (TX3 k).2.2.1 = some (tyX3 k) := by decide +kernel
abbrev cX3_init : ByteArray := prog_5_method_1_code
def yX3_init : MethodName := ⟨RX3, "<init>", "()V"⟩
abbrev cX3_lay : ByteArray := prog_5_method_2_code
def yX3_lay : MethodName := ⟨RX3, "lay", "(LWakePark$State;LWakePark$Numbers;LWakePark$Numbers;)V"⟩
def RX4 : String := "WakePark$Numbers"
def TX4 : u_T := fun k => match k with
  | 0 => ("WakePark$Numbers", "values", "[I", true)
  | _ => ("WakePark$Numbers", "size", "I", false)
def tyX4 : Nat → FieldType := fun k => match k with
  | 0 => .array .int
  | _ => .int
abbrev wsX40 : List Cond := u_ws RX4 TX4 2
theorem nmX4 : ∀ a, a < 2 → ∀ b, b < 2 → a ≠ b → (TX4 a).2.1 ≠ (TX4 b).2.1 := by decide +kernel
theorem tyX4_ok : ∀ k, k < 2 → parseFieldDescriptor (TX4 k).2.2.1 = some (tyX4 k) := by decide +kernel
abbrev cX4_init : ByteArray := prog_6_method_1_code
def yX4_init : MethodName := ⟨RX4, "<init>", "(I)V"⟩
abbrev cX4_add : ByteArray := prog_6_method_2_code
def yX4_add : MethodName := ⟨RX4, "add", "(I)Z"⟩
abbrev cX4_get : ByteArray := prog_6_method_3_code
def yX4_get : MethodName := ⟨RX4, "get", "(I)I"⟩
abbrev cX4_round : ByteArray := prog_6_method_4_code
def yX4_round : MethodName := ⟨RX4, "round", "(I)I"⟩
abbrev cX4_copy : ByteArray := prog_6_method_5_code
def yX4_copy : MethodName := ⟨RX4, "copy", "(LWakePark$Numbers;)V"⟩
def RX5 : String := "WakePark$Park"
def TX5 : u_T := fun k => match k with
  | 0 => ("WakePark$Park", "count", "I", false)
  | 1 => ("WakePark$Park", "names", "[J", true)
  | 2 => ("WakePark$Park", "kinds", "[I", true)
  | 3 => ("WakePark$Park", "owners", "[I", true)
  | 4 => ("WakePark$Park", "cells", "[I", true)
  | 5 => ("WakePark$Park", "cableTo", "[I", true)
  | 6 => ("WakePark$Park", "holds", "[I", true)
  | 7 => ("WakePark$Park", "cables", "LWakePark$Numbers;", true)
  | 8 => ("WakePark$Park", "blows", "LWakePark$Numbers;", true)
  | 9 => ("WakePark$Park", "from", "LWakePark$Numbers;", true)
  | 10 => ("WakePark$Park", "price", "LWakePark$Numbers;", true)
  | 11 => ("WakePark$Park", "wakes", "LWakePark$Numbers;", true)
  | 12 => ("WakePark$Park", "law", "LWakePark$Law;", true)
  | 13 => ("WakePark$Park", "wears", "I", false)
  | _ => ("WakePark$Park", "slack", "I", false)
def tyX5 : Nat → FieldType := fun k => match k with
  | 0 => .int
  | 1 => .array .long
  | 2 => .array .int
  | 3 => .array .int
  | 4 => .array .int
  | 5 => .array .int
  | 6 => .array .int
  | 7 => .object "WakePark$Numbers"
  | 8 => .object "WakePark$Numbers"
  | 9 => .object "WakePark$Numbers"
  | 10 => .object "WakePark$Numbers"
  | 11 => .object "WakePark$Numbers"
  | 12 => .object "WakePark$Law"
  | 13 => .int
  | _ => .int
abbrev wsX50 : List Cond := u_ws RX5 TX5 15
theorem nmX5 : ∀ a, a < 15 → ∀ b, b < 15 → a ≠ b → (TX5 a).2.1 ≠ (TX5 b).2.1 := by decide +kernel
theorem tyX5_ok : ∀ k, k < 15 → parseFieldDescriptor (TX5 k).2.2.1 = some (tyX5 k) := by decide +kernel
abbrev cX5_init : ByteArray := prog_7_method_1_code
def yX5_init : MethodName := ⟨RX5, "<init>", "()V"⟩
abbrev cX5_clear : ByteArray := prog_7_method_2_code
def yX5_clear : MethodName := ⟨RX5, "clear", "()V"⟩
abbrev cX5_addTurbine : ByteArray := prog_7_method_3_code
def yX5_addTurbine : MethodName := ⟨RX5, "addTurbine", "(JIII)V"⟩
abbrev cX5_byName : ByteArray := prog_7_method_4_code
def yX5_byName : MethodName := ⟨RX5, "byName", "(J)I"⟩
abbrev cX5_isTaken : ByteArray := prog_7_method_5_code
def yX5_isTaken : MethodName := ⟨RX5, "isTaken", "(I)Z"⟩
abbrev cX5_priceAt : ByteArray := prog_7_method_6_code
def yX5_priceAt : MethodName := ⟨RX5, "priceAt", "(I)I"⟩
abbrev cX5_isSlack : ByteArray := prog_7_method_7_code
def yX5_isSlack : MethodName := ⟨RX5, "isSlack", "(I)Z"⟩
abbrev cX5_tenths : ByteArray := prog_7_method_8_code
def yX5_tenths : MethodName := ⟨RX5, "tenths", "(IIII)I"⟩
abbrev cX5_takenOf : ByteArray := prog_7_method_9_code
def yX5_takenOf : MethodName := ⟨RX5, "takenOf", "(II)I"⟩
abbrev cX5_gives : ByteArray := prog_7_method_10_code
def yX5_gives : MethodName := ⟨RX5, "gives", "(IIII)I"⟩
abbrev cX5_turnedBy : ByteArray := prog_7_method_11_code
def yX5_turnedBy : MethodName := ⟨RX5, "turnedBy", "(I)I"⟩
abbrev cX5_left : ByteArray := prog_7_method_12_code
def yX5_left : MethodName := ⟨RX5, "left", "(II)I"⟩
abbrev cX5_drift : ByteArray := prog_7_method_13_code
def yX5_drift : MethodName := ⟨RX5, "drift", "(II)I"⟩
abbrev cX5_only : ByteArray := prog_7_method_14_code
def yX5_only : MethodName := ⟨RX5, "only", "(LWakePark$Numbers;I)V"⟩
def RX6 : String := "WakePark$Reader"
def TX6 : u_T := fun k => match k with
  | 0 => ("WakePark$Reader", "tape", "LWakePark$Tape;", true)
  | 1 => ("WakePark$Reader", "fresh", "LWakePark$Numbers;", true)
  | 2 => ("WakePark$Reader", "park", "LWakePark$Park;", false)
  | 3 => ("WakePark$Reader", "wrong", "I", false)
  | 4 => ("WakePark$Reader", "number", "I", false)
  | 5 => ("WakePark$Reader", "named", "I", false)
  | _ => ("WakePark$Reader", "told", "I", false)
def tyX6 : Nat → FieldType := fun k => match k with
  | 0 => .object "WakePark$Tape"
  | 1 => .object "WakePark$Numbers"
  | 2 => .object "WakePark$Park"
  | 3 => .int
  | 4 => .int
  | 5 => .int
  | _ => .int
abbrev wsX60 : List Cond := u_ws RX6 TX6 7
theorem nmX6 : ∀ a, a < 7 → ∀ b, b < 7 → a ≠ b → (TX6 a).2.1 ≠ (TX6 b).2.1 := by decide +kernel
theorem tyX6_ok : ∀ k, k < 7 → parseFieldDescriptor (TX6 k).2.2.1 = some (tyX6 k) := by decide +kernel
abbrev cX6_init : ByteArray := prog_8_method_1_code
def yX6_init : MethodName := ⟨RX6, "<init>", "(LWakePark$Tape;LWakePark$Park;)V"⟩
abbrev cX6_readPark : ByteArray := prog_8_method_2_code
def yX6_readPark : MethodName := ⟨RX6, "readPark", "(LWakePark$Park;)I"⟩
abbrev cX6_readDay : ByteArray := prog_8_method_3_code
def yX6_readDay : MethodName := ⟨RX6, "readDay", "(LWakePark$Park;LWakePark$Numbers;)I"⟩
abbrev cX6_readParkLine : ByteArray := prog_8_method_4_code
def yX6_readParkLine : MethodName := ⟨RX6, "readParkLine", "()Z"⟩
abbrev cX6_readTurbine : ByteArray := prog_8_method_5_code
def yX6_readTurbine : MethodName := ⟨RX6, "readTurbine", "()Z"⟩
abbrev cX6_readCable : ByteArray := prog_8_method_6_code
def yX6_readCable : MethodName := ⟨RX6, "readCable", "()Z"⟩
abbrev cX6_readGoal : ByteArray := prog_8_method_7_code
def yX6_readGoal : MethodName := ⟨RX6, "readGoal", "()Z"⟩
abbrev cX6_readList : ByteArray := prog_8_method_8_code
def yX6_readList : MethodName := ⟨RX6, "readList", "(LWakePark$Numbers;I)Z"⟩
abbrev cX6_readWakes : ByteArray := prog_8_method_9_code
def yX6_readWakes : MethodName := ⟨RX6, "readWakes", "()Z"⟩
abbrev cX6_readWears : ByteArray := prog_8_method_10_code
def yX6_readWears : MethodName := ⟨RX6, "readWears", "()Z"⟩
abbrev cX6_readSlack : ByteArray := prog_8_method_11_code
def yX6_readSlack : MethodName := ⟨RX6, "readSlack", "()Z"⟩
abbrev cX6_readE : ByteArray := prog_8_method_12_code
def yX6_readE : MethodName := ⟨RX6, "readE", "(I)Z"⟩
abbrev cX6_readTest : ByteArray := prog_8_method_13_code
def yX6_readTest : MethodName := ⟨RX6, "readTest", "(I)Z"⟩
abbrev cX6_readSum : ByteArray := prog_8_method_14_code
def yX6_readSum : MethodName := ⟨RX6, "readSum", "(I)Z"⟩
abbrev cX6_readProduct : ByteArray := prog_8_method_15_code
def yX6_readProduct : MethodName := ⟨RX6, "readProduct", "(I)Z"⟩
abbrev cX6_readPart : ByteArray := prog_8_method_16_code
def yX6_readPart : MethodName := ⟨RX6, "readPart", "(I)Z"⟩
abbrev cX6_readDayLine : ByteArray := prog_8_method_17_code
def yX6_readDayLine : MethodName := ⟨RX6, "readDayLine", "()Z"⟩
abbrev cX6_fail : ByteArray := prog_8_method_18_code
def yX6_fail : MethodName := ⟨RX6, "fail", "(I)Z"⟩
abbrev cX6_once : ByteArray := prog_8_method_19_code
def yX6_once : MethodName := ⟨RX6, "once", "(I)Z"⟩
abbrev cX6_passSign : ByteArray := prog_8_method_20_code
def yX6_passSign : MethodName := ⟨RX6, "passSign", "(I)Z"⟩
abbrev cX6_passWord : ByteArray := prog_8_method_21_code
def yX6_passWord : MethodName := ⟨RX6, "passWord", "(LWakePark$Word;)Z"⟩
abbrev cX6_passNumber : ByteArray := prog_8_method_22_code
def yX6_passNumber : MethodName := ⟨RX6, "passNumber", "(II)Z"⟩
abbrev cX6_isNumber : ByteArray := prog_8_method_23_code
def yX6_isNumber : MethodName := ⟨RX6, "isNumber", "(II)Z"⟩
abbrev cX6_isName : ByteArray := prog_8_method_24_code
def yX6_isName : MethodName := ⟨RX6, "isName", "()Z"⟩
abbrev cX6_isTurbine : ByteArray := prog_8_method_25_code
def yX6_isTurbine : MethodName := ⟨RX6, "isTurbine", "()Z"⟩
abbrev cX6_kindOf : ByteArray := prog_8_method_26_code
def yX6_kindOf : MethodName := ⟨RX6, "kindOf", "(LWakePark$Word;)I"⟩
abbrev cX6_deedOf : ByteArray := prog_8_method_27_code
def yX6_deedOf : MethodName := ⟨RX6, "deedOf", "(LWakePark$Word;)I"⟩
abbrev cX6_factOf : ByteArray := prog_8_method_28_code
def yX6_factOf : MethodName := ⟨RX6, "factOf", "(LWakePark$Word;)I"⟩
def RX7 : String := "WakePark$Search"
def TX7 : u_T := fun k => match k with
  | 0 => ("WakePark$Search", "row", "[I", true)
  | 1 => ("WakePark$Search", "most", "I", false)
  | 2 => ("WakePark$Search", "known", "Z", false)
  | 3 => ("WakePark$Search", "takes", "[I", true)
  | 4 => ("WakePark$Search", "gifts", "[I", true)
  | 5 => ("WakePark$Search", "tries", "[I", true)
  | 6 => ("WakePark$Search", "width", "[I", true)
  | 7 => ("WakePark$Search", "choice", "[I", true)
  | _ => ("WakePark$Search", "tenths", "[I", true)
def tyX7 : Nat → FieldType := fun k => match k with
  | 0 => .array .int
  | 1 => .int
  | 2 => .boolean
  | 3 => .array .int
  | 4 => .array .int
  | 5 => .array .int
  | 6 => .array .int
  | 7 => .array .int
  | _ => .array .int
abbrev wsX70 : List Cond := u_ws RX7 TX7 9
theorem nmX7 : ∀ a, a < 9 → ∀ b, b < 9 → a ≠ b → (TX7 a).2.1 ≠ (TX7 b).2.1 := by decide +kernel
theorem tyX7_ok : ∀ k, k < 9 → parseFieldDescriptor (TX7 k).2.2.1 = some (tyX7 k) := by decide +kernel
abbrev cX7_init : ByteArray := prog_9_method_1_code
def yX7_init : MethodName := ⟨RX7, "<init>", "()V"⟩
abbrev cX7_seek : ByteArray := prog_9_method_2_code
def yX7_seek : MethodName := ⟨RX7, "seek", "(LWakePark$Park;LWakePark$State;LWakePark$Flow;I)V"⟩
abbrev cX7_foresee : ByteArray := prog_9_method_3_code
def yX7_foresee : MethodName := ⟨RX7, "foresee", "(LWakePark$Park;LWakePark$State;I)V"⟩
abbrev cX7_listTries : ByteArray := prog_9_method_4_code
def yX7_listTries : MethodName := ⟨RX7, "listTries", "(III)V"⟩
abbrev cX7_isNew : ByteArray := prog_9_method_5_code
def yX7_isNew : MethodName := ⟨RX7, "isNew", "(III)Z"⟩
abbrev cX7_isAlike : ByteArray := prog_9_method_6_code
def yX7_isAlike : MethodName := ⟨RX7, "isAlike", "(III)Z"⟩
abbrev cX7_angleOf : ByteArray := prog_9_method_7_code
def yX7_angleOf : MethodName := ⟨RX7, "angleOf", "(I)I"⟩
abbrev cX7_keepRow : ByteArray := prog_9_method_8_code
def yX7_keepRow : MethodName := ⟨RX7, "keepRow", "(I)V"⟩
abbrev cX7_next : ByteArray := prog_9_method_9_code
def yX7_next : MethodName := ⟨RX7, "next", "(I)I"⟩
abbrev cX7_addFrom : ByteArray := prog_9_method_10_code
def yX7_addFrom : MethodName := ⟨RX7, "addFrom", "(II)V"⟩
abbrev cX7_giftOf : ByteArray := prog_9_method_11_code
def yX7_giftOf : MethodName := ⟨RX7, "giftOf", "(LWakePark$Park;I)I"⟩
abbrev cX7_sale : ByteArray := prog_9_method_12_code
def yX7_sale : MethodName := ⟨RX7, "sale", "(LWakePark$Park;LWakePark$Flow;I)I"⟩
abbrev cX7_share : ByteArray := prog_9_method_13_code
def yX7_share : MethodName := ⟨RX7, "share", "(LWakePark$Park;I)I"⟩
def RX8 : String := "WakePark$State"
def TX8 : u_T := fun k => match k with
  | 0 => ("WakePark$State", "angles", "[I", true)
  | 1 => ("WakePark$State", "worn", "[I", true)
  | 2 => ("WakePark$State", "opened", "I", false)
  | 3 => ("WakePark$State", "broken", "I", false)
  | 4 => ("WakePark$State", "step", "I", false)
  | _ => ("WakePark$State", "sold", "I", false)
def tyX8 : Nat → FieldType := fun k => match k with
  | 0 => .array .int
  | 1 => .array .int
  | 2 => .int
  | 3 => .int
  | 4 => .int
  | _ => .int
abbrev wsX80 : List Cond := u_ws RX8 TX8 6
theorem nmX8 : ∀ a, a < 6 → ∀ b, b < 6 → a ≠ b → (TX8 a).2.1 ≠ (TX8 b).2.1 := by decide +kernel
theorem tyX8_ok : ∀ k, k < 6 → parseFieldDescriptor (TX8 k).2.2.1 = some (tyX8 k) := by decide +kernel
abbrev cX8_init : ByteArray := prog_10_method_1_code
def yX8_init : MethodName := ⟨RX8, "<init>", "()V"⟩
abbrev cX8_begin : ByteArray := prog_10_method_2_code
def yX8_begin : MethodName := ⟨RX8, "begin", "(LWakePark$Park;)V"⟩
abbrev cX8_copy : ByteArray := prog_10_method_3_code
def yX8_copy : MethodName := ⟨RX8, "copy", "(LWakePark$State;)V"⟩
abbrev cX8_everyone : ByteArray := prog_10_method_4_code
def yX8_everyone : MethodName := ⟨RX8, "everyone", "(LWakePark$Park;)I"⟩
abbrev cX8_isOpen : ByteArray := prog_10_method_5_code
def yX8_isOpen : MethodName := ⟨RX8, "isOpen", "(I)Z"⟩
abbrev cX8_isBroken : ByteArray := prog_10_method_6_code
def yX8_isBroken : MethodName := ⟨RX8, "isBroken", "(I)Z"⟩
abbrev cX8_runs : ByteArray := prog_10_method_7_code
def yX8_runs : MethodName := ⟨RX8, "runs", "(I)Z"⟩
abbrev cX8_can : ByteArray := prog_10_method_8_code
def yX8_can : MethodName := ⟨RX8, "can", "(LWakePark$Park;II)Z"⟩
abbrev cX8_act : ByteArray := prog_10_method_9_code
def yX8_act : MethodName := ⟨RX8, "act", "(LWakePark$Park;III)Z"⟩
abbrev cX8_wear : ByteArray := prog_10_method_10_code
def yX8_wear : MethodName := ⟨RX8, "wear", "(LWakePark$Park;II)V"⟩
def RX9 : String := "WakePark$Tape"
def TX9 : u_T := fun k => match k with
  | 0 => ("WakePark$Tape", "signs", "[B", true)
  | 1 => ("WakePark$Tape", "length", "I", false)
  | 2 => ("WakePark$Tape", "kind", "I", false)
  | 3 => ("WakePark$Tape", "at", "I", false)
  | 4 => ("WakePark$Tape", "value", "I", false)
  | 5 => ("WakePark$Tape", "key", "J", false)
  | 6 => ("WakePark$Tape", "word", "LWakePark$Word;", false)
  | _ => ("WakePark$Tape", "next", "I", false)
def tyX9 : Nat → FieldType := fun k => match k with
  | 0 => .array .byte
  | 1 => .int
  | 2 => .int
  | 3 => .int
  | 4 => .int
  | 5 => .long
  | 6 => .object "WakePark$Word"
  | _ => .int
abbrev wsX90 : List Cond := u_ws RX9 TX9 8
theorem nmX9 : ∀ a, a < 8 → ∀ b, b < 8 → a ≠ b → (TX9 a).2.1 ≠ (TX9 b).2.1 := by decide +kernel
theorem tyX9_ok : ∀ k, k < 8 → parseFieldDescriptor (TX9 k).2.2.1 = some (tyX9 k) := by decide +kernel
abbrev cX9_init : ByteArray := prog_11_method_1_code
def yX9_init : MethodName := ⟨RX9, "<init>", "()V"⟩
abbrev cX9_put : ByteArray := prog_11_method_2_code
def yX9_put : MethodName := ⟨RX9, "put", "(J)V"⟩
abbrev cX9_clear : ByteArray := prog_11_method_3_code
def yX9_clear : MethodName := ⟨RX9, "clear", "()V"⟩
abbrev cX9_start : ByteArray := prog_11_method_4_code
def yX9_start : MethodName := ⟨RX9, "start", "()V"⟩
abbrev cX9_pass : ByteArray := prog_11_method_5_code
def yX9_pass : MethodName := ⟨RX9, "pass", "()V"⟩
abbrev cX9_takeWord : ByteArray := prog_11_method_6_code
def yX9_takeWord : MethodName := ⟨RX9, "takeWord", "(I)V"⟩
abbrev cX9_takeNumber : ByteArray := prog_11_method_7_code
def yX9_takeNumber : MethodName := ⟨RX9, "takeNumber", "(I)V"⟩
abbrev cX9_isSign : ByteArray := prog_11_method_8_code
def yX9_isSign : MethodName := ⟨RX9, "isSign", "(I)Z"⟩
def RX10 : String := "WakePark$Winds"
def TX10 : u_T := fun k => match k with
  | 0 => ("WakePark$Winds", "fitting", "I", false)
  | 1 => ("WakePark$Winds", "least", "I", false)
  | 2 => ("WakePark$Winds", "greatest", "I", false)
  | 3 => ("WakePark$Winds", "sides", "I", false)
  | 4 => ("WakePark$Winds", "fits", "[Z", true)
  | 5 => ("WakePark$Winds", "gifts", "[I", true)
  | _ => ("WakePark$Winds", "tally", "[I", true)
def tyX10 : Nat → FieldType := fun k => match k with
  | 0 => .int
  | 1 => .int
  | 2 => .int
  | 3 => .int
  | 4 => .array .boolean
  | 5 => .array .int
  | _ => .array .int
abbrev wsX100 : List Cond := u_ws RX10 TX10 7
theorem nmX10 : ∀ a, a < 7 → ∀ b, b < 7 → a ≠ b → (TX10 a).2.1 ≠ (TX10 b).2.1 := by decide +kernel
theorem tyX10_ok : ∀ k, k < 7 → parseFieldDescriptor (TX10 k).2.2.1 = some (tyX10 k) := by decide +kernel
abbrev cX10_init : ByteArray := prog_12_method_1_code
def yX10_init : MethodName := ⟨RX10, "<init>", "()V"⟩
abbrev cX10_guess : ByteArray := prog_12_method_2_code
def yX10_guess : MethodName := ⟨RX10, "guess", "(LWakePark$Park;LWakePark$State;LWakePark$Flow;LWakePark$Numbers;)V"⟩
abbrev cX10_mostAlike : ByteArray := prog_12_method_3_code
def yX10_mostAlike : MethodName := ⟨RX10, "mostAlike", "(I)I"⟩
abbrev cX10_note : ByteArray := prog_12_method_4_code
def yX10_note : MethodName := ⟨RX10, "note", "(II)V"⟩
abbrev cX10_isAsSeen : ByteArray := prog_12_method_5_code
def yX10_isAsSeen : MethodName := ⟨RX10, "isAsSeen", "(LWakePark$Flow;LWakePark$Numbers;)Z"⟩
def RX11 : String := "WakePark$Word"
def TX11 : u_T := fun k => match k with
  | _ => ("", "", "", false)
def tyX11 : Nat → FieldType := fun k => match k with
  | _ => .int
abbrev wsX110 : List Cond := u_ws RX11 TX11 0
theorem nmX11 : ∀ a, a < 0 → ∀ b, b < 0 → a ≠ b → (TX11 a).2.1 ≠ (TX11 b).2.1 := by decide +kernel
theorem tyX11_ok : ∀ k, k < 0 → parseFieldDescriptor (TX11 k).2.2.1 = some (tyX11 k) := by decide +kernel
def RX12 : String := "WakePark"
def TX12 : u_T := fun k => match k with
  | 0 => ("WakePark", "tape", "LWakePark$Tape;", true)
  | 1 => ("WakePark", "park", "LWakePark$Park;", false)
  | 2 => ("WakePark", "reader", "LWakePark$Reader;", true)
  | 3 => ("WakePark", "spare", "LWakePark$Park;", false)
  | 4 => ("WakePark", "now", "LWakePark$State;", true)
  | 5 => ("WakePark", "trial", "LWakePark$State;", true)
  | 6 => ("WakePark", "past", "[LWakePark$State;", true)
  | 7 => ("WakePark", "pastNext", "I", false)
  | 8 => ("WakePark", "pastSize", "I", false)
  | 9 => ("WakePark", "lines", "LWakePark$Numbers;", true)
  | 10 => ("WakePark", "sights", "LWakePark$Numbers;", true)
  | 11 => ("WakePark", "marks", "[LWakePark$Mark;", true)
  | 12 => ("WakePark", "flow", "LWakePark$Flow;", true)
  | 13 => ("WakePark", "searches", "[LWakePark$Search;", true)
  | _ => ("WakePark", "guesses", "LWakePark$Winds;", true)
def tyX12 : Nat → FieldType := fun k => match k with
  | 0 => .object "WakePark$Tape"
  | 1 => .object "WakePark$Park"
  | 2 => .object "WakePark$Reader"
  | 3 => .object "WakePark$Park"
  | 4 => .object "WakePark$State"
  | 5 => .object "WakePark$State"
  | 6 => .array (.object "WakePark$State")
  | 7 => .int
  | 8 => .int
  | 9 => .object "WakePark$Numbers"
  | 10 => .object "WakePark$Numbers"
  | 11 => .array (.object "WakePark$Mark")
  | 12 => .object "WakePark$Flow"
  | 13 => .array (.object "WakePark$Search")
  | _ => .object "WakePark$Winds"
abbrev wsX120 : List Cond := u_ws RX12 TX12 15
theorem nmX12 : ∀ a, a < 15 → ∀ b, b < 15 → a ≠ b → (TX12 a).2.1 ≠ (TX12 b).2.1 := by decide +kernel
theorem tyX12_ok : ∀ k, k < 15 → parseFieldDescriptor (TX12 k).2.2.1 = some (tyX12 k) := by decide +kernel
abbrev cX12_init : ByteArray := prog_1_method_1_code
def yX12_init : MethodName := ⟨RX12, "<init>", "()V"⟩
abbrev cX12_feed : ByteArray := prog_1_method_2_code
def yX12_feed : MethodName := ⟨RX12, "feed", "(JJJ)I"⟩
abbrev cX12_park : ByteArray := prog_1_method_3_code
def yX12_park : MethodName := ⟨RX12, "park", "()I"⟩
abbrev cX12_day : ByteArray := prog_1_method_4_code
def yX12_day : MethodName := ⟨RX12, "day", "()I"⟩
abbrev cX12_turbine : ByteArray := prog_1_method_5_code
def yX12_turbine : MethodName := ⟨RX12, "turbine", "(II)I"⟩
abbrev cX12_wind : ByteArray := prog_1_method_6_code
def yX12_wind : MethodName := ⟨RX12, "wind", "(I)I"⟩
abbrev cX12_power : ByteArray := prog_1_method_7_code
def yX12_power : MethodName := ⟨RX12, "power", "(I)I"⟩
abbrev cX12_carried : ByteArray := prog_1_method_8_code
def yX12_carried : MethodName := ⟨RX12, "carried", "(I)I"⟩
abbrev cX12_home : ByteArray := prog_1_method_9_code
def yX12_home : MethodName := ⟨RX12, "home", "()I"⟩
abbrev cX12_turn : ByteArray := prog_1_method_10_code
def yX12_turn : MethodName := ⟨RX12, "turn", "(II)I"⟩
abbrev cX12_shut : ByteArray := prog_1_method_11_code
def yX12_shut : MethodName := ⟨RX12, "shut", "(I)Z"⟩
abbrev cX12_open : ByteArray := prog_1_method_12_code
def yX12_open : MethodName := ⟨RX12, "open", "(I)Z"⟩
abbrev cX12_mend : ByteArray := prog_1_method_13_code
def yX12_mend : MethodName := ⟨RX12, "mend", "(I)Z"⟩
abbrev cX12_step : ByteArray := prog_1_method_14_code
def yX12_step : MethodName := ⟨RX12, "step", "()I"⟩
abbrev cX12_undo : ByteArray := prog_1_method_15_code
def yX12_undo : MethodName := ⟨RX12, "undo", "()Z"⟩
abbrev cX12_judged : ByteArray := prog_1_method_16_code
def yX12_judged : MethodName := ⟨RX12, "judged", "(I)I"⟩
abbrev cX12_takes : ByteArray := prog_1_method_17_code
def yX12_takes : MethodName := ⟨RX12, "takes", "(II)I"⟩
abbrev cX12_later : ByteArray := prog_1_method_18_code
def yX12_later : MethodName := ⟨RX12, "later", "(I)I"⟩
abbrev cX12_total : ByteArray := prog_1_method_19_code
def yX12_total : MethodName := ⟨RX12, "total", "(I)I"⟩
abbrev cX12_breaks : ByteArray := prog_1_method_20_code
def yX12_breaks : MethodName := ⟨RX12, "breaks", "(I)I"⟩
abbrev cX12_lost : ByteArray := prog_1_method_21_code
def yX12_lost : MethodName := ⟨RX12, "lost", "()I"⟩
abbrev cX12_best : ByteArray := prog_1_method_22_code
def yX12_best : MethodName := ⟨RX12, "best", "(I)I"⟩
abbrev cX12_alone : ByteArray := prog_1_method_23_code
def yX12_alone : MethodName := ⟨RX12, "alone", "(II)I"⟩
abbrev cX12_idle : ByteArray := prog_1_method_24_code
def yX12_idle : MethodName := ⟨RX12, "idle", "()I"⟩
abbrev cX12_straight : ByteArray := prog_1_method_25_code
def yX12_straight : MethodName := ⟨RX12, "straight", "()I"⟩
abbrev cX12_full : ByteArray := prog_1_method_26_code
def yX12_full : MethodName := ⟨RX12, "full", "()I"⟩
abbrev cX12_dear : ByteArray := prog_1_method_27_code
def yX12_dear : MethodName := ⟨RX12, "dear", "()I"⟩
abbrev cX12_fault : ByteArray := prog_1_method_28_code
def yX12_fault : MethodName := ⟨RX12, "fault", "(I)I"⟩
abbrev cX12_robbed : ByteArray := prog_1_method_29_code
def yX12_robbed : MethodName := ⟨RX12, "robbed", "(I)I"⟩
abbrev cX12_front : ByteArray := prog_1_method_30_code
def yX12_front : MethodName := ⟨RX12, "front", "()I"⟩
abbrev cX12_shade : ByteArray := prog_1_method_31_code
def yX12_shade : MethodName := ⟨RX12, "shade", "(I)I"⟩
abbrev cX12_hops : ByteArray := prog_1_method_32_code
def yX12_hops : MethodName := ⟨RX12, "hops", "(I)I"⟩
abbrev cX12_see : ByteArray := prog_1_method_33_code
def yX12_see : MethodName := ⟨RX12, "see", "(II)Z"⟩
abbrev cX12_winds : ByteArray := prog_1_method_34_code
def yX12_winds : MethodName := ⟨RX12, "winds", "(I)I"⟩
abbrev cX12_ask : ByteArray := prog_1_method_35_code
def yX12_ask : MethodName := ⟨RX12, "ask", "()I"⟩
abbrev cX12_chance : ByteArray := prog_1_method_36_code
def yX12_chance : MethodName := ⟨RX12, "chance", "(III)I"⟩
abbrev cX12_rests : ByteArray := prog_1_method_37_code
def yX12_rests : MethodName := ⟨RX12, "rests", "(IIII)I"⟩
abbrev cX12_days : ByteArray := prog_1_method_38_code
def yX12_days : MethodName := ⟨RX12, "days", "(III)I"⟩
abbrev cX12_mark : ByteArray := prog_1_method_39_code
def yX12_mark : MethodName := ⟨RX12, "mark", "(IZ)Z"⟩
abbrev cX12_count : ByteArray := prog_1_method_40_code
def yX12_count : MethodName := ⟨RX12, "count", "(I)I"⟩
abbrev cX12_stands : ByteArray := prog_1_method_41_code
def yX12_stands : MethodName := ⟨RX12, "stands", "(I)Z"⟩
abbrev cX12_act : ByteArray := prog_1_method_42_code
def yX12_act : MethodName := ⟨RX12, "act", "(III)Z"⟩
abbrev cX12_remember : ByteArray := prog_1_method_43_code
def yX12_remember : MethodName := ⟨RX12, "remember", "()V"⟩
abbrev cX12_forgetPast : ByteArray := prog_1_method_44_code
def yX12_forgetPast : MethodName := ⟨RX12, "forgetPast", "()V"⟩
abbrev cX12_forgetSearches : ByteArray := prog_1_method_45_code
def yX12_forgetSearches : MethodName := ⟨RX12, "forgetSearches", "()V"⟩
abbrev cX12_takenNow : ByteArray := prog_1_method_46_code
def yX12_takenNow : MethodName := ⟨RX12, "takenNow", "(II)I"⟩
abbrev cX12_searched : ByteArray := prog_1_method_47_code
def yX12_searched : MethodName := ⟨RX12, "searched", "(II)I"⟩
abbrev cX12_ownWind : ByteArray := prog_1_method_48_code
def yX12_ownWind : MethodName := ⟨RX12, "ownWind", "(LWakePark$State;I)I"⟩
abbrev cX12_isDigit : ByteArray := prog_1_method_49_code
def yX12_isDigit : MethodName := ⟨RX12, "isDigit", "(I)Z"⟩
abbrev cX12_keeps : ByteArray := prog_1_method_50_code
def yX12_keeps : MethodName := ⟨RX12, "keeps", "(IIIII)Z"⟩
abbrev cX12_gain : ByteArray := prog_1_method_51_code
def yX12_gain : MethodName := ⟨RX12, "gain", "(IIIII)I"⟩
abbrev cX12_drawn : ByteArray := prog_1_method_52_code
def yX12_drawn : MethodName := ⟨RX12, "drawn", "(J)J"⟩
abbrev cX12_below : ByteArray := prog_1_method_53_code
def yX12_below : MethodName := ⟨RX12, "below", "(JI)I"⟩
def RX13 : String := "WakeParkModel"
def TX13 : u_T := fun k => match k with
  | 0 => ("WakeParkModel", "thrown", "I", false)
  | 1 => ("WakeParkModel", "taped", "I", false)
  | 2 => ("WakeParkModel", "tape", "[I", true)
  | 3 => ("WakeParkModel", "size", "I", false)
  | 4 => ("WakeParkModel", "place", "I", false)
  | 5 => ("WakeParkModel", "begin", "I", false)
  | 6 => ("WakeParkModel", "token", "I", false)
  | 7 => ("WakeParkModel", "word", "J", false)
  | 8 => ("WakeParkModel", "told", "I", false)
  | 9 => ("WakeParkModel", "wrong", "I", false)
  | 10 => ("WakeParkModel", "park", "[I", true)
  | 11 => ("WakeParkModel", "turbineName", "[J", true)
  | 12 => ("WakeParkModel", "kind", "[I", true)
  | 13 => ("WakeParkModel", "owner", "[I", true)
  | 14 => ("WakeParkModel", "cell", "[I", true)
  | 15 => ("WakeParkModel", "goesTo", "[I", true)
  | 16 => ("WakeParkModel", "holds", "[I", true)
  | 17 => ("WakeParkModel", "told8", "[I", true)
  | 18 => ("WakeParkModel", "lineFrom", "[I", true)
  | 19 => ("WakeParkModel", "lineTo", "[I", true)
  | 20 => ("WakeParkModel", "codes", "[I", true)
  | 21 => ("WakeParkModel", "code", "I", false)
  | 22 => ("WakeParkModel", "toldLines", "I", false)
  | 23 => ("WakeParkModel", "opened", "[I", true)
  | 24 => ("WakeParkModel", "compared", "[Z", true)
  | 25 => ("WakeParkModel", "kept", "[I", true)
  | 26 => ("WakeParkModel", "keptBy", "[I", true)
  | 27 => ("WakeParkModel", "ahead", "[I", true)
  | 28 => ("WakeParkModel", "against", "[I", true)
  | 29 => ("WakeParkModel", "sum", "[I", true)
  | 30 => ("WakeParkModel", "sumBy", "[I", true)
  | 31 => ("WakeParkModel", "term", "[I", true)
  | 32 => ("WakeParkModel", "termBy", "[I", true)
  | 33 => ("WakeParkModel", "byNot", "[I", true)
  | 34 => ("WakeParkModel", "valueOf", "[I", true)
  | 35 => ("WakeParkModel", "given", "I", false)
  | 36 => ("WakeParkModel", "lines", "[I", true)
  | 37 => ("WakeParkModel", "lineWhat", "[I", true)
  | 38 => ("WakeParkModel", "lineA", "[I", true)
  | 39 => ("WakeParkModel", "lineB", "[I", true)
  | 40 => ("WakeParkModel", "seens", "[I", true)
  | 41 => ("WakeParkModel", "seenOf", "[I", true)
  | 42 => ("WakeParkModel", "seenPower", "[I", true)
  | 43 => ("WakeParkModel", "s", "[I", true)
  | 44 => ("WakeParkModel", "aside", "[I", true)
  | 45 => ("WakeParkModel", "before", "[I", true)
  | 46 => ("WakeParkModel", "marked", "[I", true)
  | 47 => ("WakeParkModel", "undone", "[I", true)
  | 48 => ("WakeParkModel", "isLaid", "[Z", true)
  | 49 => ("WakeParkModel", "done", "I", false)
  | 50 => ("WakeParkModel", "blowing", "I", false)
  | 51 => ("WakeParkModel", "blowsFrom", "I", false)
  | 52 => ("WakeParkModel", "powers", "[I", true)
  | 53 => ("WakeParkModel", "carries", "[I", true)
  | 54 => ("WakeParkModel", "bestMuch", "I", false)
  | 55 => ("WakeParkModel", "bestAngles", "I", false)
  | 56 => ("WakeParkModel", "powerBy", "[I", true)
  | 57 => ("WakeParkModel", "isFit", "[Z", true)
  | 58 => ("WakeParkModel", "alike", "[I", true)
  | _ => ("WakeParkModel", "g", "J", false)
def tyX13 : Nat → FieldType := fun k => match k with
  | 0 => .int
  | 1 => .int
  | 2 => .array .int
  | 3 => .int
  | 4 => .int
  | 5 => .int
  | 6 => .int
  | 7 => .long
  | 8 => .int
  | 9 => .int
  | 10 => .array .int
  | 11 => .array .long
  | 12 => .array .int
  | 13 => .array .int
  | 14 => .array .int
  | 15 => .array .int
  | 16 => .array .int
  | 17 => .array .int
  | 18 => .array .int
  | 19 => .array .int
  | 20 => .array .int
  | 21 => .int
  | 22 => .int
  | 23 => .array .int
  | 24 => .array .boolean
  | 25 => .array .int
  | 26 => .array .int
  | 27 => .array .int
  | 28 => .array .int
  | 29 => .array .int
  | 30 => .array .int
  | 31 => .array .int
  | 32 => .array .int
  | 33 => .array .int
  | 34 => .array .int
  | 35 => .int
  | 36 => .array .int
  | 37 => .array .int
  | 38 => .array .int
  | 39 => .array .int
  | 40 => .array .int
  | 41 => .array .int
  | 42 => .array .int
  | 43 => .array .int
  | 44 => .array .int
  | 45 => .array .int
  | 46 => .array .int
  | 47 => .array .int
  | 48 => .array .boolean
  | 49 => .int
  | 50 => .int
  | 51 => .int
  | 52 => .array .int
  | 53 => .array .int
  | 54 => .int
  | 55 => .int
  | 56 => .array .int
  | 57 => .array .boolean
  | 58 => .array .int
  | _ => .long
abbrev wsX130 : List Cond := u_ws RX13 TX13 60
theorem nmX13 : ∀ a, a < 60 → ∀ b, b < 60 → a ≠ b → (TX13 a).2.1 ≠ (TX13 b).2.1 := by decide +kernel
theorem tyX13_ok : ∀ k, k < 60 → parseFieldDescriptor (TX13 k).2.2.1 = some (tyX13 k) := by decide +kernel
abbrev cX13_init : ByteArray := prog_15_method_1_code
def yX13_init : MethodName := ⟨RX13, "<init>", "()V"⟩
abbrev cX13_thrown : ByteArray := prog_15_method_2_code
def yX13_thrown : MethodName := ⟨RX13, "thrown", "()I"⟩
abbrev cX13_within : ByteArray := prog_15_method_3_code
def yX13_within : MethodName := ⟨RX13, "within", "(III)Z"⟩
abbrev cX13_between : ByteArray := prog_15_method_4_code
def yX13_between : MethodName := ⟨RX13, "between", "(III)I"⟩
abbrev cX13_feed : ByteArray := prog_15_method_5_code
def yX13_feed : MethodName := ⟨RX13, "feed", "(JJJ)I"⟩
abbrev cX13_signAt : ByteArray := prog_15_method_6_code
def yX13_signAt : MethodName := ⟨RX13, "signAt", "(I)I"⟩
abbrev cX13_nextToken : ByteArray := prog_15_method_7_code
def yX13_nextToken : MethodName := ⟨RX13, "nextToken", "()V"⟩
abbrev cX13_isWord : ByteArray := prog_15_method_8_code
def yX13_isWord : MethodName := ⟨RX13, "isWord", "(J)Z"⟩
abbrev cX13_isSign : ByteArray := prog_15_method_9_code
def yX13_isSign : MethodName := ⟨RX13, "isSign", "(I)Z"⟩
abbrev cX13_fails : ByteArray := prog_15_method_10_code
def yX13_fails : MethodName := ⟨RX13, "fails", "(I)Z"⟩
abbrev cX13_usual : ByteArray := prog_15_method_11_code
def yX13_usual : MethodName := ⟨RX13, "usual", "(I)V"⟩
abbrev cX13_puts : ByteArray := prog_15_method_12_code
def yX13_puts : MethodName := ⟨RX13, "puts", "(I)V"⟩
abbrev cX13_fact : ByteArray := prog_15_method_13_code
def yX13_fact : MethodName := ⟨RX13, "fact", "()I"⟩
abbrev cX13_reads : ByteArray := prog_15_method_14_code
def yX13_reads : MethodName := ⟨RX13, "reads", "()Z"⟩
abbrev cX13_opens : ByteArray := prog_15_method_15_code
def yX13_opens : MethodName := ⟨RX13, "opens", "(I)V"⟩
abbrev cX13_sums : ByteArray := prog_15_method_16_code
def yX13_sums : MethodName := ⟨RX13, "sums", "(I)V"⟩
abbrev cX13_tests : ByteArray := prog_15_method_17_code
def yX13_tests : MethodName := ⟨RX13, "tests", "(I)V"⟩
abbrev cX13_worked : ByteArray := prog_15_method_18_code
def yX13_worked : MethodName := ⟨RX13, "worked", "(I)I"⟩
abbrev cX13_isKept : ByteArray := prog_15_method_19_code
def yX13_isKept : MethodName := ⟨RX13, "isKept", "()Z"⟩
abbrev cX13_turbineNamed : ByteArray := prog_15_method_20_code
def yX13_turbineNamed : MethodName := ⟨RX13, "turbineNamed", "(I)I"⟩
abbrev cX13_needsNumber : ByteArray := prog_15_method_21_code
def yX13_needsNumber : MethodName := ⟨RX13, "needsNumber", "(II)Z"⟩
abbrev cX13_needsBoth : ByteArray := prog_15_method_22_code
def yX13_needsBoth : MethodName := ⟨RX13, "needsBoth", "(JII)Z"⟩
abbrev cX13_closes : ByteArray := prog_15_method_23_code
def yX13_closes : MethodName := ⟨RX13, "closes", "()Z"⟩
abbrev cX13_needsTurbine : ByteArray := prog_15_method_24_code
def yX13_needsTurbine : MethodName := ⟨RX13, "needsTurbine", "(I)Z"⟩
abbrev cX13_stands : ByteArray := prog_15_method_25_code
def yX13_stands : MethodName := ⟨RX13, "stands", "(I)Z"⟩
abbrev cX13_readsTurbine : ByteArray := prog_15_method_26_code
def yX13_readsTurbine : MethodName := ⟨RX13, "readsTurbine", "()Z"⟩
abbrev cX13_readsCable : ByteArray := prog_15_method_27_code
def yX13_readsCable : MethodName := ⟨RX13, "readsCable", "()Z"⟩
abbrev cX13_isTold : ByteArray := prog_15_method_28_code
def yX13_isTold : MethodName := ⟨RX13, "isTold", "(I)Z"⟩
abbrev cX13_readsRow : ByteArray := prog_15_method_29_code
def yX13_readsRow : MethodName := ⟨RX13, "readsRow", "(II)Z"⟩
abbrev cX13_readsOne : ByteArray := prog_15_method_30_code
def yX13_readsOne : MethodName := ⟨RX13, "readsOne", "(II)Z"⟩
abbrev cX13_readsWakes : ByteArray := prog_15_method_31_code
def yX13_readsWakes : MethodName := ⟨RX13, "readsWakes", "()Z"⟩
abbrev cX13_readsGives : ByteArray := prog_15_method_32_code
def yX13_readsGives : MethodName := ⟨RX13, "readsGives", "()Z"⟩
abbrev cX13_begins : ByteArray := prog_15_method_33_code
def yX13_begins : MethodName := ⟨RX13, "begins", "()V"⟩
abbrev cX13_readsPark : ByteArray := prog_15_method_34_code
def yX13_readsPark : MethodName := ⟨RX13, "readsPark", "()Z"⟩
abbrev cX13_readsAll : ByteArray := prog_15_method_35_code
def yX13_readsAll : MethodName := ⟨RX13, "readsAll", "()Z"⟩
abbrev cX13_shifts : ByteArray := prog_15_method_36_code
def yX13_shifts : MethodName := ⟨RX13, "shifts", "([II)V"⟩
abbrev cX13_lays : ByteArray := prog_15_method_37_code
def yX13_lays : MethodName := ⟨RX13, "lays", "()V"⟩
abbrev cX13_copies : ByteArray := prog_15_method_38_code
def yX13_copies : MethodName := ⟨RX13, "copies", "([II[II)V"⟩
abbrev cX13_readsLine : ByteArray := prog_15_method_39_code
def yX13_readsLine : MethodName := ⟨RX13, "readsLine", "()Z"⟩
abbrev cX13_laysLines : ByteArray := prog_15_method_40_code
def yX13_laysLines : MethodName := ⟨RX13, "laysLines", "(II)V"⟩
abbrev cX13_laysSeen : ByteArray := prog_15_method_41_code
def yX13_laysSeen : MethodName := ⟨RX13, "laysSeen", "(II)V"⟩
abbrev cX13_fresh0 : ByteArray := prog_15_method_42_code
def yX13_fresh0 : MethodName := ⟨RX13, "fresh0", "()V"⟩
abbrev cX13_park : ByteArray := prog_15_method_43_code
def yX13_park : MethodName := ⟨RX13, "park", "()I"⟩
abbrev cX13_day : ByteArray := prog_15_method_44_code
def yX13_day : MethodName := ⟨RX13, "day", "()I"⟩
abbrev cX13_isTurbine : ByteArray := prog_15_method_45_code
def yX13_isTurbine : MethodName := ⟨RX13, "isTurbine", "(I)Z"⟩
abbrev cX13_rowOf : ByteArray := prog_15_method_46_code
def yX13_rowOf : MethodName := ⟨RX13, "rowOf", "(II)I"⟩
abbrev cX13_priceNow : ByteArray := prog_15_method_47_code
def yX13_priceNow : MethodName := ⟨RX13, "priceNow", "()I"⟩
abbrev cX13_isShut : ByteArray := prog_15_method_48_code
def yX13_isShut : MethodName := ⟨RX13, "isShut", "(I)Z"⟩
abbrev cX13_isBroken : ByteArray := prog_15_method_49_code
def yX13_isBroken : MethodName := ⟨RX13, "isBroken", "(I)Z"⟩
abbrev cX13_runs : ByteArray := prog_15_method_50_code
def yX13_runs : MethodName := ⟨RX13, "runs", "(I)Z"⟩
abbrev cX13_turnedOf : ByteArray := prog_15_method_51_code
def yX13_turnedOf : MethodName := ⟨RX13, "turnedOf", "(I)I"⟩
abbrev cX13_looks : ByteArray := prog_15_method_52_code
def yX13_looks : MethodName := ⟨RX13, "looks", "()V"⟩
abbrev cX13_behind : ByteArray := prog_15_method_53_code
def yX13_behind : MethodName := ⟨RX13, "behind", "(II)I"⟩
abbrev cX13_takesOf : ByteArray := prog_15_method_54_code
def yX13_takesOf : MethodName := ⟨RX13, "takesOf", "(II)I"⟩
abbrev cX13_takenOf : ByteArray := prog_15_method_55_code
def yX13_takenOf : MethodName := ⟨RX13, "takenOf", "(I)I"⟩
abbrev cX13_windOf : ByteArray := prog_15_method_56_code
def yX13_windOf : MethodName := ⟨RX13, "windOf", "(I)I"⟩
abbrev cX13_powerOf : ByteArray := prog_15_method_57_code
def yX13_powerOf : MethodName := ⟨RX13, "powerOf", "(I)I"⟩
abbrev cX13_hopsOf : ByteArray := prog_15_method_58_code
def yX13_hopsOf : MethodName := ⟨RX13, "hopsOf", "(I)I"⟩
abbrev cX13_homeBy : ByteArray := prog_15_method_59_code
def yX13_homeBy : MethodName := ⟨RX13, "homeBy", "(I)I"⟩
abbrev cX13_laysPowers : ByteArray := prog_15_method_60_code
def yX13_laysPowers : MethodName := ⟨RX13, "laysPowers", "()V"⟩
abbrev cX13_homeNow : ByteArray := prog_15_method_61_code
def yX13_homeNow : MethodName := ⟨RX13, "homeNow", "()I"⟩
abbrev cX13_powersNow : ByteArray := prog_15_method_62_code
def yX13_powersNow : MethodName := ⟨RX13, "powersNow", "()I"⟩
abbrev cX13_soldNow : ByteArray := prog_15_method_63_code
def yX13_soldNow : MethodName := ⟨RX13, "soldNow", "()I"⟩
abbrev cX13_passes : ByteArray := prog_15_method_64_code
def yX13_passes : MethodName := ⟨RX13, "passes", "()I"⟩
abbrev cX13_turbine : ByteArray := prog_15_method_65_code
def yX13_turbine : MethodName := ⟨RX13, "turbine", "(II)I"⟩
abbrev cX13_wind : ByteArray := prog_15_method_66_code
def yX13_wind : MethodName := ⟨RX13, "wind", "(I)I"⟩
abbrev cX13_power : ByteArray := prog_15_method_67_code
def yX13_power : MethodName := ⟨RX13, "power", "(I)I"⟩
abbrev cX13_carried : ByteArray := prog_15_method_68_code
def yX13_carried : MethodName := ⟨RX13, "carried", "(I)I"⟩
abbrev cX13_home : ByteArray := prog_15_method_69_code
def yX13_home : MethodName := ⟨RX13, "home", "()I"⟩
abbrev cX13_keeps : ByteArray := prog_15_method_70_code
def yX13_keeps : MethodName := ⟨RX13, "keeps", "()V"⟩
abbrev cX13_turn : ByteArray := prog_15_method_71_code
def yX13_turn : MethodName := ⟨RX13, "turn", "(II)I"⟩
abbrev cX13_canMend : ByteArray := prog_15_method_72_code
def yX13_canMend : MethodName := ⟨RX13, "canMend", "(I)Z"⟩
abbrev cX13_mends : ByteArray := prog_15_method_73_code
def yX13_mends : MethodName := ⟨RX13, "mends", "(I)V"⟩
abbrev cX13_shut : ByteArray := prog_15_method_74_code
def yX13_shut : MethodName := ⟨RX13, "shut", "(I)Z"⟩
abbrev cX13_open : ByteArray := prog_15_method_75_code
def yX13_open : MethodName := ⟨RX13, "open", "(I)Z"⟩
abbrev cX13_mend : ByteArray := prog_15_method_76_code
def yX13_mend : MethodName := ⟨RX13, "mend", "(I)Z"⟩
abbrev cX13_step : ByteArray := prog_15_method_77_code
def yX13_step : MethodName := ⟨RX13, "step", "()I"⟩
abbrev cX13_undo : ByteArray := prog_15_method_78_code
def yX13_undo : MethodName := ⟨RX13, "undo", "()Z"⟩
abbrev cX13_isDone : ByteArray := prog_15_method_79_code
def yX13_isDone : MethodName := ⟨RX13, "isDone", "(I)Z"⟩
abbrev cX13_judged : ByteArray := prog_15_method_80_code
def yX13_judged : MethodName := ⟨RX13, "judged", "(I)I"⟩
abbrev cX13_takes : ByteArray := prog_15_method_81_code
def yX13_takes : MethodName := ⟨RX13, "takes", "(II)I"⟩
abbrev cX13_later : ByteArray := prog_15_method_82_code
def yX13_later : MethodName := ⟨RX13, "later", "(I)I"⟩
abbrev cX13_total : ByteArray := prog_15_method_83_code
def yX13_total : MethodName := ⟨RX13, "total", "(I)I"⟩
abbrev cX13_breaks : ByteArray := prog_15_method_84_code
def yX13_breaks : MethodName := ⟨RX13, "breaks", "(I)I"⟩
abbrev cX13_lost : ByteArray := prog_15_method_85_code
def yX13_lost : MethodName := ⟨RX13, "lost", "()I"⟩
abbrev cX13_turnsAll : ByteArray := prog_15_method_86_code
def yX13_turnsAll : MethodName := ⟨RX13, "turnsAll", "(II)V"⟩
abbrev cX13_ownedBy : ByteArray := prog_15_method_87_code
def yX13_ownedBy : MethodName := ⟨RX13, "ownedBy", "(I)I"⟩
abbrev cX13_powerBy : ByteArray := prog_15_method_88_code
def yX13_powerBy : MethodName := ⟨RX13, "powerBy", "(I)I"⟩
abbrev cX13_foundOf : ByteArray := prog_15_method_89_code
def yX13_foundOf : MethodName := ⟨RX13, "foundOf", "(II)I"⟩
abbrev cX13_best : ByteArray := prog_15_method_90_code
def yX13_best : MethodName := ⟨RX13, "best", "(I)I"⟩
abbrev cX13_alone : ByteArray := prog_15_method_91_code
def yX13_alone : MethodName := ⟨RX13, "alone", "(II)I"⟩
abbrev cX13_idle : ByteArray := prog_15_method_92_code
def yX13_idle : MethodName := ⟨RX13, "idle", "()I"⟩
abbrev cX13_straight : ByteArray := prog_15_method_93_code
def yX13_straight : MethodName := ⟨RX13, "straight", "()I"⟩
abbrev cX13_full : ByteArray := prog_15_method_94_code
def yX13_full : MethodName := ⟨RX13, "full", "()I"⟩
abbrev cX13_dear : ByteArray := prog_15_method_95_code
def yX13_dear : MethodName := ⟨RX13, "dear", "()I"⟩
abbrev cX13_fault : ByteArray := prog_15_method_96_code
def yX13_fault : MethodName := ⟨RX13, "fault", "(I)I"⟩
abbrev cX13_hops : ByteArray := prog_15_method_97_code
def yX13_hops : MethodName := ⟨RX13, "hops", "(I)I"⟩
abbrev cX13_windsOf : ByteArray := prog_15_method_98_code
def yX13_windsOf : MethodName := ⟨RX13, "windsOf", "(I)I"⟩
abbrev cX13_robbed : ByteArray := prog_15_method_99_code
def yX13_robbed : MethodName := ⟨RX13, "robbed", "(I)I"⟩
abbrev cX13_front : ByteArray := prog_15_method_100_code
def yX13_front : MethodName := ⟨RX13, "front", "()I"⟩
abbrev cX13_shade : ByteArray := prog_15_method_101_code
def yX13_shade : MethodName := ⟨RX13, "shade", "(I)I"⟩
abbrev cX13_laysWinds : ByteArray := prog_15_method_102_code
def yX13_laysWinds : MethodName := ⟨RX13, "laysWinds", "()I"⟩
abbrev cX13_see : ByteArray := prog_15_method_103_code
def yX13_see : MethodName := ⟨RX13, "see", "(II)Z"⟩
abbrev cX13_winds : ByteArray := prog_15_method_104_code
def yX13_winds : MethodName := ⟨RX13, "winds", "(I)I"⟩
abbrev cX13_ask : ByteArray := prog_15_method_105_code
def yX13_ask : MethodName := ⟨RX13, "ask", "()I"⟩
abbrev cX13_chance : ByteArray := prog_15_method_106_code
def yX13_chance : MethodName := ⟨RX13, "chance", "(III)I"⟩
abbrev cX13_getsBy : ByteArray := prog_15_method_107_code
def yX13_getsBy : MethodName := ⟨RX13, "getsBy", "(IIIII)I"⟩
abbrev cX13_rests : ByteArray := prog_15_method_108_code
def yX13_rests : MethodName := ⟨RX13, "rests", "(IIII)I"⟩
abbrev cX13_draws : ByteArray := prog_15_method_109_code
def yX13_draws : MethodName := ⟨RX13, "draws", "(I)I"⟩
abbrev cX13_livesStep : ByteArray := prog_15_method_110_code
def yX13_livesStep : MethodName := ⟨RX13, "livesStep", "()V"⟩
abbrev cX13_days : ByteArray := prog_15_method_111_code
def yX13_days : MethodName := ⟨RX13, "days", "(III)I"⟩
abbrev cX13_mark : ByteArray := prog_15_method_112_code
def yX13_mark : MethodName := ⟨RX13, "mark", "(IZ)Z"⟩
abbrev cX13_count : ByteArray := prog_15_method_113_code
def yX13_count : MethodName := ⟨RX13, "count", "(I)I"⟩
def RJx145de : String := "java/io/Serializable"
def TJx145de : u_T := fun k => match k with
  | _ => ("", "", "", false)
def tyJx145de : Nat → FieldType := fun k => match k with
  | _ => .int
abbrev wsJx145de0 : List Cond := u_ws RJx145de TJx145de 0
theorem nmJx145de : ∀ a, a < 0 → ∀ b, b < 0 → a ≠ b → (TJx145de a).2.1 ≠ (TJx145de b).2.1 := by decide +kernel
theorem tyJx145de_ok : ∀ k, k < 0 → parseFieldDescriptor (TJx145de k).2.2.1 = some (tyJx145de k) := by decide +kernel
def RJxb160c : String := "java/lang/Comparable"
def TJxb160c : u_T := fun k => match k with
  | _ => ("", "", "", false)
def tyJxb160c : Nat → FieldType := fun k => match k with
  | _ => .int
abbrev wsJxb160c0 : List Cond := u_ws RJxb160c TJxb160c 0
theorem nmJxb160c : ∀ a, a < 0 → ∀ b, b < 0 → a ≠ b → (TJxb160c a).2.1 ≠ (TJxb160c b).2.1 := by decide +kernel
theorem tyJxb160c_ok : ∀ k, k < 0 → parseFieldDescriptor (TJxb160c k).2.2.1 = some (tyJxb160c k) := by decide +kernel
def RJx29ce0 : String := "java/lang/Enum"
def TJx29ce0 : u_T := fun k => match k with
  | _ => ("", "", "", false)
def tyJx29ce0 : Nat → FieldType := fun k => match k with
  | _ => .int
abbrev wsJx29ce00 : List Cond := u_ws RJx29ce0 TJx29ce0 0
theorem nmJx29ce0 : ∀ a, a < 0 → ∀ b, b < 0 → a ≠ b → (TJx29ce0 a).2.1 ≠ (TJx29ce0 b).2.1 := by decide +kernel
theorem tyJx29ce0_ok : ∀ k, k < 0 → parseFieldDescriptor (TJx29ce0 k).2.2.1 = some (tyJx29ce0 k) := by decide +kernel
abbrev cJx29ce0_ordinal_8abf5 : ByteArray := prog_17_method_2_code
def yJx29ce0_ordinal_8abf5 : MethodName := ⟨RJx29ce0, "ordinal", "()I"⟩
def RJ9 : String := "java/lang/Math"
def TJ9 : u_T := fun k => match k with
  | _ => ("", "", "", false)
def tyJ9 : Nat → FieldType := fun k => match k with
  | _ => .int
abbrev wsJ90 : List Cond := u_ws RJ9 TJ9 0
theorem nmJ9 : ∀ a, a < 0 → ∀ b, b < 0 → a ≠ b → (TJ9 a).2.1 ≠ (TJ9 b).2.1 := by decide +kernel
theorem tyJ9_ok : ∀ k, k < 0 → parseFieldDescriptor (TJ9 k).2.2.1 = some (tyJ9 k) := by decide +kernel
abbrev cJ9_floorMod_7cf53 : ByteArray := prog_19_method_50_code
def yJ9_floorMod_7cf53 : MethodName := ⟨RJ9, "floorMod", "(II)I"⟩
abbrev cJ9_abs_0f7a4 : ByteArray := prog_19_method_59_code
def yJ9_abs_0f7a4 : MethodName := ⟨RJ9, "abs", "(I)I"⟩
abbrev cJ9_max_7cf53 : ByteArray := prog_19_method_65_code
def yJ9_max_7cf53 : MethodName := ⟨RJ9, "max", "(II)I"⟩
abbrev cJ9_min_7cf53 : ByteArray := prog_19_method_69_code
def yJ9_min_7cf53 : MethodName := ⟨RJ9, "min", "(II)I"⟩
def RJ10 : String := "java/lang/System"
def TJ10 : u_T := fun k => match k with
  | _ => ("", "", "", false)
def tyJ10 : Nat → FieldType := fun k => match k with
  | _ => .int
abbrev wsJ100 : List Cond := u_ws RJ10 TJ10 0
theorem nmJ10 : ∀ a, a < 0 → ∀ b, b < 0 → a ≠ b → (TJ10 a).2.1 ≠ (TJ10 b).2.1 := by decide +kernel
theorem tyJ10_ok : ∀ k, k < 0 → parseFieldDescriptor (TJ10 k).2.2.1 = some (tyJ10 k) := by decide +kernel
def RJxfd54e : String := "java/lang/constant/Constable"
def TJxfd54e : u_T := fun k => match k with
  | _ => ("", "", "", false)
def tyJxfd54e : Nat → FieldType := fun k => match k with
  | _ => .int
abbrev wsJxfd54e0 : List Cond := u_ws RJxfd54e TJxfd54e 0
theorem nmJxfd54e : ∀ a, a < 0 → ∀ b, b < 0 → a ≠ b → (TJxfd54e a).2.1 ≠ (TJxfd54e b).2.1 := by decide +kernel
theorem tyJxfd54e_ok : ∀ k, k < 0 → parseFieldDescriptor (TJxfd54e k).2.2.1 = some (tyJxfd54e k) := by decide +kernel
def RJ7 : String := "java/util/Arrays"
def TJ7 : u_T := fun k => match k with
  | _ => ("", "", "", false)
def tyJ7 : Nat → FieldType := fun k => match k with
  | _ => .int
abbrev wsJ70 : List Cond := u_ws RJ7 TJ7 0
theorem nmJ7 : ∀ a, a < 0 → ∀ b, b < 0 → a ≠ b → (TJ7 a).2.1 ≠ (TJ7 b).2.1 := by decide +kernel
theorem tyJ7_ok : ∀ k, k < 0 → parseFieldDescriptor (TJ7 k).2.2.1 = some (tyJ7 k) := by decide +kernel
abbrev cJ7_fill_53178 : ByteArray := prog_23_method_103_code
def yJ7_fill_53178 : MethodName := ⟨RJ7, "fill", "([II)V"⟩
def RL : String := "WakeParkLaw"
abbrev cL_rests : ByteArray := method_3_code
def yL_rests : MethodName := ⟨RL, "rests", "(LWakePark;IIII[J)I"⟩
abbrev cL_law : ByteArray := code
def yL_law : MethodName := ⟨RL, "law", "([I)Z"⟩
abbrev vwCl : List vw_C := [(RX1, TX1, 7), (RX2, TX2, 2), (RX3, TX3, 4), (RX4, TX4, 2), (RX5, TX5, 15), (RX6, TX6, 7), (RX7, TX7, 9), (RX8, TX8, 6), (RX9, TX9, 8), (RX10, TX10, 7), (RX12, TX12, 15), (RX13, TX13, 60)]
end
section
/-! A small machine of our own: typed references (kind, number), memory as planes of whole numbers; it runs the class's own decoded code. -/
abbrev ZV : Type := Int ⊕ (Int ⊕ (Nat × Option Nat))
abbrev vI (x : Int) : ZV := .inl x
abbrev vL (x : Int) : ZV := .inr (.inl x)
abbrev vR (t : Nat) (o : Option Nat) : ZV := .inr (.inr (t, o))
abbrev ZP : Type := Nat → Nat → Nat → Int
abbrev ZF : Type := Nat → Nat → Nat → Option Nat
abbrev ZRg : Type := Option Nat × Option Nat × Option Nat × Option Nat
abbrev ZK : Type := ZF × (Nat → Nat → Nat) × ZP × ZP × (Nat → Nat)
/-- ints, longs, the four references that change, what stands fast (references, lengths, constants, how many), cells and slots made -/
abbrev ZM : Type := ZP × ZP × ZRg × ZK × Nat × Nat
def z32 (z : Int) : Int := Int.bmod z 4294967296
def z64 (z : Int) : Int := Int.bmod z 18446744073709551616
def zup (f : ZP) (t i k : Nat) (x : Int) : ZP := fun t' i' k' => if t' = t ∧ i' = i ∧ k' = k then x else f t' i' k'
def zupF (f : ZF) (t i k : Nat) (x : Option Nat) : ZF := fun t' i' k' => if t' = t ∧ i' = i ∧ k' = k then x else f t' i' k'
def zcp (f : ZP) (t1 i1 sp t2 i2 dp n : Nat) : ZP := fun t i k => if t = t2 ∧ i = i2 ∧ dp ≤ k ∧ k < dp + n then f t1 i1 (sp + (k - dp)) else f t i k
def mI (M : ZM) (t i k : Nat) : Int := M.1 t i k
def mL (M : ZM) (t i k : Nat) : Int := M.2.1 t i k
def mR (M : ZM) : ZRg := M.2.2.1
def mK (M : ZM) : ZK := M.2.2.2.1
def mF (M : ZM) (t i k : Nat) : Option Nat := M.2.2.2.1.1 t i k
def mN (M : ZM) (t i : Nat) : Nat := M.2.2.2.1.2.1 t i
def mKI (M : ZM) (t i k : Nat) : Int := M.2.2.2.1.2.2.1 t i k
def mKL (M : ZM) (t i k : Nat) : Int := M.2.2.2.1.2.2.2.1 t i k
def mC (M : ZM) (t : Nat) : Nat := M.2.2.2.1.2.2.2.2 t
def pI (M : ZM) (t i k : Nat) (x : Int) : ZM := (zup M.1 t i k x, M.2)
def pL (M : ZM) (t i k : Nat) (x : Int) : ZM := (M.1, zup M.2.1 t i k x, M.2.2)
def pR (M : ZM) (r : ZRg) : ZM := (M.1, M.2.1, r, M.2.2.2)
def pF (M : ZM) (t i k : Nat) (x : Option Nat) : ZM := (M.1, M.2.1, M.2.2.1, (zupF M.2.2.2.1.1 t i k x, M.2.2.2.1.2), M.2.2.2.2)
def pCp (M : ZM) (t1 i1 sp t2 i2 dp n : Nat) : ZM := (zcp M.1 t1 i1 sp t2 i2 dp n, M.2)
def zrs (f : ZP) (t i : Nat) : ZP := fun t' i' k' => if t' = t ∧ i' = i then 0 else f t' i' k'
def zrsF (f : ZF) (t i : Nat) : ZF := fun t' i' k' => if t' = t ∧ i' = i then none else f t' i' k'
/-- one more of kind t, of n slots -/
def pNew (M : ZM) (t n : Nat) : ZM := (zrs M.1 t (M.2.2.2.1.2.2.2.2 t), zrs M.2.1 t (M.2.2.2.1.2.2.2.2 t), M.2.2.1, (zrsF M.2.2.2.1.1 t (M.2.2.2.1.2.2.2.2 t), M.2.2.2.1.2.1, M.2.2.2.1.2.2.1, M.2.2.2.1.2.2.2.1, fun t' => if t' = t then M.2.2.2.1.2.2.2.2 t + 1 else M.2.2.2.1.2.2.2.2 t'), M.2.2.2.2.1 + 1, M.2.2.2.2.2 + n)
def pLen (M : ZM) (t i n : Nat) : ZM := (M.1, M.2.1, M.2.2.1, (M.2.2.2.1.1, (fun t' i' => if t' = t ∧ i' = i then n else M.2.2.2.1.2.1 t' i'), M.2.2.2.1.2.2), M.2.2.2.2)
def zrg (r : ZRg) (k : Nat) : Option Nat := match k with
  | 0 => r.1
  | 1 => r.2.1
  | 2 => r.2.2.1
  | _ => r.2.2.2
def zsr (r : ZRg) (k : Nat) (x : Option Nat) : ZRg := match k with
  | 0 => (x, r.2)
  | 1 => (r.1, x, r.2.2)
  | 2 => (r.1, r.2.1, x, r.2.2.2)
  | _ => (r.1, r.2.1, r.2.2.1, x)
/-- an instruction, its length, numbers to it, whole numbers to it -/
abbrev ZE : Type := Instr × Nat × List Nat × List Int
abbrev ZT : Type := List (Nat × ZE)
abbrev ZL : Type := List (Option ZV)
def zfd : ZT → Nat → Option ZE
  | [], _ => none
  | a :: l, pc => match Nat.beq a.1 pc with
    | true => some a.2
    | false => zfd l pc
def znt : ZL → Nat → Option ZV
  | [], _ => none
  | a :: _, 0 => a
  | _ :: l, n + 1 => znt l n
def zse : ZL → Nat → Option ZV → ZL
  | [], _, _ => []
  | _ :: l, 0, x => x :: l
  | a :: l, n + 1, x => a :: zse l n x
def zen : Nat → List ZV → ZL
  | 0, _ => []
  | n + 1, [] => none :: zen n []
  | n + 1, .inr (.inl x) :: l => match n with
    | 0 => []
    | n + 1 => some (.inr (.inl x)) :: none :: zen n l
  | n + 1, v :: l => some v :: zen n l
def zpo : Nat → List ZV → List ZV → Option (List ZV × List ZV)
  | 0, as, st => some (as, st)
  | _ + 1, _, [] => none
  | n + 1, as, v :: st => zpo n (v :: as) st
def zbr {α : Type} (c : ClassFile.Cond) (x y : Int) (a b : α) : α := match c with
  | .eq => if x = y then a else b
  | .ne => if x = y then b else a
  | .lt => if x < y then a else b
  | .ge => if x < y then b else a
  | .gt => if y < x then a else b
  | .le => if y < x then b else a
def zsw {α : Type} (x : Int) : List Int → List Nat → (Nat → α) → α → α
  | v :: vs, t :: ts, k, d => if x = v then k t else zsw x vs ts k d
  | _, _, _, d => d
def z_and (x y : Int) : Int := (Int32.ofInt x &&& Int32.ofInt y).toInt
def z_or (x y : Int) : Int := (Int32.ofInt x ||| Int32.ofInt y).toInt
def z_xor (x y : Int) : Int := (Int32.ofInt x ^^^ Int32.ofInt y).toInt
def z_shl (x y : Int) : Int := (Int32.ofInt x <<< (Int32.ofInt y &&& 31)).toInt
def z_shr (x y : Int) : Int := (Int32.ofInt x >>> (Int32.ofInt y &&& 31)).toInt
def z_land (x y : Int) : Int := (Int64.ofInt x &&& Int64.ofInt y).toInt
def z_lor (x y : Int) : Int := (Int64.ofInt x ||| Int64.ofInt y).toInt
def z_lshl (x y : Int) : Int := (Int64.ofInt x <<< ((Int32.ofInt y).toInt64 &&& 63)).toInt
def z_lushr (x y : Int) : Int := ((Int64.ofInt x).toUInt64 >>> ((Int32.ofInt y).toInt64.toUInt64 &&& Int64.toUInt64 63)).toInt64.toInt
def z_lcmp (x y : Int) : Int := if x < y then -1 else if x = y then 0 else 1
def z_i2b (x : Int) : Int := Int.bmod x 256
def z_b1 (x : Int) : Int := x % 2
/-- what one gets in the sea of two -/
def zgain (mine his lose turns stays : Int) : Int := if mine = 1 then (if his = 1 then -lose else turns) else (if his = 1 then stays else 0)
def zkeeps (a b lose turns stays : Int) : Bool := decide (zgain (1 - a) b lose turns stays ≤ zgain a b lose turns stays) && decide (zgain (1 - b) a lose turns stays ≤ zgain b a lose turns stays)
def zrl (lose turns stays : Int) : List Int := (if zkeeps 0 0 lose turns stays then [0] else []) ++ (if zkeeps 0 1 lose turns stays then [1] else []) ++ (if zkeeps 1 0 lose turns stays then [2] else []) ++ (if zkeeps 1 1 lose turns stays then [3] else [])
/-- what rests answers; none: it throws -/
def zrests (lose turns stays what : Int) : Option Int := if 0 ≤ lose ∧ lose ≤ 9 ∧ 0 ≤ turns ∧ turns ≤ 9 ∧ 0 ≤ stays ∧ stays ≤ 9 ∧ -1 ≤ what then (if what = -1 then some ((zrl lose turns stays).length : Int) else (zrl lose turns stays)[what.toNat]?) else none
def zrt (lose turns stays what : Int) : Int := match zrests lose turns stays what with
  | none => 1
  | some _ => 0
def zrv (lose turns stays what : Int) : Int := match zrests lose turns stays what with
  | none => 0
  | some v => v
/-- a cell of n slots is made that nobody keeps -/
def pCe (M : ZM) (n : Nat) : ZM := (M.1, M.2.1, M.2.2.1, M.2.2.2.1, M.2.2.2.2.1 + 1, M.2.2.2.2.2 + n)
/-- of these kinds there is one at most -/
def znw (M : ZM) (t : Nat) : Bool := match t with
  | 5 => Nat.beq (mC M 5) 0
  | 8 => Nat.beq (mC M 8) 0
  | 10 => Nat.beq (mC M 10) 0
  | _ => true
def zmax (x y : Int) : Int := if x < y then y else x
def zmin (x y : Int) : Int := if y < x then y else x
def zabs (x : Int) : Int := if 0 ≤ x then x else z32 (0 - x)
end
section
/-- what an array of a kind holds: 0 ints, 1 longs, 2 bytes, 3 booleans, 4 references, 5 ints that stand fast, 6 references that stand fast, 9 no array -/
def zek (t : Nat) : Nat := match t with
  | 27 => 1
  | 52 => 1
  | 103 => 1
  | 42 => 2
  | 43 => 3
  | 63 => 3
  | 86 => 3
  | 90 => 3
  | 46 => 4
  | 47 => 4
  | 48 => 4
  | 101 => 5
  | 102 => 5
  | 100 => 6
  | t => if t < 20 then 9 else 0
/-- the kind of what an array of references holds -/
def ztg (t : Nat) : Nat := match t with
  | 46 => 7
  | 47 => 2
  | 48 => 6
  | _ => 12
/-- how many fields -/
def znf (t : Nat) : Nat := match t with
  | 0 => 7
  | 1 => 2
  | 2 => 4
  | 3 => 2
  | 4 => 15
  | 5 => 7
  | 6 => 9
  | 7 => 6
  | 8 => 8
  | 9 => 7
  | 10 => 15
  | 11 => 60
  | _ => 0
section ZST
variable {α : Type}
def zbm (b : Bool) (a z : α) : α := match b with
  | true => a
  | false => z
/-- by what an array holds -/
def zem (q : Nat) (a0 a1 a2 a3 a4 a5 a6 z : α) : α := match q with
  | 0 => a0
  | 1 => a1
  | 2 => a2
  | 3 => a3
  | 4 => a4
  | 5 => a5
  | 6 => a6
  | _ => z
def zld (o : Option ZV) (k : ZV → α) (z : α) : α := match o with
  | some v => k v
  | none => z
def zcl (ls : ZL) (i : Nat) : ZL := match i with
  | 0 => ls
  | j + 1 => match znt ls j with
    | some (.inr (.inl _)) => zse ls j none
    | _ => ls
def zS1 (ls : ZL) (i : Nat) (v : ZV) (k : ZL → α) : α := k (zse (zcl ls i) i (some v))
def zS2 (ls : ZL) (i : Nat) (v : ZV) (k : ZL → α) : α := k (zse (zse (zcl ls i) i (some v)) (i + 1) none)
def zgf (M : ZM) (ax : List Nat) (i : Nat) (k : ZV → α) (z : α) : α := match ax with
  | t :: f :: pl :: tg :: rg :: _ => match pl with
    | 0 => k (.inl (mI M t i f))
    | 1 => k (.inl (mI M t i f))
    | 2 => k (.inr (.inl (mL M t i f)))
    | 3 => k (.inr (.inr (tg, mF M t i f)))
    | 4 => k (.inr (.inr (tg, zrg (mR M) rg)))
    | 5 => k (.inl (mKI M t i f))
    | 6 => k (.inr (.inl (mKL M t i f)))
    | _ => z
  | _ => z
def zpf (M : ZM) (ax : List Nat) (i : Nat) (v : ZV) (k : ZM → α) (z : α) : α := match ax with
  | t :: f :: pl :: tg :: rg :: _ => match pl, v with
    | 0, .inl x => k (pI M t i f x)
    | 1, .inl x => zbm (decide (x = 0) || decide (x = 1)) (k (pI M t i f x)) z
    | 2, .inr (.inl x) => k (pL M t i f x)
    | 3, .inr (.inr (t2, some j)) => zbm (Nat.beq t2 tg) (k (pF M t i f (some j))) z
    | 4, .inr (.inr (t2, o)) => match o with
      | none => k (pR M (zsr (mR M) rg none))
      | some j => zbm (Nat.beq t2 tg) (k (pR M (zsr (mR M) rg (some j)))) z
    | _, _ => z
  | _ => z
def zhd (ax : List Nat) : Nat := match ax with
  | a :: _ => a
  | [] => 0
abbrev zinb (M : ZM) (t i : Nat) (x : Int) : Prop := 0 ≤ x ∧ x < (mN M t i : Int)
/-- invocations: 0 static, 1 on an object, 2 Object's own constructor, 3 arraycopy, 4 ordinal, 5 the law's rests, 6 to 8 max, min, abs -/
def ziv (M : ZM) (ax : List Nat) (st : List ZV) (kn : List ZV → ZM → α) (kc : Nat → List ZV → List ZV → α) (z : α) : α := match ax with
  | 0 :: mi :: n :: _ => match zpo n [] st with
    | some (as, r) => zbm (Nat.ble r.length 4) (kc mi as r) z
    | none => z
  | 1 :: mi :: n :: _ :: _ :: tg :: _ => match zpo n [] st with
    | some (.inr (.inr (t, some i)) :: as, r) => zbm (Nat.beq t tg && Nat.ble r.length 4) (kc mi (.inr (.inr (t, some i)) :: as) r) z
    | _ => z
  | 2 :: _ => match st with
    | .inr (.inr (_, some _)) :: r => zbm (Nat.ble r.length 4) (kn r M) z
    | _ => z
  | 3 :: _ => match st with
    | .inl n :: .inl dp :: .inr (.inr (t2, some i2)) :: .inl sp :: .inr (.inr (t1, some i1)) :: r =>
      zbm (Nat.ble r.length 4) (zem (zek t1) (zem (zek t2) (if 0 ≤ sp ∧ 0 ≤ dp ∧ 0 ≤ n ∧ sp + n ≤ (mN M t1 i1 : Int) ∧ dp + n ≤ (mN M t2 i2 : Int) then kn r (pCp M t1 i1 sp.toNat t2 i2 dp.toNat n.toNat) else z) z z z z z z z) z z z z z z z) z
    | _ => z
  | 4 :: _ => match st with
    | .inr (.inr (t, some i)) :: r => zbm (Nat.beq t 12 && Nat.ble r.length 4) (kn (.inl (mKI M 12 i 2) :: r) M) z
    | _ => z
  | 5 :: _ => match st with
    | .inr (.inr (t2, some o)) :: .inl p3 :: .inl p2 :: .inl p1 :: .inl p0 :: .inr (.inr (t1, some _)) :: r =>
      zbm (Nat.beq t2 103 && Nat.beq t1 10 && Nat.ble r.length 4) (if zrt p0 p1 p2 p3 = 1 then kn (.inl 1 :: r) (pCe M 6) else kn (.inl 0 :: r) (pL M 103 o 0 (zrv p0 p1 p2 p3))) z
    | _ => z
  | 6 :: _ => match st with
    | .inl y :: .inl x :: r => zbm (Nat.ble r.length 4) (kn (.inl (zmax x y) :: r) M) z
    | _ => z
  | 7 :: _ => match st with
    | .inl y :: .inl x :: r => zbm (Nat.ble r.length 4) (kn (.inl (zmin x y) :: r) M) z
    | _ => z
  | 8 :: _ => match st with
    | .inl x :: r => zbm (Nat.ble r.length 4) (kn (.inl (zabs x) :: r) M) z
    | _ => z
  | _ => z
def zst (e : ZE) (pc : Nat) (ls : ZL) (st : List ZV) (M : ZM) (k : Nat → ZL → List ZV → ZM → α) (kr : Option ZV → ZM → α) (kc : Nat → List ZV → List ZV → α) (z : α) : α :=
  match e with
  | (ins, len, ax, cv) => match ins with
    | .aload i => zld (znt ls i) (fun v => match v with | .inr (.inr x) => k (pc + len) ls (.inr (.inr x) :: st) M | _ => z) z
    | .aload_n i => zld (znt ls i) (fun v => match v with | .inr (.inr x) => k (pc + len) ls (.inr (.inr x) :: st) M | _ => z) z
    | .iload i => zld (znt ls i) (fun v => match v with | .inl x => k (pc + len) ls (.inl x :: st) M | _ => z) z
    | .iload_n i => zld (znt ls i) (fun v => match v with | .inl x => k (pc + len) ls (.inl x :: st) M | _ => z) z
    | .lload i => zld (znt ls i) (fun v => match v with | .inr (.inl x) => k (pc + len) ls (.inr (.inl x) :: st) M | _ => z) z
    | .lload_n i => zld (znt ls i) (fun v => match v with | .inr (.inl x) => k (pc + len) ls (.inr (.inl x) :: st) M | _ => z) z
    | .astore i => match st with | .inr (.inr x) :: r => zS1 ls i (.inr (.inr x)) (fun l => k (pc + len) l r M) | _ => z
    | .astore_n i => match st with | .inr (.inr x) :: r => zS1 ls i (.inr (.inr x)) (fun l => k (pc + len) l r M) | _ => z
    | .istore i => match st with | .inl x :: r => zS1 ls i (.inl x) (fun l => k (pc + len) l r M) | _ => z
    | .istore_n i => match st with | .inl x :: r => zS1 ls i (.inl x) (fun l => k (pc + len) l r M) | _ => z
    | .lstore i => match st with | .inr (.inl x) :: r => zS2 ls i (.inr (.inl x)) (fun l => k (pc + len) l r M) | _ => z
    | .lstore_n i => match st with | .inr (.inl x) :: r => zS2 ls i (.inr (.inl x)) (fun l => k (pc + len) l r M) | _ => z
    | .iinc i n => zld (znt ls i) (fun v => match v with | .inl x => k (pc + len) (zse ls i (some (.inl (z32 (x + n))))) st M | _ => z) z
    | .iconst n => k (pc + len) ls (.inl n :: st) M
    | .bipush n => k (pc + len) ls (.inl n :: st) M
    | .sipush n => k (pc + len) ls (.inl n :: st) M
    | .lconst n => k (pc + len) ls (.inr (.inl ((n : Nat) : Int)) :: st) M
    | .ldc _ => match cv with | x :: _ => k (pc + len) ls (.inl x :: st) M | [] => z
    | .ldc_w _ => match cv with | x :: _ => k (pc + len) ls (.inl x :: st) M | [] => z
    | .ldc2_w _ => match cv with | x :: _ => k (pc + len) ls (.inr (.inl x) :: st) M | [] => z
    | .aconst_null => k (pc + len) ls (.inr (.inr (0, none)) :: st) M
    | .iadd => match st with | .inl y :: .inl x :: r => k (pc + len) ls (.inl (z32 (x + y)) :: r) M | _ => z
    | .isub => match st with | .inl y :: .inl x :: r => k (pc + len) ls (.inl (z32 (x - y)) :: r) M | _ => z
    | .imul => match st with | .inl y :: .inl x :: r => k (pc + len) ls (.inl (z32 (x * y)) :: r) M | _ => z
    | .idiv => match st with | .inl y :: .inl x :: r => if y = 0 then z else k (pc + len) ls (.inl (z32 (x.tdiv y)) :: r) M | _ => z
    | .irem => match st with | .inl y :: .inl x :: r => if y = 0 then z else k (pc + len) ls (.inl (x.tmod y) :: r) M | _ => z
    | .ineg => match st with | .inl x :: r => k (pc + len) ls (.inl (z32 (-x)) :: r) M | _ => z
    | .iand => match st with | .inl y :: .inl x :: r => k (pc + len) ls (.inl (z_and x y) :: r) M | _ => z
    | .ior => match st with | .inl y :: .inl x :: r => k (pc + len) ls (.inl (z_or x y) :: r) M | _ => z
    | .ixor => match st with | .inl y :: .inl x :: r => k (pc + len) ls (.inl (z_xor x y) :: r) M | _ => z
    | .ishl => match st with | .inl y :: .inl x :: r => k (pc + len) ls (.inl (z_shl x y) :: r) M | _ => z
    | .ishr => match st with | .inl y :: .inl x :: r => k (pc + len) ls (.inl (z_shr x y) :: r) M | _ => z
    | .ladd => match st with | .inr (.inl y) :: .inr (.inl x) :: r => k (pc + len) ls (.inr (.inl (z64 (x + y))) :: r) M | _ => z
    | .lsub => match st with | .inr (.inl y) :: .inr (.inl x) :: r => k (pc + len) ls (.inr (.inl (z64 (x - y))) :: r) M | _ => z
    | .lmul => match st with | .inr (.inl y) :: .inr (.inl x) :: r => k (pc + len) ls (.inr (.inl (z64 (x * y))) :: r) M | _ => z
    | .ldiv => match st with | .inr (.inl y) :: .inr (.inl x) :: r => if y = 0 then z else k (pc + len) ls (.inr (.inl (z64 (x.tdiv y))) :: r) M | _ => z
    | .lrem => match st with | .inr (.inl y) :: .inr (.inl x) :: r => if y = 0 then z else k (pc + len) ls (.inr (.inl (x.tmod y)) :: r) M | _ => z
    | .land => match st with | .inr (.inl y) :: .inr (.inl x) :: r => k (pc + len) ls (.inr (.inl (z_land x y)) :: r) M | _ => z
    | .lor => match st with | .inr (.inl y) :: .inr (.inl x) :: r => k (pc + len) ls (.inr (.inl (z_lor x y)) :: r) M | _ => z
    | .lshl => match st with | .inl y :: .inr (.inl x) :: r => k (pc + len) ls (.inr (.inl (z_lshl x y)) :: r) M | _ => z
    | .lushr => match st with | .inl y :: .inr (.inl x) :: r => k (pc + len) ls (.inr (.inl (z_lushr x y)) :: r) M | _ => z
    | .lcmp => match st with | .inr (.inl y) :: .inr (.inl x) :: r => k (pc + len) ls (.inl (z_lcmp x y) :: r) M | _ => z
    | .i2l => match st with | .inl x :: r => k (pc + len) ls (.inr (.inl x) :: r) M | _ => z
    | .l2i => match st with | .inr (.inl x) :: r => k (pc + len) ls (.inl (z32 x) :: r) M | _ => z
    | .i2b => match st with | .inl x :: r => k (pc + len) ls (.inl (z_i2b x) :: r) M | _ => z
    | .dup => match st with | .inl x :: r => k (pc + len) ls (.inl x :: .inl x :: r) M | .inr (.inr x) :: r => k (pc + len) ls (.inr (.inr x) :: .inr (.inr x) :: r) M | _ => z
    | .dup2 => match st with
      | .inr (.inl x) :: r => k (pc + len) ls (.inr (.inl x) :: .inr (.inl x) :: r) M
      | .inl x :: .inl y :: r => k (pc + len) ls (.inl x :: .inl y :: .inl x :: .inl y :: r) M
      | .inl x :: .inr (.inr y) :: r => k (pc + len) ls (.inl x :: .inr (.inr y) :: .inl x :: .inr (.inr y) :: r) M
      | _ => z
    | .pop => match st with | .inl _ :: r => k (pc + len) ls r M | .inr (.inr _) :: r => k (pc + len) ls r M | _ => z
    | .goto _ => k (zhd ax) ls st M
    | .ifCond c _ => match st with | .inl x :: r => zbr c x 0 (k (zhd ax) ls r M) (k (pc + len) ls r M) | _ => z
    | .if_icmp c _ => match st with | .inl y :: .inl x :: r => zbr c x y (k (zhd ax) ls r M) (k (pc + len) ls r M) | _ => z
    | .if_acmp c _ => match st with | .inr (.inr (t1, y)) :: .inr (.inr (t2, x)) :: r => zbm (Nat.beq t1 12 && Nat.beq t2 12) (match c with | .eq => if x = y then k (zhd ax) ls r M else k (pc + len) ls r M | .ne => if x = y then k (pc + len) ls r M else k (zhd ax) ls r M) z | _ => z
    | .ifnull _ => match st with | .inr (.inr (_, o)) :: r => (match o with | none => k (zhd ax) ls r M | some _ => k (pc + len) ls r M) | _ => z
    | .ifnonnull _ => match st with | .inr (.inr (_, o)) :: r => (match o with | none => k (pc + len) ls r M | some _ => k (zhd ax) ls r M) | _ => z
    | .tableswitch _ _ _ _ => match st, ax with | .inl x :: r, d :: ts => zsw x cv ts (fun t => k t ls r M) (k d ls r M) | _, _ => z
    | .getfield _ => match st with | .inr (.inr (t, some i)) :: r => zbm (Nat.beq t (zhd ax)) (zgf M ax i (fun v => k (pc + len) ls (v :: r) M) z) z | _ => z
    | .putfield _ => match st with | v :: .inr (.inr (t, some i)) :: r => zbm (Nat.beq t (zhd ax)) (zpf M ax i v (fun M => k (pc + len) ls r M) z) z | _ => z
    | .getstatic _ => match ax with | t :: i :: _ => k (pc + len) ls (.inr (.inr (t, some i)) :: st) M | _ => z
    | .iaload => match st with | .inl x :: .inr (.inr (t, some i)) :: r => zem (zek t) (if zinb M t i x then k (pc + len) ls (.inl (mI M t i x.toNat) :: r) M else z) z z z z (if zinb M t i x then k (pc + len) ls (.inl (mKI M t i x.toNat) :: r) M else z) z z | _ => z
    | .baload => match st with | .inl x :: .inr (.inr (t, some i)) :: r => zem (zek t) z z (if zinb M t i x then k (pc + len) ls (.inl (mI M t i x.toNat) :: r) M else z) (if zinb M t i x then k (pc + len) ls (.inl (mI M t i x.toNat) :: r) M else z) z z z z | _ => z
    | .laload => match st with | .inl x :: .inr (.inr (t, some i)) :: r => zem (zek t) z (if zinb M t i x then k (pc + len) ls (.inr (.inl (mL M t i x.toNat)) :: r) M else z) z z z z z z | _ => z
    | .aaload => match st with | .inl x :: .inr (.inr (t, some i)) :: r => zem (zek t) z z z z (if zinb M t i x then k (pc + len) ls (.inr (.inr (ztg t, mF M t i x.toNat)) :: r) M else z) z (if zinb M t i x then k (pc + len) ls (.inr (.inr (ztg t, mF M t i x.toNat)) :: r) M else z) z | _ => z
    | .iastore => match st with | .inl v :: .inl x :: .inr (.inr (t, some i)) :: r => zem (zek t) (if zinb M t i x then k (pc + len) ls r (pI M t i x.toNat v) else z) z z z z z z z | _ => z
    | .bastore => match st with | .inl v :: .inl x :: .inr (.inr (t, some i)) :: r => zem (zek t) z z (if zinb M t i x then k (pc + len) ls r (pI M t i x.toNat (z_i2b v)) else z) (if zinb M t i x then k (pc + len) ls r (pI M t i x.toNat (z_b1 v)) else z) z z z z | _ => z
    | .lastore => match st with | .inr (.inl v) :: .inl x :: .inr (.inr (t, some i)) :: r => zem (zek t) z (if zinb M t i x then k (pc + len) ls r (pL M t i x.toNat v) else z) z z z z z z | _ => z
    | .aastore => match st with | .inr (.inr (t2, some j)) :: .inl x :: .inr (.inr (t, some i)) :: r => zbm (Nat.beq t2 (ztg t)) (zem (zek t) z z z z (if zinb M t i x then k (pc + len) ls r (pF M t i x.toNat (some j)) else z) z z z) z | _ => z
    | .arraylength => match st with | .inr (.inr (t, some i)) :: r => zem (zek t) (k (pc + len) ls (.inl (mN M t i : Int) :: r) M) (k (pc + len) ls (.inl (mN M t i : Int) :: r) M) (k (pc + len) ls (.inl (mN M t i : Int) :: r) M) (k (pc + len) ls (.inl (mN M t i : Int) :: r) M) (k (pc + len) ls (.inl (mN M t i : Int) :: r) M) (k (pc + len) ls (.inl (mN M t i : Int) :: r) M) (k (pc + len) ls (.inl (mN M t i : Int) :: r) M) z | _ => z
    | .new _ => zbm (znw M (zhd ax)) (k (pc + len) ls (.inr (.inr (zhd ax, some (mC M (zhd ax)))) :: st) (pNew M (zhd ax) (znf (zhd ax)))) z
    | .newarray _ => match st with | .inl n :: r => if 0 ≤ n ∧ n ≤ 100000 then k (pc + len) ls (.inr (.inr (zhd ax, some (mC M (zhd ax)))) :: r) (pNew (pLen M (zhd ax) (mC M (zhd ax)) n.toNat) (zhd ax) n.toNat) else z | _ => z
    | .anewarray _ => match st with | .inl n :: r => if 0 ≤ n ∧ n ≤ 100000 then k (pc + len) ls (.inr (.inr (zhd ax, some (mC M (zhd ax)))) :: r) (pNew (pLen M (zhd ax) (mC M (zhd ax)) n.toNat) (zhd ax) n.toNat) else z | _ => z
    | .invokevirtual _ => ziv M ax st (fun st M => k (pc + len) ls st M) (fun mi as r => kc mi as r) z
    | .invokespecial _ => ziv M ax st (fun st M => k (pc + len) ls st M) (fun mi as r => kc mi as r) z
    | .invokestatic _ => ziv M ax st (fun st M => k (pc + len) ls st M) (fun mi as r => kc mi as r) z
    | .ireturn => match st, ax with | [.inl x], [] => kr (some (.inl x)) M | [.inl x], _ :: _ => kr (some (.inl (z_b1 x))) M | _, _ => z
    | .lreturn => match st with | [.inr (.inl x)] => kr (some (.inr (.inl x))) M | _ => z
    | .return_ => match st with | [] => kr none M | _ => z
    | _ => z
end ZST
abbrev ZR : Type := Option ZV × ZM
/-- the methods: code and how many locals -/
abbrev ZG : Type := Nat → Option (ZT × Nat)
def zcall (o : Option ZR) (f : Option ZV → ZM → Option ZR) : Option ZR := match o with
  | none => none
  | some p => f p.1 p.2
def zcg (o : Option (ZT × Nat)) (f : ZT → Nat → Option ZR) : Option ZR := match o with
  | none => none
  | some p => f p.1 p.2
def zcd (d : Nat) (f : Nat → Option ZR) : Option ZR := match d with
  | 0 => none
  | d + 1 => f d
/-- places that values take among the locals -/
def zsz : List ZV → Nat
  | [] => 0
  | .inr (.inl _) :: l => zsz l + 2
  | .inl _ :: l => zsz l + 1
  | .inr (.inr _) :: l => zsz l + 1
def zex (G : ZG) : Nat → ZT → Nat → ZL → List ZV → ZM → Nat → Option ZR
  | _, _, _, _, _, _, 0 => none
  | d, tab, pc, ls, st, M, n + 1 => match zfd tab pc with
    | none => none
    | some e => zst e pc ls st M (fun pc ls st M => zex G d tab pc ls st M n) (fun r M => some (r, M))
      (fun mi as rest => zcd d fun d' => zcg (G mi) fun tab2 nl => zbm (Nat.ble (zsz as) nl) (zcall (zex G d' tab2 0 (zen nl as) [] M n) fun r M2 => zex G d tab (pc + 3) ls (r.toList ++ rest) M2 n) none) none
end
section
/-! the class's own code, decoded: printed by program from JAVAP and NAMES -/
def tb_X1_init : ZT := [(0, .aload_n 0, 1, [], []), (1, .invokespecial 3, 3, [2, 0, 1, 392], []), (4, .aload_n 0, 1, [], []), (5, .bipush 6, 2, [], []), (7, .newarray .int, 2, [20], []), (9, .putfield 9, 3, [0, 0, 3, 20, 0, 393], []), (12, .aload_n 0, 1, [], []), (13, .bipush 6, 2, [], []), (15, .newarray .int, 2, [21], []), (17, .putfield 15, 3, [0, 1, 3, 21, 0, 395], []), (20, .aload_n 0, 1, [], []), (21, .bipush 6, 2, [], []), (23, .newarray .int, 2, [22], []), (25, .putfield 18, 3, [0, 2, 3, 22, 0, 397], []), (28, .aload_n 0, 1, [], []), (29, .bipush 6, 2, [], []), (31, .newarray .int, 2, [23], []), (33, .putfield 21, 3, [0, 3, 3, 23, 0, 401], []), (36, .aload_n 0, 1, [], []), (37, .bipush 6, 2, [], []), (39, .newarray .int, 2, [24], []), (41, .putfield 24, 3, [0, 4, 3, 24, 0, 403], []), (44, .return_, 1, [], [])]
def tb_X1_measure : ZT := [(0, .aload_n 0, 1, [], []), (1, .aload_n 1, 1, [], []), (2, .aload_n 2, 1, [], []), (3, .aload_n 1, 1, [], []), (4, .getfield 27, 3, [4, 9, 3, 3, 0, 268], []), (7, .aload_n 2, 1, [], []), (8, .getfield 33, 3, [7, 4, 0, 0, 0, 362], []), (11, .invokevirtual 39, 3, [1, 16, 2, 831, 0, 3], []), (14, .invokevirtual 45, 3, [1, 2, 4, 835, 0, 0], []), (17, .aload_n 0, 1, [], []), (18, .aload_n 1, 1, [], []), (19, .aload_n 2, 1, [], []), (20, .aload_n 1, 1, [], []), (21, .getfield 49, 3, [4, 8, 3, 3, 0, 263], []), (24, .aload_n 2, 1, [], []), (25, .getfield 33, 3, [7, 4, 0, 0, 0, 362], []), (28, .invokevirtual 39, 3, [1, 16, 2, 831, 0, 3], []), (31, .invokevirtual 52, 3, [1, 3, 4, 870, 0, 0], []), (34, .aload_n 0, 1, [], []), (35, .aload_n 1, 1, [], []), (36, .iconst (-1), 1, [], []), (37, .invokevirtual 55, 3, [1, 4, 3, 892, 0, 0], []), (40, .return_, 1, [], [])]
def tb_X1_take : ZT := [(0, .iconst 0, 1, [], []), (1, .istore 4, 2, [], []), (3, .iload 4, 2, [], []), (5, .aload_n 1, 1, [], []), (6, .getfield 59, 3, [4, 0, 0, 0, 0, 238], []), (9, .if_icmp .ge 82, 3, [91], []), (12, .iconst 0, 1, [], []), (13, .istore 5, 2, [], []), (15, .iconst 0, 1, [], []), (16, .istore 6, 2, [], []), (18, .iload 6, 2, [], []), (20, .aload_n 1, 1, [], []), (21, .getfield 59, 3, [4, 0, 0, 0, 0, 238], []), (24, .if_icmp .ge 46, 3, [70], []), (27, .iload 6, 2, [], []), (29, .iload 4, 2, [], []), (31, .if_icmp .eq 33, 3, [64], []), (34, .aload_n 2, 1, [], []), (35, .iload 6, 2, [], []), (37, .invokevirtual 62, 3, [1, 79, 2, 839, 0, 7], []), (40, .ifCond .eq 24, 3, [64], []), (43, .iload 5, 2, [], []), (45, .aload_n 1, 1, [], []), (46, .iload 6, 2, [], []), (48, .aload_n 2, 1, [], []), (49, .getfield 66, 3, [7, 0, 3, 40, 0, 352], []), (52, .iload 6, 2, [], []), (54, .iaload, 1, [], []), (55, .iload 4, 2, [], []), (57, .iload_n 3, 1, [], []), (58, .invokevirtual 69, 3, [1, 25, 5, 845, 0, 4], []), (61, .iadd, 1, [], []), (62, .istore 5, 2, [], []), (64, .iinc 6 1, 3, [], []), (67, .goto (-49), 3, [18], []), (70, .aload_n 0, 1, [], []), (71, .getfield 9, 3, [0, 0, 3, 20, 0, 393], []), (74, .iload 4, 2, [], []), (76, .aload_n 1, 1, [], []), (77, .iload 4, 2, [], []), (79, .iload 5, 2, [], []), (81, .invokevirtual 73, 3, [1, 26, 3, 865, 0, 4], []), (84, .iastore, 1, [], []), (85, .iinc 4 1, 3, [], []), (88, .goto (-85), 3, [3], []), (91, .return_, 1, [], [])]
def tb_X1_give : ZT := [(0, .aload_n 0, 1, [], []), (1, .iconst 0, 1, [], []), (2, .putfield 77, 3, [0, 5, 0, 0, 0, 404], []), (5, .iconst 0, 1, [], []), (6, .istore 4, 2, [], []), (8, .iload 4, 2, [], []), (10, .aload_n 1, 1, [], []), (11, .getfield 59, 3, [4, 0, 0, 0, 0, 238], []), (14, .if_icmp .ge 92, 3, [106], []), (17, .aload_n 0, 1, [], []), (18, .getfield 15, 3, [0, 1, 3, 21, 0, 395], []), (21, .iload 4, 2, [], []), (23, .iload_n 3, 1, [], []), (24, .aload_n 0, 1, [], []), (25, .getfield 9, 3, [0, 0, 3, 20, 0, 393], []), (28, .iload 4, 2, [], []), (30, .iaload, 1, [], []), (31, .invokestatic 80, 3, [0, 29, 2, 874, 0], []), (34, .iastore, 1, [], []), (35, .aload_n 0, 1, [], []), (36, .getfield 18, 3, [0, 2, 3, 22, 0, 397], []), (39, .iload 4, 2, [], []), (41, .aload_n 2, 1, [], []), (42, .iload 4, 2, [], []), (44, .invokevirtual 62, 3, [1, 79, 2, 839, 0, 7], []), (47, .ifCond .eq 35, 3, [82], []), (50, .aload_n 1, 1, [], []), (51, .aload_n 0, 1, [], []), (52, .getfield 15, 3, [0, 1, 3, 21, 0, 395], []), (55, .iload 4, 2, [], []), (57, .iaload, 1, [], []), (58, .aload_n 2, 1, [], []), (59, .getfield 83, 3, [7, 1, 3, 41, 0, 356], []), (62, .iload 4, 2, [], []), (64, .iaload, 1, [], []), (65, .aload_n 2, 1, [], []), (66, .getfield 66, 3, [7, 0, 3, 40, 0, 352], []), (69, .iload 4, 2, [], []), (71, .iaload, 1, [], []), (72, .aload_n 2, 1, [], []), (73, .getfield 33, 3, [7, 4, 0, 0, 0, 362], []), (76, .invokevirtual 86, 3, [1, 27, 5, 877, 0, 4], []), (79, .goto 4, 3, [83], []), (82, .iconst 0, 1, [], []), (83, .iastore, 1, [], []), (84, .aload_n 0, 1, [], []), (85, .dup, 1, [], []), (86, .getfield 77, 3, [0, 5, 0, 0, 0, 404], []), (89, .aload_n 0, 1, [], []), (90, .getfield 18, 3, [0, 2, 3, 22, 0, 397], []), (93, .iload 4, 2, [], []), (95, .iaload, 1, [], []), (96, .iadd, 1, [], []), (97, .putfield 77, 3, [0, 5, 0, 0, 0, 404], []), (100, .iinc 4 1, 3, [], []), (103, .goto (-95), 3, [8], []), (106, .return_, 1, [], [])]
def tb_X1_bring : ZT := [(0, .aload_n 0, 1, [], []), (1, .getfield 24, 3, [0, 4, 3, 24, 0, 403], []), (4, .iconst 0, 1, [], []), (5, .invokestatic 89, 3, [0, 263, 2, 896, 0], []), (8, .aload_n 0, 1, [], []), (9, .getfield 21, 3, [0, 3, 3, 23, 0, 401], []), (12, .iconst 0, 1, [], []), (13, .invokestatic 89, 3, [0, 263, 2, 896, 0], []), (16, .aload_n 0, 1, [], []), (17, .iconst 0, 1, [], []), (18, .putfield 95, 3, [0, 6, 0, 0, 0, 406], []), (21, .aload_n 1, 1, [], []), (22, .getfield 98, 3, [4, 7, 3, 3, 0, 260], []), (25, .getfield 101, 3, [3, 1, 0, 0, 0, 200], []), (28, .iconst 1, 1, [], []), (29, .isub, 1, [], []), (30, .istore_n 3, 1, [], []), (31, .iload_n 3, 1, [], []), (32, .ifCond .lt 119, 3, [151], []), (35, .aload_n 1, 1, [], []), (36, .getfield 98, 3, [4, 7, 3, 3, 0, 260], []), (39, .iload_n 3, 1, [], []), (40, .invokevirtual 104, 3, [1, 15, 2, 897, 0, 3], []), (43, .istore 4, 2, [], []), (45, .aload_n 1, 1, [], []), (46, .getfield 107, 3, [4, 5, 3, 31, 0, 252], []), (49, .iload 4, 2, [], []), (51, .iaload, 1, [], []), (52, .istore 5, 2, [], []), (54, .iload 4, 2, [], []), (56, .iload_n 2, 1, [], []), (57, .if_icmp .ne 7, 3, [64], []), (60, .iconst 0, 1, [], []), (61, .goto 28, 3, [89], []), (64, .aload_n 0, 1, [], []), (65, .getfield 18, 3, [0, 2, 3, 22, 0, 397], []), (68, .iload 4, 2, [], []), (70, .iaload, 1, [], []), (71, .aload_n 0, 1, [], []), (72, .getfield 24, 3, [0, 4, 3, 24, 0, 403], []), (75, .iload 4, 2, [], []), (77, .iaload, 1, [], []), (78, .iadd, 1, [], []), (79, .aload_n 1, 1, [], []), (80, .getfield 110, 3, [4, 6, 3, 32, 0, 256], []), (83, .iload 4, 2, [], []), (85, .iaload, 1, [], []), (86, .invokestatic 113, 3, [7, 0, 2, 898], []), (89, .istore 6, 2, [], []), (91, .aload_n 0, 1, [], []), (92, .getfield 21, 3, [0, 3, 3, 23, 0, 401], []), (95, .iload 4, 2, [], []), (97, .iload 6, 2, [], []), (99, .iastore, 1, [], []), (100, .iload 5, 2, [], []), (102, .bipush 6, 2, [], []), (104, .if_icmp .ne 17, 3, [121], []), (107, .aload_n 0, 1, [], []), (108, .dup, 1, [], []), (109, .getfield 95, 3, [0, 6, 0, 0, 0, 406], []), (112, .iload 6, 2, [], []), (114, .iadd, 1, [], []), (115, .putfield 95, 3, [0, 6, 0, 0, 0, 406], []), (118, .goto 27, 3, [145], []), (121, .iload 5, 2, [], []), (123, .ifCond .lt 22, 3, [145], []), (126, .iload 5, 2, [], []), (128, .bipush 6, 2, [], []), (130, .if_icmp .ge 15, 3, [145], []), (133, .aload_n 0, 1, [], []), (134, .getfield 24, 3, [0, 4, 3, 24, 0, 403], []), (137, .iload 5, 2, [], []), (139, .dup2, 1, [], []), (140, .iaload, 1, [], []), (141, .iload 6, 2, [], []), (143, .iadd, 1, [], []), (144, .iastore, 1, [], []), (145, .iinc 3 (-1), 3, [], []), (148, .goto (-117), 3, [31], []), (151, .return_, 1, [], [])]
def tb_X1_sold : ZT := [(0, .aload_n 0, 1, [], []), (1, .aload_n 1, 1, [], []), (2, .aload_n 2, 1, [], []), (3, .invokevirtual 118, 3, [1, 1, 3, 962, 0, 0], []), (6, .aload_n 0, 1, [], []), (7, .getfield 95, 3, [0, 6, 0, 0, 0, 406], []), (10, .aload_n 1, 1, [], []), (11, .aload_n 2, 1, [], []), (12, .getfield 33, 3, [7, 4, 0, 0, 0, 362], []), (15, .invokevirtual 122, 3, [1, 23, 2, 963, 0, 4], []), (18, .imul, 1, [], []), (19, .ireturn, 1, [], [])]
def tb_X1_runStep : ZT := [(0, .aload_n 0, 1, [], []), (1, .aload_n 1, 1, [], []), (2, .aload_n 2, 1, [], []), (3, .invokevirtual 118, 3, [1, 1, 3, 962, 0, 0], []), (6, .aload_n 0, 1, [], []), (7, .getfield 95, 3, [0, 6, 0, 0, 0, 406], []), (10, .aload_n 1, 1, [], []), (11, .aload_n 2, 1, [], []), (12, .getfield 33, 3, [7, 4, 0, 0, 0, 362], []), (15, .invokevirtual 122, 3, [1, 23, 2, 963, 0, 4], []), (18, .imul, 1, [], []), (19, .istore_n 3, 1, [], []), (20, .iconst 0, 1, [], []), (21, .istore 4, 2, [], []), (23, .iload 4, 2, [], []), (25, .aload_n 1, 1, [], []), (26, .getfield 59, 3, [4, 0, 0, 0, 0, 238], []), (29, .if_icmp .ge 32, 3, [61], []), (32, .aload_n 2, 1, [], []), (33, .iload 4, 2, [], []), (35, .invokevirtual 62, 3, [1, 79, 2, 839, 0, 7], []), (38, .ifCond .eq 17, 3, [55], []), (41, .aload_n 2, 1, [], []), (42, .aload_n 1, 1, [], []), (43, .iload 4, 2, [], []), (45, .aload_n 0, 1, [], []), (46, .getfield 9, 3, [0, 0, 3, 20, 0, 393], []), (49, .iload 4, 2, [], []), (51, .iaload, 1, [], []), (52, .invokevirtual 125, 3, [1, 82, 4, 968, 0, 7], []), (55, .iinc 4 1, 3, [], []), (58, .goto (-35), 3, [23], []), (61, .aload_n 2, 1, [], []), (62, .dup, 1, [], []), (63, .getfield 129, 3, [7, 5, 0, 0, 0, 367], []), (66, .iload_n 3, 1, [], []), (67, .iadd, 1, [], []), (68, .putfield 129, 3, [7, 5, 0, 0, 0, 367], []), (71, .aload_n 2, 1, [], []), (72, .dup, 1, [], []), (73, .getfield 33, 3, [7, 4, 0, 0, 0, 362], []), (76, .iconst 1, 1, [], []), (77, .iadd, 1, [], []), (78, .putfield 33, 3, [7, 4, 0, 0, 0, 362], []), (81, .iload_n 3, 1, [], []), (82, .ireturn, 1, [], [])]
def tb_X2_init : ZT := [(0, .aload_n 0, 1, [], []), (1, .invokespecial 3, 3, [2, 0, 1, 213], []), (4, .aload_n 0, 1, [], []), (5, .new 9, 3, [3, 214], []), (8, .dup, 1, [], []), (9, .sipush 1000, 3, [], []), (12, .invokespecial 11, 3, [1, 13, 2, 215, 0, 3], []), (15, .putfield 14, 3, [1, 0, 3, 3, 0, 216], []), (18, .aload_n 0, 1, [], []), (19, .bipush 32, 2, [], []), (21, .newarray .int, 2, [25], []), (23, .putfield 20, 3, [1, 1, 3, 25, 0, 219], []), (26, .return_, 1, [], [])]
def tb_X2_value : ZT := [(0, .iconst 0, 1, [], []), (1, .istore 5, 2, [], []), (3, .iconst 0, 1, [], []), (4, .istore 6, 2, [], []), (6, .iload 6, 2, [], []), (8, .aload_n 0, 1, [], []), (9, .getfield 14, 3, [1, 0, 3, 3, 0, 216], []), (12, .getfield 24, 3, [3, 1, 0, 0, 0, 196], []), (15, .if_icmp .ge 157, 3, [172], []), (18, .aload_n 0, 1, [], []), (19, .getfield 14, 3, [1, 0, 3, 3, 0, 216], []), (22, .iload 6, 2, [], []), (24, .invokevirtual 28, 3, [1, 15, 2, 885, 0, 3], []), (27, .istore 7, 2, [], []), (29, .iload 7, 2, [], []), (31, .bipush (-4), 2, [], []), (33, .if_icmp .lt 48, 3, [81], []), (36, .iload 5, 2, [], []), (38, .aload_n 0, 1, [], []), (39, .getfield 20, 3, [1, 1, 3, 25, 0, 219], []), (42, .arraylength, 1, [], []), (43, .if_icmp .lt 5, 3, [48], []), (46, .iconst 0, 1, [], []), (47, .ireturn, 1, [], []), (48, .aload_n 0, 1, [], []), (49, .getfield 20, 3, [1, 1, 3, 25, 0, 219], []), (52, .iload 5, 2, [], []), (54, .iload 7, 2, [], []), (56, .ifCond .lt 8, 3, [64], []), (59, .iload 7, 2, [], []), (61, .goto 13, 3, [74], []), (64, .iload 7, 2, [], []), (66, .iload_n 1, 1, [], []), (67, .iload_n 2, 1, [], []), (68, .iload_n 3, 1, [], []), (69, .iload 4, 2, [], []), (71, .invokestatic 32, 3, [0, 9, 5, 886, 0], []), (74, .iastore, 1, [], []), (75, .iinc 5 1, 3, [], []), (78, .goto 88, 3, [166], []), (81, .iload 7, 2, [], []), (83, .bipush (-5), 2, [], []), (85, .if_icmp .ne 40, 3, [125], []), (88, .iload 5, 2, [], []), (90, .iconst 1, 1, [], []), (91, .if_icmp .ge 5, 3, [96], []), (94, .iconst 0, 1, [], []), (95, .ireturn, 1, [], []), (96, .aload_n 0, 1, [], []), (97, .getfield 20, 3, [1, 1, 3, 25, 0, 219], []), (100, .iload 5, 2, [], []), (102, .iconst 1, 1, [], []), (103, .isub, 1, [], []), (104, .aload_n 0, 1, [], []), (105, .getfield 20, 3, [1, 1, 3, 25, 0, 219], []), (108, .iload 5, 2, [], []), (110, .iconst 1, 1, [], []), (111, .isub, 1, [], []), (112, .iaload, 1, [], []), (113, .ifCond .ne 7, 3, [120], []), (116, .iconst 1, 1, [], []), (117, .goto 4, 3, [121], []), (120, .iconst 0, 1, [], []), (121, .iastore, 1, [], []), (122, .goto 44, 3, [166], []), (125, .iload 5, 2, [], []), (127, .iconst 2, 1, [], []), (128, .if_icmp .ge 5, 3, [133], []), (131, .iconst 0, 1, [], []), (132, .ireturn, 1, [], []), (133, .iinc 5 (-1), 3, [], []), (136, .aload_n 0, 1, [], []), (137, .getfield 20, 3, [1, 1, 3, 25, 0, 219], []), (140, .iload 5, 2, [], []), (142, .iconst 1, 1, [], []), (143, .isub, 1, [], []), (144, .iload 7, 2, [], []), (146, .aload_n 0, 1, [], []), (147, .getfield 20, 3, [1, 1, 3, 25, 0, 219], []), (150, .iload 5, 2, [], []), (152, .iconst 1, 1, [], []), (153, .isub, 1, [], []), (154, .iaload, 1, [], []), (155, .aload_n 0, 1, [], []), (156, .getfield 20, 3, [1, 1, 3, 25, 0, 219], []), (159, .iload 5, 2, [], []), (161, .iaload, 1, [], []), (162, .invokestatic 36, 3, [0, 10, 3, 889, 0], []), (165, .iastore, 1, [], []), (166, .iinc 6 1, 3, [], []), (169, .goto (-163), 3, [6], []), (172, .iload 5, 2, [], []), (174, .ifCond .le 15, 3, [189], []), (177, .aload_n 0, 1, [], []), (178, .getfield 20, 3, [1, 1, 3, 25, 0, 219], []), (181, .iload 5, 2, [], []), (183, .iconst 1, 1, [], []), (184, .isub, 1, [], []), (185, .iaload, 1, [], []), (186, .goto 4, 3, [190], []), (189, .iconst 0, 1, [], []), (190, .ireturn, 1, [], [])]
def tb_X2_fact : ZT := [(0, .iload_n 0, 1, [], []), (1, .tableswitch 33 (-3) (-1) #[31, 29, 27], 27, [34, 32, 30, 28], [(-3), (-2), (-1)]), (28, .iload_n 1, 1, [], []), (29, .ireturn, 1, [], []), (30, .iload_n 2, 1, [], []), (31, .ireturn, 1, [], []), (32, .iload_n 3, 1, [], []), (33, .ireturn, 1, [], []), (34, .iload 4, 2, [], []), (36, .ireturn, 1, [], [])]
def tb_X2_joined : ZT := [(0, .iload_n 0, 1, [], []), (1, .tableswitch 97 (-11) (-6) #[93, 89, 78, 67, 53, 39], 39, [98, 94, 90, 79, 68, 54, 40], [(-11), (-10), (-9), (-8), (-7), (-6)]), (40, .iload_n 1, 1, [], []), (41, .ifCond .eq 11, 3, [52], []), (44, .iload_n 2, 1, [], []), (45, .ifCond .eq 7, 3, [52], []), (48, .iconst 1, 1, [], []), (49, .goto 4, 3, [53], []), (52, .iconst 0, 1, [], []), (53, .ireturn, 1, [], []), (54, .iload_n 1, 1, [], []), (55, .ifCond .ne 7, 3, [62], []), (58, .iload_n 2, 1, [], []), (59, .ifCond .eq 7, 3, [66], []), (62, .iconst 1, 1, [], []), (63, .goto 4, 3, [67], []), (66, .iconst 0, 1, [], []), (67, .ireturn, 1, [], []), (68, .iload_n 1, 1, [], []), (69, .iload_n 2, 1, [], []), (70, .if_icmp .ge 7, 3, [77], []), (73, .iconst 1, 1, [], []), (74, .goto 4, 3, [78], []), (77, .iconst 0, 1, [], []), (78, .ireturn, 1, [], []), (79, .iload_n 1, 1, [], []), (80, .iload_n 2, 1, [], []), (81, .if_icmp .ne 7, 3, [88], []), (84, .iconst 1, 1, [], []), (85, .goto 4, 3, [89], []), (88, .iconst 0, 1, [], []), (89, .ireturn, 1, [], []), (90, .iload_n 1, 1, [], []), (91, .iload_n 2, 1, [], []), (92, .iadd, 1, [], []), (93, .ireturn, 1, [], []), (94, .iload_n 1, 1, [], []), (95, .iload_n 2, 1, [], []), (96, .isub, 1, [], []), (97, .ireturn, 1, [], []), (98, .iload_n 1, 1, [], []), (99, .iload_n 2, 1, [], []), (100, .imul, 1, [], []), (101, .ireturn, 1, [], [])]
def tb_X3_init : ZT := [(0, .aload_n 0, 1, [], []), (1, .invokespecial 3, 3, [2, 0, 1, 474], []), (4, .aload_n 0, 1, [], []), (5, .new 9, 3, [7, 475], []), (8, .dup, 1, [], []), (9, .invokespecial 11, 3, [1, 73, 1, 476, 1, 7], []), (12, .putfield 12, 3, [2, 0, 3, 7, 0, 479], []), (15, .aload_n 0, 1, [], []), (16, .new 18, 3, [3, 477], []), (19, .dup, 1, [], []), (20, .bipush 40, 2, [], []), (22, .invokespecial 20, 3, [1, 13, 2, 478, 0, 3], []), (25, .putfield 23, 3, [2, 1, 3, 3, 0, 481], []), (28, .aload_n 0, 1, [], []), (29, .new 18, 3, [3, 477], []), (32, .dup, 1, [], []), (33, .bipush 8, 2, [], []), (35, .invokespecial 20, 3, [1, 13, 2, 478, 0, 3], []), (38, .putfield 27, 3, [2, 2, 3, 3, 0, 483], []), (41, .return_, 1, [], [])]
def tb_X3_lay : ZT := [(0, .aload_n 0, 1, [], []), (1, .getfield 12, 3, [2, 0, 3, 7, 0, 479], []), (4, .aload_n 1, 1, [], []), (5, .invokevirtual 30, 3, [1, 75, 2, 1190, 0, 7], []), (8, .aload_n 0, 1, [], []), (9, .getfield 23, 3, [2, 1, 3, 3, 0, 481], []), (12, .aload_n 2, 1, [], []), (13, .invokevirtual 34, 3, [1, 17, 2, 1191, 0, 3], []), (16, .aload_n 0, 1, [], []), (17, .getfield 27, 3, [2, 2, 3, 3, 0, 483], []), (20, .aload_n 3, 1, [], []), (21, .invokevirtual 34, 3, [1, 17, 2, 1191, 0, 3], []), (24, .aload_n 0, 1, [], []), (25, .iconst 1, 1, [], []), (26, .putfield 37, 3, [2, 3, 1, 0, 0, 485], []), (29, .return_, 1, [], [])]
def tb_X4_init : ZT := [(0, .aload_n 0, 1, [], []), (1, .invokespecial 1, 3, [2, 0, 1, 192], []), (4, .aload_n 0, 1, [], []), (5, .iload_n 1, 1, [], []), (6, .ifCond .le 7, 3, [13], []), (9, .iload_n 1, 1, [], []), (10, .goto 4, 3, [14], []), (13, .iconst 0, 1, [], []), (14, .newarray .int, 2, [26], []), (16, .putfield 7, 3, [3, 0, 3, 26, 0, 193], []), (19, .return_, 1, [], [])]
def tb_X4_add : ZT := [(0, .aload_n 0, 1, [], []), (1, .getfield 13, 3, [3, 1, 0, 0, 0, 194], []), (4, .aload_n 0, 1, [], []), (5, .getfield 7, 3, [3, 0, 3, 26, 0, 193], []), (8, .arraylength, 1, [], []), (9, .if_icmp .lt 5, 3, [14], []), (12, .iconst 0, 1, [], []), (13, .ireturn, 1, [1], []), (14, .aload_n 0, 1, [], []), (15, .getfield 7, 3, [3, 0, 3, 26, 0, 193], []), (18, .aload_n 0, 1, [], []), (19, .getfield 13, 3, [3, 1, 0, 0, 0, 194], []), (22, .iload_n 1, 1, [], []), (23, .iastore, 1, [], []), (24, .aload_n 0, 1, [], []), (25, .dup, 1, [], []), (26, .getfield 13, 3, [3, 1, 0, 0, 0, 194], []), (29, .iconst 1, 1, [], []), (30, .iadd, 1, [], []), (31, .putfield 13, 3, [3, 1, 0, 0, 0, 194], []), (34, .iconst 1, 1, [], []), (35, .ireturn, 1, [1], [])]
def tb_X4_get : ZT := [(0, .iload_n 1, 1, [], []), (1, .ifCond .lt 20, 3, [21], []), (4, .iload_n 1, 1, [], []), (5, .aload_n 0, 1, [], []), (6, .getfield 13, 3, [3, 1, 0, 0, 0, 194], []), (9, .if_icmp .ge 12, 3, [21], []), (12, .aload_n 0, 1, [], []), (13, .getfield 7, 3, [3, 0, 3, 26, 0, 193], []), (16, .iload_n 1, 1, [], []), (17, .iaload, 1, [], []), (18, .goto 4, 3, [22], []), (21, .iconst 0, 1, [], []), (22, .ireturn, 1, [], [])]
def tb_X4_round : ZT := [(0, .aload_n 0, 1, [], []), (1, .getfield 13, 3, [3, 1, 0, 0, 0, 194], []), (4, .ifCond .le 21, 3, [25], []), (7, .iload_n 1, 1, [], []), (8, .ifCond .lt 17, 3, [25], []), (11, .aload_n 0, 1, [], []), (12, .getfield 7, 3, [3, 0, 3, 26, 0, 193], []), (15, .iload_n 1, 1, [], []), (16, .aload_n 0, 1, [], []), (17, .getfield 13, 3, [3, 1, 0, 0, 0, 194], []), (20, .irem, 1, [], []), (21, .iaload, 1, [], []), (22, .goto 4, 3, [26], []), (25, .iconst 0, 1, [], []), (26, .ireturn, 1, [], [])]
def tb_X4_copy : ZT := [(0, .aload_n 0, 1, [], []), (1, .aload_n 1, 1, [], []), (2, .getfield 13, 3, [3, 1, 0, 0, 0, 194], []), (5, .aload_n 0, 1, [], []), (6, .getfield 7, 3, [3, 0, 3, 26, 0, 193], []), (9, .arraylength, 1, [], []), (10, .invokestatic 17, 3, [7, 0, 2, 801], []), (13, .putfield 13, 3, [3, 1, 0, 0, 0, 194], []), (16, .aload_n 1, 1, [], []), (17, .getfield 7, 3, [3, 0, 3, 26, 0, 193], []), (20, .iconst 0, 1, [], []), (21, .aload_n 0, 1, [], []), (22, .getfield 7, 3, [3, 0, 3, 26, 0, 193], []), (25, .iconst 0, 1, [], []), (26, .aload_n 0, 1, [], []), (27, .getfield 13, 3, [3, 1, 0, 0, 0, 194], []), (30, .invokestatic 23, 3, [3, 0, 5, 804], []), (33, .return_, 1, [], [])]
def tb_X5_init : ZT := [(0, .aload_n 0, 1, [], []), (1, .invokespecial 3, 3, [2, 0, 1, 186], []), (4, .aload_n 0, 1, [], []), (5, .bipush 6, 2, [], []), (7, .newarray .long, 2, [27], []), (9, .putfield 9, 3, [4, 1, 3, 27, 0, 242], []), (12, .aload_n 0, 1, [], []), (13, .bipush 6, 2, [], []), (15, .newarray .int, 2, [28], []), (17, .putfield 15, 3, [4, 2, 3, 28, 0, 243], []), (20, .aload_n 0, 1, [], []), (21, .bipush 6, 2, [], []), (23, .newarray .int, 2, [29], []), (25, .putfield 19, 3, [4, 3, 3, 29, 0, 246], []), (28, .aload_n 0, 1, [], []), (29, .bipush 6, 2, [], []), (31, .newarray .int, 2, [30], []), (33, .putfield 22, 3, [4, 4, 3, 30, 0, 249], []), (36, .aload_n 0, 1, [], []), (37, .bipush 6, 2, [], []), (39, .newarray .int, 2, [31], []), (41, .putfield 25, 3, [4, 5, 3, 31, 0, 251], []), (44, .aload_n 0, 1, [], []), (45, .bipush 6, 2, [], []), (47, .newarray .int, 2, [32], []), (49, .putfield 28, 3, [4, 6, 3, 32, 0, 255], []), (52, .aload_n 0, 1, [], []), (53, .new 31, 3, [3, 187], []), (56, .dup, 1, [], []), (57, .bipush 6, 2, [], []), (59, .invokespecial 33, 3, [1, 13, 2, 189, 0, 3], []), (62, .putfield 36, 3, [4, 7, 3, 3, 0, 259], []), (65, .aload_n 0, 1, [], []), (66, .new 31, 3, [3, 187], []), (69, .dup, 1, [], []), (70, .bipush 8, 2, [], []), (72, .invokespecial 33, 3, [1, 13, 2, 189, 0, 3], []), (75, .putfield 40, 3, [4, 8, 3, 3, 0, 262], []), (78, .aload_n 0, 1, [], []), (79, .new 31, 3, [3, 187], []), (82, .dup, 1, [], []), (83, .bipush 8, 2, [], []), (85, .invokespecial 33, 3, [1, 13, 2, 189, 0, 3], []), (88, .putfield 43, 3, [4, 9, 3, 3, 0, 267], []), (91, .aload_n 0, 1, [], []), (92, .new 31, 3, [3, 187], []), (95, .dup, 1, [], []), (96, .bipush 8, 2, [], []), (98, .invokespecial 33, 3, [1, 13, 2, 189, 0, 3], []), (101, .putfield 46, 3, [4, 10, 3, 3, 0, 272], []), (104, .aload_n 0, 1, [], []), (105, .new 31, 3, [3, 187], []), (108, .dup, 1, [], []), (109, .iconst 3, 1, [], []), (110, .invokespecial 33, 3, [1, 13, 2, 189, 0, 3], []), (113, .putfield 49, 3, [4, 11, 3, 3, 0, 274], []), (116, .aload_n 0, 1, [], []), (117, .new 52, 3, [1, 208], []), (120, .dup, 1, [], []), (121, .invokespecial 54, 3, [1, 7, 1, 210, 1, 1], []), (124, .putfield 55, 3, [4, 12, 3, 1, 0, 276], []), (127, .aload_n 0, 1, [], []), (128, .invokevirtual 59, 3, [1, 19, 1, 225, 0, 4], []), (131, .return_, 1, [], [])]
def tb_X5_clear : ZT := [(0, .aload_n 0, 1, [], []), (1, .iconst 0, 1, [], []), (2, .putfield 62, 3, [4, 0, 0, 0, 0, 236], []), (5, .aload_n 0, 1, [], []), (6, .getfield 36, 3, [4, 7, 3, 3, 0, 259], []), (9, .iconst 0, 1, [], []), (10, .putfield 66, 3, [3, 1, 0, 0, 0, 195], []), (13, .aload_n 0, 1, [], []), (14, .getfield 40, 3, [4, 8, 3, 3, 0, 262], []), (17, .bipush 10, 2, [], []), (19, .invokestatic 69, 3, [0, 31, 2, 229, 0], []), (22, .aload_n 0, 1, [], []), (23, .getfield 43, 3, [4, 9, 3, 3, 0, 267], []), (26, .iconst 0, 1, [], []), (27, .invokestatic 69, 3, [0, 31, 2, 229, 0], []), (30, .aload_n 0, 1, [], []), (31, .getfield 46, 3, [4, 10, 3, 3, 0, 272], []), (34, .bipush 10, 2, [], []), (36, .invokestatic 69, 3, [0, 31, 2, 229, 0], []), (39, .aload_n 0, 1, [], []), (40, .getfield 49, 3, [4, 11, 3, 3, 0, 274], []), (43, .iconst 5, 1, [], []), (44, .invokestatic 69, 3, [0, 31, 2, 229, 0], []), (47, .aload_n 0, 1, [], []), (48, .getfield 49, 3, [4, 11, 3, 3, 0, 274], []), (51, .iconst 3, 1, [], []), (52, .invokevirtual 73, 3, [1, 14, 2, 232, 0, 3], []), (55, .pop, 1, [], []), (56, .aload_n 0, 1, [], []), (57, .getfield 49, 3, [4, 11, 3, 3, 0, 274], []), (60, .iconst 1, 1, [], []), (61, .invokevirtual 73, 3, [1, 14, 2, 232, 0, 3], []), (64, .pop, 1, [], []), (65, .aload_n 0, 1, [], []), (66, .getfield 55, 3, [4, 12, 3, 1, 0, 276], []), (69, .getfield 77, 3, [1, 0, 3, 3, 0, 217], []), (72, .iconst (-1), 1, [], []), (73, .invokestatic 69, 3, [0, 31, 2, 229, 0], []), (76, .aload_n 0, 1, [], []), (77, .bipush 20, 2, [], []), (79, .putfield 80, 3, [4, 13, 0, 0, 0, 278], []), (82, .aload_n 0, 1, [], []), (83, .bipush 6, 2, [], []), (85, .putfield 83, 3, [4, 14, 0, 0, 0, 281], []), (88, .return_, 1, [], [])]
def tb_X5_addTurbine : ZT := [(0, .aload_n 0, 1, [], []), (1, .getfield 62, 3, [4, 0, 0, 0, 0, 236], []), (4, .bipush 6, 2, [], []), (6, .if_icmp .lt 4, 3, [10], []), (9, .return_, 1, [], []), (10, .aload_n 0, 1, [], []), (11, .getfield 9, 3, [4, 1, 3, 27, 0, 242], []), (14, .aload_n 0, 1, [], []), (15, .getfield 62, 3, [4, 0, 0, 0, 0, 236], []), (18, .lload_n 1, 1, [], []), (19, .lastore, 1, [], []), (20, .aload_n 0, 1, [], []), (21, .getfield 15, 3, [4, 2, 3, 28, 0, 243], []), (24, .aload_n 0, 1, [], []), (25, .getfield 62, 3, [4, 0, 0, 0, 0, 236], []), (28, .iload_n 3, 1, [], []), (29, .iastore, 1, [], []), (30, .aload_n 0, 1, [], []), (31, .getfield 19, 3, [4, 3, 3, 29, 0, 246], []), (34, .aload_n 0, 1, [], []), (35, .getfield 62, 3, [4, 0, 0, 0, 0, 236], []), (38, .iload 4, 2, [], []), (40, .iastore, 1, [], []), (41, .aload_n 0, 1, [], []), (42, .getfield 22, 3, [4, 4, 3, 30, 0, 249], []), (45, .aload_n 0, 1, [], []), (46, .getfield 62, 3, [4, 0, 0, 0, 0, 236], []), (49, .iload 5, 2, [], []), (51, .iastore, 1, [], []), (52, .aload_n 0, 1, [], []), (53, .getfield 25, 3, [4, 5, 3, 31, 0, 251], []), (56, .aload_n 0, 1, [], []), (57, .getfield 62, 3, [4, 0, 0, 0, 0, 236], []), (60, .iconst (-1), 1, [], []), (61, .iastore, 1, [], []), (62, .aload_n 0, 1, [], []), (63, .getfield 28, 3, [4, 6, 3, 32, 0, 255], []), (66, .aload_n 0, 1, [], []), (67, .getfield 62, 3, [4, 0, 0, 0, 0, 236], []), (70, .iconst 0, 1, [], []), (71, .iastore, 1, [], []), (72, .aload_n 0, 1, [], []), (73, .dup, 1, [], []), (74, .getfield 62, 3, [4, 0, 0, 0, 0, 236], []), (77, .iconst 1, 1, [], []), (78, .iadd, 1, [], []), (79, .putfield 62, 3, [4, 0, 0, 0, 0, 236], []), (82, .return_, 1, [], [])]
def tb_X5_byName : ZT := [(0, .iconst 0, 1, [], []), (1, .istore_n 3, 1, [], []), (2, .iload_n 3, 1, [], []), (3, .aload_n 0, 1, [], []), (4, .getfield 62, 3, [4, 0, 0, 0, 0, 236], []), (7, .if_icmp .ge 22, 3, [29], []), (10, .aload_n 0, 1, [], []), (11, .getfield 9, 3, [4, 1, 3, 27, 0, 242], []), (14, .iload_n 3, 1, [], []), (15, .laload, 1, [], []), (16, .lload_n 1, 1, [], []), (17, .lcmp, 1, [], []), (18, .ifCond .ne 5, 3, [23], []), (21, .iload_n 3, 1, [], []), (22, .ireturn, 1, [], []), (23, .iinc 3 1, 3, [], []), (26, .goto (-24), 3, [2], []), (29, .iconst (-1), 1, [], []), (30, .ireturn, 1, [], [])]
def tb_X5_isTaken : ZT := [(0, .iconst 0, 1, [], []), (1, .istore_n 2, 1, [], []), (2, .iload_n 2, 1, [], []), (3, .aload_n 0, 1, [], []), (4, .getfield 62, 3, [4, 0, 0, 0, 0, 236], []), (7, .if_icmp .ge 21, 3, [28], []), (10, .aload_n 0, 1, [], []), (11, .getfield 22, 3, [4, 4, 3, 30, 0, 249], []), (14, .iload_n 2, 1, [], []), (15, .iaload, 1, [], []), (16, .iload_n 1, 1, [], []), (17, .if_icmp .ne 5, 3, [22], []), (20, .iconst 1, 1, [], []), (21, .ireturn, 1, [1], []), (22, .iinc 2 1, 3, [], []), (25, .goto (-23), 3, [2], []), (28, .iconst 0, 1, [], []), (29, .ireturn, 1, [1], [])]
def tb_X5_priceAt : ZT := [(0, .aload_n 0, 1, [], []), (1, .getfield 46, 3, [4, 10, 3, 3, 0, 272], []), (4, .iload_n 1, 1, [], []), (5, .invokevirtual 86, 3, [1, 16, 2, 967, 0, 3], []), (8, .bipush 10, 2, [], []), (10, .isub, 1, [], []), (11, .ireturn, 1, [], [])]
def tb_X5_isSlack : ZT := [(0, .aload_n 0, 1, [], []), (1, .getfield 83, 3, [4, 14, 0, 0, 0, 281], []), (4, .ifCond .le 16, 3, [20], []), (7, .iload_n 1, 1, [], []), (8, .aload_n 0, 1, [], []), (9, .getfield 83, 3, [4, 14, 0, 0, 0, 281], []), (12, .irem, 1, [], []), (13, .ifCond .ne 7, 3, [20], []), (16, .iconst 1, 1, [], []), (17, .goto 4, 3, [21], []), (20, .iconst 0, 1, [], []), (21, .ireturn, 1, [1], [])]
def tb_X5_tenths : ZT := [(0, .aload_n 0, 1, [], []), (1, .getfield 22, 3, [4, 4, 3, 30, 0, 249], []), (4, .iload_n 3, 1, [], []), (5, .iaload, 1, [], []), (6, .bipush 6, 2, [], []), (8, .idiv, 1, [], []), (9, .aload_n 0, 1, [], []), (10, .getfield 22, 3, [4, 4, 3, 30, 0, 249], []), (13, .iload_n 1, 1, [], []), (14, .iaload, 1, [], []), (15, .bipush 6, 2, [], []), (17, .idiv, 1, [], []), (18, .isub, 1, [], []), (19, .istore 5, 2, [], []), (21, .aload_n 0, 1, [], []), (22, .getfield 22, 3, [4, 4, 3, 30, 0, 249], []), (25, .iload_n 3, 1, [], []), (26, .iaload, 1, [], []), (27, .bipush 6, 2, [], []), (29, .irem, 1, [], []), (30, .aload_n 0, 1, [], []), (31, .getfield 22, 3, [4, 4, 3, 30, 0, 249], []), (34, .iload_n 1, 1, [], []), (35, .iaload, 1, [], []), (36, .bipush 6, 2, [], []), (38, .irem, 1, [], []), (39, .isub, 1, [], []), (40, .istore 6, 2, [], []), (42, .iload 4, 2, [], []), (44, .ifCond .eq 9, 3, [53], []), (47, .iload 4, 2, [], []), (49, .iconst 2, 1, [], []), (50, .if_icmp .ne 7, 3, [57], []), (53, .iconst 1, 1, [], []), (54, .goto 4, 3, [58], []), (57, .iconst 0, 1, [], []), (58, .istore 7, 2, [], []), (60, .iload 7, 2, [], []), (62, .ifCond .eq 8, 3, [70], []), (65, .iload 5, 2, [], []), (67, .goto 5, 3, [72], []), (70, .iload 6, 2, [], []), (72, .istore 8, 2, [], []), (74, .iload 7, 2, [], []), (76, .ifCond .eq 8, 3, [84], []), (79, .iload 6, 2, [], []), (81, .goto 5, 3, [86], []), (84, .iload 5, 2, [], []), (86, .istore 9, 2, [], []), (88, .iload 4, 2, [], []), (90, .iconst 2, 1, [], []), (91, .if_icmp .eq 9, 3, [100], []), (94, .iload 4, 2, [], []), (96, .iconst 1, 1, [], []), (97, .if_icmp .ne 8, 3, [105], []), (100, .iload 8, 2, [], []), (102, .ineg, 1, [], []), (103, .istore 8, 2, [], []), (105, .iload 8, 2, [], []), (107, .iconst 1, 1, [], []), (108, .if_icmp .lt 20, 3, [128], []), (111, .iload 8, 2, [], []), (113, .iconst 3, 1, [], []), (114, .if_icmp .gt 14, 3, [128], []), (117, .iload 9, 2, [], []), (119, .iload_n 2, 1, [], []), (120, .iload 8, 2, [], []), (122, .invokestatic 90, 3, [0, 30, 2, 849, 0], []), (125, .if_icmp .eq 5, 3, [130], []), (128, .iconst 0, 1, [], []), (129, .ireturn, 1, [], []), (130, .aload_n 0, 1, [], []), (131, .getfield 49, 3, [4, 11, 3, 3, 0, 274], []), (134, .iload 8, 2, [], []), (136, .iconst 1, 1, [], []), (137, .isub, 1, [], []), (138, .invokevirtual 94, 3, [1, 15, 2, 858, 0, 3], []), (141, .aload_n 0, 1, [], []), (142, .getfield 15, 3, [4, 2, 3, 28, 0, 243], []), (145, .iload_n 1, 1, [], []), (146, .iaload, 1, [], []), (147, .iconst 3, 1, [], []), (148, .if_icmp .ne 7, 3, [155], []), (151, .iconst 1, 1, [], []), (152, .goto 4, 3, [156], []), (155, .iconst 0, 1, [], []), (156, .isub, 1, [], []), (157, .iconst 0, 1, [], []), (158, .invokestatic 97, 3, [6, 0, 2, 862], []), (161, .ireturn, 1, [], [])]
def tb_X5_takenOf : ZT := [(0, .iload_n 2, 1, [], []), (1, .bipush 9, 2, [], []), (3, .invokestatic 102, 3, [7, 0, 2, 869], []), (6, .istore_n 3, 1, [], []), (7, .aload_n 0, 1, [], []), (8, .getfield 15, 3, [4, 2, 3, 28, 0, 243], []), (11, .iload_n 1, 1, [], []), (12, .iaload, 1, [], []), (13, .iconst 1, 1, [], []), (14, .if_icmp .ne 13, 3, [27], []), (17, .iload_n 3, 1, [], []), (18, .iconst 1, 1, [], []), (19, .isub, 1, [], []), (20, .iconst 0, 1, [], []), (21, .invokestatic 97, 3, [6, 0, 2, 862], []), (24, .goto 4, 3, [28], []), (27, .iload_n 3, 1, [], []), (28, .ireturn, 1, [], [])]
def tb_X5_gives : ZT := [(0, .iload_n 3, 1, [], []), (1, .invokestatic 105, 3, [0, 28, 1, 852, 0], []), (4, .istore 5, 2, [], []), (6, .iload 4, 2, [], []), (8, .bipush 12, 2, [], []), (10, .irem, 1, [], []), (11, .bipush 6, 2, [], []), (13, .if_icmp .lt 7, 3, [20], []), (16, .iconst 1, 1, [], []), (17, .goto 4, 3, [21], []), (20, .iconst 0, 1, [], []), (21, .istore 6, 2, [], []), (23, .iconst 0, 1, [], []), (24, .aload_n 0, 1, [], []), (25, .getfield 55, 3, [4, 12, 3, 1, 0, 276], []), (28, .iload_n 1, 1, [], []), (29, .iload_n 2, 1, [], []), (30, .iload 5, 2, [], []), (32, .iload 6, 2, [], []), (34, .invokevirtual 108, 3, [1, 8, 5, 881, 0, 1], []), (37, .bipush 99, 2, [], []), (39, .invokestatic 102, 3, [7, 0, 2, 869], []), (42, .invokestatic 97, 3, [6, 0, 2, 862], []), (45, .istore 7, 2, [], []), (47, .iload 5, 2, [], []), (49, .ifCond .ne 8, 3, [57], []), (52, .iload 7, 2, [], []), (54, .goto 22, 3, [76], []), (57, .iload 7, 2, [], []), (59, .iload 5, 2, [], []), (61, .iconst 1, 1, [], []), (62, .if_icmp .ne 8, 3, [70], []), (65, .bipush 9, 2, [], []), (67, .goto 5, 3, [72], []), (70, .bipush 6, 2, [], []), (72, .imul, 1, [], []), (73, .bipush 10, 2, [], []), (75, .idiv, 1, [], []), (76, .ireturn, 1, [], [])]
def tb_X5_turnedBy : ZT := [(0, .iload_n 0, 1, [], []), (1, .iconst 2, 1, [], []), (2, .isub, 1, [], []), (3, .invokestatic 112, 3, [8, 0, 2, 855], []), (6, .ireturn, 1, [], [])]
def tb_X5_left : ZT := [(0, .iload_n 0, 1, [], []), (1, .bipush 10, 2, [], []), (3, .iload_n 1, 1, [], []), (4, .isub, 1, [], []), (5, .imul, 1, [], []), (6, .bipush 10, 2, [], []), (8, .idiv, 1, [], []), (9, .ireturn, 1, [], [])]
def tb_X5_drift : ZT := [(0, .iload_n 0, 1, [], []), (1, .invokestatic 105, 3, [0, 28, 1, 852, 0], []), (4, .istore_n 2, 1, [], []), (5, .iload_n 2, 1, [], []), (6, .ifCond .eq 13, 3, [19], []), (9, .iload_n 2, 1, [], []), (10, .iconst 1, 1, [], []), (11, .if_icmp .ne 10, 3, [21], []), (14, .iload_n 1, 1, [], []), (15, .iconst 1, 1, [], []), (16, .if_icmp .ne 5, 3, [21], []), (19, .iconst 0, 1, [], []), (20, .ireturn, 1, [], []), (21, .iload_n 0, 1, [], []), (22, .iconst 2, 1, [], []), (23, .if_icmp .ge 7, 3, [30], []), (26, .iconst (-1), 1, [], []), (27, .goto 4, 3, [31], []), (30, .iconst 1, 1, [], []), (31, .ireturn, 1, [], [])]
def tb_X5_only : ZT := [(0, .aload_n 0, 1, [], []), (1, .iconst 0, 1, [], []), (2, .putfield 66, 3, [3, 1, 0, 0, 0, 195], []), (5, .aload_n 0, 1, [], []), (6, .iload_n 1, 1, [], []), (7, .invokevirtual 73, 3, [1, 14, 2, 232, 0, 3], []), (10, .pop, 1, [], []), (11, .return_, 1, [], [])]
def tb_X6_init : ZT := [(0, .aload_n 0, 1, [], []), (1, .invokespecial 3, 3, [2, 0, 1, 319], []), (4, .aload_n 0, 1, [], []), (5, .new 9, 3, [3, 320], []), (8, .dup, 1, [], []), (9, .bipush 40, 2, [], []), (11, .invokespecial 11, 3, [1, 13, 2, 321, 0, 3], []), (14, .putfield 14, 3, [5, 1, 3, 3, 0, 323], []), (17, .aload_n 0, 1, [], []), (18, .aload_n 1, 1, [], []), (19, .putfield 20, 3, [5, 0, 3, 8, 0, 322], []), (22, .aload_n 0, 1, [], []), (23, .aload_n 2, 1, [], []), (24, .putfield 24, 3, [5, 2, 4, 4, 2, 324], []), (27, .return_, 1, [], [])]
def tb_X6_readPark : ZT := [(0, .aload_n 1, 1, [], []), (1, .invokevirtual 28, 3, [1, 19, 1, 593, 0, 4], []), (4, .aload_n 0, 1, [], []), (5, .aload_n 1, 1, [], []), (6, .putfield 24, 3, [5, 2, 4, 4, 2, 324], []), (9, .aload_n 0, 1, [], []), (10, .iconst 0, 1, [], []), (11, .putfield 33, 3, [5, 3, 0, 0, 0, 325], []), (14, .aload_n 0, 1, [], []), (15, .iconst 0, 1, [], []), (16, .putfield 37, 3, [5, 6, 0, 0, 0, 328], []), (19, .aload_n 0, 1, [], []), (20, .getfield 20, 3, [5, 0, 3, 8, 0, 322], []), (23, .invokevirtual 40, 3, [1, 86, 1, 594, 0, 8], []), (26, .iconst 0, 1, [], []), (27, .istore_n 2, 1, [], []), (28, .iload_n 2, 1, [], []), (29, .sipush 1000, 3, [], []), (32, .if_icmp .ge 31, 3, [63], []), (35, .aload_n 0, 1, [], []), (36, .getfield 33, 3, [5, 3, 0, 0, 0, 325], []), (39, .ifCond .ne 24, 3, [63], []), (42, .aload_n 0, 1, [], []), (43, .getfield 20, 3, [5, 0, 3, 8, 0, 322], []), (46, .getfield 45, 3, [8, 2, 0, 0, 0, 152], []), (49, .ifCond .eq 14, 3, [63], []), (52, .aload_n 0, 1, [], []), (53, .invokevirtual 48, 3, [1, 35, 1, 616, 0, 5], []), (56, .pop, 1, [], []), (57, .iinc 2 1, 3, [], []), (60, .goto (-32), 3, [28], []), (63, .aload_n 0, 1, [], []), (64, .getfield 20, 3, [5, 0, 3, 8, 0, 322], []), (67, .invokevirtual 52, 3, [1, 85, 1, 760, 0, 8], []), (70, .aload_n 0, 1, [], []), (71, .getfield 33, 3, [5, 3, 0, 0, 0, 325], []), (74, .ireturn, 1, [], [])]
def tb_X6_readDay : ZT := [(0, .aload_n 0, 1, [], []), (1, .aload_n 1, 1, [], []), (2, .putfield 24, 3, [5, 2, 4, 4, 2, 324], []), (5, .aload_n 0, 1, [], []), (6, .iconst 0, 1, [], []), (7, .putfield 33, 3, [5, 3, 0, 0, 0, 325], []), (10, .aload_n 0, 1, [], []), (11, .getfield 14, 3, [5, 1, 3, 3, 0, 323], []), (14, .iconst 0, 1, [], []), (15, .putfield 53, 3, [3, 1, 0, 0, 0, 197], []), (18, .aload_n 0, 1, [], []), (19, .getfield 20, 3, [5, 0, 3, 8, 0, 322], []), (22, .invokevirtual 40, 3, [1, 86, 1, 594, 0, 8], []), (25, .iconst 0, 1, [], []), (26, .istore_n 3, 1, [], []), (27, .iload_n 3, 1, [], []), (28, .sipush 1000, 3, [], []), (31, .if_icmp .ge 31, 3, [62], []), (34, .aload_n 0, 1, [], []), (35, .getfield 33, 3, [5, 3, 0, 0, 0, 325], []), (38, .ifCond .ne 24, 3, [62], []), (41, .aload_n 0, 1, [], []), (42, .getfield 20, 3, [5, 0, 3, 8, 0, 322], []), (45, .getfield 45, 3, [8, 2, 0, 0, 0, 152], []), (48, .ifCond .eq 14, 3, [62], []), (51, .aload_n 0, 1, [], []), (52, .invokevirtual 56, 3, [1, 48, 1, 780, 0, 5], []), (55, .pop, 1, [], []), (56, .iinc 3 1, 3, [], []), (59, .goto (-32), 3, [27], []), (62, .aload_n 0, 1, [], []), (63, .getfield 20, 3, [5, 0, 3, 8, 0, 322], []), (66, .invokevirtual 52, 3, [1, 85, 1, 760, 0, 8], []), (69, .aload_n 0, 1, [], []), (70, .getfield 33, 3, [5, 3, 0, 0, 0, 325], []), (73, .ifCond .ne 11, 3, [84], []), (76, .aload_n 2, 1, [], []), (77, .aload_n 0, 1, [], []), (78, .getfield 14, 3, [5, 1, 3, 3, 0, 323], []), (81, .invokevirtual 59, 3, [1, 17, 2, 797, 0, 3], []), (84, .aload_n 0, 1, [], []), (85, .getfield 33, 3, [5, 3, 0, 0, 0, 325], []), (88, .ireturn, 1, [], [])]
def tb_X6_readParkLine : ZT := [(0, .aload_n 0, 1, [], []), (1, .getfield 20, 3, [5, 0, 3, 8, 0, 322], []), (4, .getfield 63, 3, [8, 6, 4, 12, 3, 160], []), (7, .astore_n 1, 1, [], []), (8, .aload_n 1, 1, [], []), (9, .ifnonnull 9, 3, [18], []), (12, .aload_n 0, 1, [], []), (13, .iconst 1, 1, [], []), (14, .invokevirtual 67, 3, [1, 49, 2, 620, 0, 5], []), (17, .ireturn, 1, [1], []), (18, .getstatic 71, 3, [101, 0, 624], []), (21, .aload_n 1, 1, [], []), (22, .invokevirtual 77, 3, [4, 0, 1, 626], []), (25, .iaload, 1, [], []), (26, .tableswitch 301 1 9 #[50, 55, 60, 99, 137, 176, 207, 238, 269], 50, [327, 76, 81, 86, 125, 163, 202, 233, 264, 295], [1, 2, 3, 4, 5, 6, 7, 8, 9]), (76, .aload_n 0, 1, [], []), (77, .invokevirtual 83, 3, [1, 36, 1, 632, 0, 5], []), (80, .ireturn, 1, [1], []), (81, .aload_n 0, 1, [], []), (82, .invokevirtual 86, 3, [1, 37, 1, 684, 0, 5], []), (85, .ireturn, 1, [1], []), (86, .aload_n 0, 1, [], []), (87, .iconst 1, 1, [], []), (88, .invokevirtual 89, 3, [1, 50, 2, 703, 0, 5], []), (91, .ifCond .eq 32, 3, [123], []), (94, .aload_n 0, 1, [], []), (95, .aload_n 0, 1, [], []), (96, .getfield 24, 3, [5, 2, 4, 4, 2, 324], []), (99, .getfield 92, 3, [4, 8, 3, 3, 0, 265], []), (102, .bipush 30, 2, [], []), (104, .invokevirtual 95, 3, [1, 39, 3, 707, 0, 5], []), (107, .ifCond .eq 16, 3, [123], []), (110, .aload_n 0, 1, [], []), (111, .bipush 59, 2, [], []), (113, .invokevirtual 99, 3, [1, 51, 2, 680, 0, 5], []), (116, .ifCond .eq 7, 3, [123], []), (119, .iconst 1, 1, [], []), (120, .goto 4, 3, [124], []), (123, .iconst 0, 1, [], []), (124, .ireturn, 1, [1], []), (125, .aload_n 0, 1, [], []), (126, .iconst 2, 1, [], []), (127, .invokevirtual 89, 3, [1, 50, 2, 703, 0, 5], []), (130, .ifCond .eq 31, 3, [161], []), (133, .aload_n 0, 1, [], []), (134, .aload_n 0, 1, [], []), (135, .getfield 24, 3, [5, 2, 4, 4, 2, 324], []), (138, .getfield 102, 3, [4, 9, 3, 3, 0, 270], []), (141, .iconst 3, 1, [], []), (142, .invokevirtual 95, 3, [1, 39, 3, 707, 0, 5], []), (145, .ifCond .eq 16, 3, [161], []), (148, .aload_n 0, 1, [], []), (149, .bipush 59, 2, [], []), (151, .invokevirtual 99, 3, [1, 51, 2, 680, 0, 5], []), (154, .ifCond .eq 7, 3, [161], []), (157, .iconst 1, 1, [], []), (158, .goto 4, 3, [162], []), (161, .iconst 0, 1, [], []), (162, .ireturn, 1, [1], []), (163, .aload_n 0, 1, [], []), (164, .iconst 4, 1, [], []), (165, .invokevirtual 89, 3, [1, 50, 2, 703, 0, 5], []), (168, .ifCond .eq 32, 3, [200], []), (171, .aload_n 0, 1, [], []), (172, .aload_n 0, 1, [], []), (173, .getfield 24, 3, [5, 2, 4, 4, 2, 324], []), (176, .getfield 105, 3, [4, 10, 3, 3, 0, 273], []), (179, .bipush 20, 2, [], []), (181, .invokevirtual 95, 3, [1, 39, 3, 707, 0, 5], []), (184, .ifCond .eq 16, 3, [200], []), (187, .aload_n 0, 1, [], []), (188, .bipush 59, 2, [], []), (190, .invokevirtual 99, 3, [1, 51, 2, 680, 0, 5], []), (193, .ifCond .eq 7, 3, [200], []), (196, .iconst 1, 1, [], []), (197, .goto 4, 3, [201], []), (200, .iconst 0, 1, [], []), (201, .ireturn, 1, [1], []), (202, .aload_n 0, 1, [], []), (203, .bipush 8, 2, [], []), (205, .invokevirtual 89, 3, [1, 50, 2, 703, 0, 5], []), (208, .ifCond .eq 23, 3, [231], []), (211, .aload_n 0, 1, [], []), (212, .invokevirtual 108, 3, [1, 40, 1, 711, 0, 5], []), (215, .ifCond .eq 16, 3, [231], []), (218, .aload_n 0, 1, [], []), (219, .bipush 59, 2, [], []), (221, .invokevirtual 99, 3, [1, 51, 2, 680, 0, 5], []), (224, .ifCond .eq 7, 3, [231], []), (227, .iconst 1, 1, [], []), (228, .goto 4, 3, [232], []), (231, .iconst 0, 1, [], []), (232, .ireturn, 1, [1], []), (233, .aload_n 0, 1, [], []), (234, .bipush 16, 2, [], []), (236, .invokevirtual 89, 3, [1, 50, 2, 703, 0, 5], []), (239, .ifCond .eq 23, 3, [262], []), (242, .aload_n 0, 1, [], []), (243, .invokevirtual 111, 3, [1, 41, 1, 715, 0, 5], []), (246, .ifCond .eq 16, 3, [262], []), (249, .aload_n 0, 1, [], []), (250, .bipush 59, 2, [], []), (252, .invokevirtual 99, 3, [1, 51, 2, 680, 0, 5], []), (255, .ifCond .eq 7, 3, [262], []), (258, .iconst 1, 1, [], []), (259, .goto 4, 3, [263], []), (262, .iconst 0, 1, [], []), (263, .ireturn, 1, [1], []), (264, .aload_n 0, 1, [], []), (265, .bipush 32, 2, [], []), (267, .invokevirtual 89, 3, [1, 50, 2, 703, 0, 5], []), (270, .ifCond .eq 23, 3, [293], []), (273, .aload_n 0, 1, [], []), (274, .invokevirtual 114, 3, [1, 42, 1, 719, 0, 5], []), (277, .ifCond .eq 16, 3, [293], []), (280, .aload_n 0, 1, [], []), (281, .bipush 59, 2, [], []), (283, .invokevirtual 99, 3, [1, 51, 2, 680, 0, 5], []), (286, .ifCond .eq 7, 3, [293], []), (289, .iconst 1, 1, [], []), (290, .goto 4, 3, [294], []), (293, .iconst 0, 1, [], []), (294, .ireturn, 1, [1], []), (295, .aload_n 0, 1, [], []), (296, .bipush 64, 2, [], []), (298, .invokevirtual 89, 3, [1, 50, 2, 703, 0, 5], []), (301, .ifCond .eq 24, 3, [325], []), (304, .aload_n 0, 1, [], []), (305, .iconst 0, 1, [], []), (306, .invokevirtual 117, 3, [1, 43, 2, 723, 0, 5], []), (309, .ifCond .eq 16, 3, [325], []), (312, .aload_n 0, 1, [], []), (313, .bipush 59, 2, [], []), (315, .invokevirtual 99, 3, [1, 51, 2, 680, 0, 5], []), (318, .ifCond .eq 7, 3, [325], []), (321, .iconst 1, 1, [], []), (322, .goto 4, 3, [326], []), (325, .iconst 0, 1, [], []), (326, .ireturn, 1, [1], []), (327, .aload_n 0, 1, [], []), (328, .iconst 1, 1, [], []), (329, .invokevirtual 67, 3, [1, 49, 2, 620, 0, 5], []), (332, .ireturn, 1, [1], [])]
def tb_X6_readTurbine : ZT := [(0, .aload_n 0, 1, [], []), (1, .getfield 24, 3, [5, 2, 4, 4, 2, 324], []), (4, .getfield 120, 3, [4, 0, 0, 0, 0, 240], []), (7, .bipush 6, 2, [], []), (9, .if_icmp .lt 9, 3, [18], []), (12, .aload_n 0, 1, [], []), (13, .iconst 5, 1, [], []), (14, .invokevirtual 67, 3, [1, 49, 2, 620, 0, 5], []), (17, .ireturn, 1, [1], []), (18, .aload_n 0, 1, [], []), (19, .getfield 20, 3, [5, 0, 3, 8, 0, 322], []), (22, .invokevirtual 123, 3, [1, 87, 1, 636, 0, 8], []), (25, .aload_n 0, 1, [], []), (26, .invokevirtual 126, 3, [1, 55, 1, 637, 0, 5], []), (29, .ifCond .ne 9, 3, [38], []), (32, .aload_n 0, 1, [], []), (33, .iconst 1, 1, [], []), (34, .invokevirtual 67, 3, [1, 49, 2, 620, 0, 5], []), (37, .ireturn, 1, [1], []), (38, .aload_n 0, 1, [], []), (39, .getfield 24, 3, [5, 2, 4, 4, 2, 324], []), (42, .aload_n 0, 1, [], []), (43, .getfield 20, 3, [5, 0, 3, 8, 0, 322], []), (46, .getfield 129, 3, [8, 5, 2, 0, 0, 158], []), (49, .invokevirtual 133, 3, [1, 21, 2, 641, 0, 4], []), (52, .iconst (-1), 1, [], []), (53, .if_icmp .eq 9, 3, [62], []), (56, .aload_n 0, 1, [], []), (57, .iconst 3, 1, [], []), (58, .invokevirtual 67, 3, [1, 49, 2, 620, 0, 5], []), (61, .ireturn, 1, [1], []), (62, .aload_n 0, 1, [], []), (63, .getfield 20, 3, [5, 0, 3, 8, 0, 322], []), (66, .getfield 129, 3, [8, 5, 2, 0, 0, 158], []), (69, .lstore_n 1, 1, [], []), (70, .aload_n 0, 1, [], []), (71, .getfield 20, 3, [5, 0, 3, 8, 0, 322], []), (74, .invokevirtual 123, 3, [1, 87, 1, 636, 0, 8], []), (77, .aload_n 0, 1, [], []), (78, .getfield 20, 3, [5, 0, 3, 8, 0, 322], []), (81, .getfield 63, 3, [8, 6, 4, 12, 3, 160], []), (84, .invokestatic 137, 3, [0, 57, 1, 645, 0], []), (87, .istore_n 3, 1, [], []), (88, .iload_n 3, 1, [], []), (89, .iconst (-1), 1, [], []), (90, .if_icmp .ne 9, 3, [99], []), (93, .aload_n 0, 1, [], []), (94, .iconst 1, 1, [], []), (95, .invokevirtual 67, 3, [1, 49, 2, 620, 0, 5], []), (98, .ireturn, 1, [1], []), (99, .aload_n 0, 1, [], []), (100, .getfield 20, 3, [5, 0, 3, 8, 0, 322], []), (103, .invokevirtual 123, 3, [1, 87, 1, 636, 0, 8], []), (106, .aload_n 0, 1, [], []), (107, .getstatic 141, 3, [12, 1, 656], []), (110, .invokevirtual 144, 3, [1, 52, 2, 658, 0, 5], []), (113, .ifCond .eq 12, 3, [125], []), (116, .aload_n 0, 1, [], []), (117, .iconst 1, 1, [], []), (118, .iconst 2, 1, [], []), (119, .invokevirtual 148, 3, [1, 53, 3, 662, 0, 5], []), (122, .ifCond .ne 5, 3, [127], []), (125, .iconst 0, 1, [], []), (126, .ireturn, 1, [1], []), (127, .aload_n 0, 1, [], []), (128, .getfield 152, 3, [5, 4, 0, 0, 0, 326], []), (131, .istore 4, 2, [], []), (133, .aload_n 0, 1, [], []), (134, .getstatic 155, 3, [12, 2, 670], []), (137, .invokevirtual 144, 3, [1, 52, 2, 658, 0, 5], []), (140, .ifCond .eq 13, 3, [153], []), (143, .aload_n 0, 1, [], []), (144, .iconst 0, 1, [], []), (145, .bipush 35, 2, [], []), (147, .invokevirtual 158, 3, [1, 54, 3, 666, 0, 5], []), (150, .ifCond .ne 5, 3, [155], []), (153, .iconst 0, 1, [], []), (154, .ireturn, 1, [1], []), (155, .aload_n 0, 1, [], []), (156, .getfield 20, 3, [5, 0, 3, 8, 0, 322], []), (159, .getfield 161, 3, [8, 4, 0, 0, 0, 156], []), (162, .istore 5, 2, [], []), (164, .aload_n 0, 1, [], []), (165, .getfield 24, 3, [5, 2, 4, 4, 2, 324], []), (168, .iload 5, 2, [], []), (170, .invokevirtual 164, 3, [1, 22, 2, 672, 0, 4], []), (173, .ifCond .eq 9, 3, [182], []), (176, .aload_n 0, 1, [], []), (177, .iconst 3, 1, [], []), (178, .invokevirtual 67, 3, [1, 49, 2, 620, 0, 5], []), (181, .ireturn, 1, [1], []), (182, .aload_n 0, 1, [], []), (183, .getfield 20, 3, [5, 0, 3, 8, 0, 322], []), (186, .invokevirtual 123, 3, [1, 87, 1, 636, 0, 8], []), (189, .aload_n 0, 1, [], []), (190, .getfield 24, 3, [5, 2, 4, 4, 2, 324], []), (193, .lload_n 1, 1, [], []), (194, .iload_n 3, 1, [], []), (195, .iload 4, 2, [], []), (197, .iload 5, 2, [], []), (199, .invokevirtual 167, 3, [1, 20, 5, 676, 0, 4], []), (202, .aload_n 0, 1, [], []), (203, .bipush 59, 2, [], []), (205, .invokevirtual 99, 3, [1, 51, 2, 680, 0, 5], []), (208, .ireturn, 1, [1], [])]
def tb_X6_readCable : ZT := [(0, .aload_n 0, 1, [], []), (1, .getfield 20, 3, [5, 0, 3, 8, 0, 322], []), (4, .invokevirtual 123, 3, [1, 87, 1, 636, 0, 8], []), (7, .aload_n 0, 1, [], []), (8, .invokevirtual 171, 3, [1, 56, 1, 688, 0, 5], []), (11, .ifCond .ne 5, 3, [16], []), (14, .iconst 0, 1, [], []), (15, .ireturn, 1, [1], []), (16, .aload_n 0, 1, [], []), (17, .getfield 174, 3, [5, 5, 0, 0, 0, 327], []), (20, .istore_n 1, 1, [], []), (21, .aload_n 0, 1, [], []), (22, .getfield 24, 3, [5, 2, 4, 4, 2, 324], []), (25, .getfield 177, 3, [4, 5, 3, 31, 0, 254], []), (28, .iload_n 1, 1, [], []), (29, .iaload, 1, [], []), (30, .iconst (-1), 1, [], []), (31, .if_icmp .eq 9, 3, [40], []), (34, .aload_n 0, 1, [], []), (35, .iconst 3, 1, [], []), (36, .invokevirtual 67, 3, [1, 49, 2, 620, 0, 5], []), (39, .ireturn, 1, [1], []), (40, .aload_n 0, 1, [], []), (41, .getfield 20, 3, [5, 0, 3, 8, 0, 322], []), (44, .invokevirtual 123, 3, [1, 87, 1, 636, 0, 8], []), (47, .aload_n 0, 1, [], []), (48, .invokevirtual 180, 3, [1, 38, 1, 692, 0, 5], []), (51, .ifCond .eq 13, 3, [64], []), (54, .aload_n 0, 1, [], []), (55, .getstatic 183, 3, [12, 6, 700], []), (58, .invokevirtual 144, 3, [1, 52, 2, 658, 0, 5], []), (61, .ifCond .ne 5, 3, [66], []), (64, .iconst 0, 1, [], []), (65, .ireturn, 1, [1], []), (66, .aload_n 0, 1, [], []), (67, .getfield 174, 3, [5, 5, 0, 0, 0, 327], []), (70, .istore_n 2, 1, [], []), (71, .aload_n 0, 1, [], []), (72, .iconst 1, 1, [], []), (73, .sipush 200, 3, [], []), (76, .invokevirtual 148, 3, [1, 53, 3, 662, 0, 5], []), (79, .ifCond .ne 5, 3, [84], []), (82, .iconst 0, 1, [], []), (83, .ireturn, 1, [1], []), (84, .aload_n 0, 1, [], []), (85, .getfield 24, 3, [5, 2, 4, 4, 2, 324], []), (88, .getfield 177, 3, [4, 5, 3, 31, 0, 254], []), (91, .iload_n 1, 1, [], []), (92, .iload_n 2, 1, [], []), (93, .iastore, 1, [], []), (94, .aload_n 0, 1, [], []), (95, .getfield 24, 3, [5, 2, 4, 4, 2, 324], []), (98, .getfield 186, 3, [4, 6, 3, 32, 0, 258], []), (101, .iload_n 1, 1, [], []), (102, .aload_n 0, 1, [], []), (103, .getfield 152, 3, [5, 4, 0, 0, 0, 326], []), (106, .iastore, 1, [], []), (107, .aload_n 0, 1, [], []), (108, .getfield 24, 3, [5, 2, 4, 4, 2, 324], []), (111, .getfield 189, 3, [4, 7, 3, 3, 0, 261], []), (114, .iload_n 1, 1, [], []), (115, .invokevirtual 192, 3, [1, 14, 2, 702, 0, 3], []), (118, .pop, 1, [], []), (119, .aload_n 0, 1, [], []), (120, .bipush 59, 2, [], []), (122, .invokevirtual 99, 3, [1, 51, 2, 680, 0, 5], []), (125, .ireturn, 1, [1], [])]
def tb_X6_readGoal : ZT := [(0, .aload_n 0, 1, [], []), (1, .getfield 20, 3, [5, 0, 3, 8, 0, 322], []), (4, .getfield 63, 3, [8, 6, 4, 12, 3, 160], []), (7, .astore_n 1, 1, [], []), (8, .aload_n 1, 1, [], []), (9, .getstatic 195, 3, [12, 5, 696], []), (12, .if_acmp .eq 16, 3, [28], []), (15, .aload_n 1, 1, [], []), (16, .getstatic 198, 3, [12, 4, 698], []), (19, .if_acmp .eq 9, 3, [28], []), (22, .aload_n 0, 1, [], []), (23, .iconst 1, 1, [], []), (24, .invokevirtual 67, 3, [1, 49, 2, 620, 0, 5], []), (27, .ireturn, 1, [1], []), (28, .aload_n 0, 1, [], []), (29, .getfield 20, 3, [5, 0, 3, 8, 0, 322], []), (32, .invokevirtual 123, 3, [1, 87, 1, 636, 0, 8], []), (35, .aload_n 1, 1, [], []), (36, .getstatic 195, 3, [12, 5, 696], []), (39, .if_acmp .ne 11, 3, [50], []), (42, .aload_n 0, 1, [], []), (43, .bipush 6, 2, [], []), (45, .putfield 174, 3, [5, 5, 0, 0, 0, 327], []), (48, .iconst 1, 1, [], []), (49, .ireturn, 1, [1], []), (50, .aload_n 0, 1, [], []), (51, .invokevirtual 171, 3, [1, 56, 1, 688, 0, 5], []), (54, .ifCond .ne 5, 3, [59], []), (57, .iconst 0, 1, [], []), (58, .ireturn, 1, [1], []), (59, .aload_n 0, 1, [], []), (60, .getfield 24, 3, [5, 2, 4, 4, 2, 324], []), (63, .getfield 177, 3, [4, 5, 3, 31, 0, 254], []), (66, .aload_n 0, 1, [], []), (67, .getfield 174, 3, [5, 5, 0, 0, 0, 327], []), (70, .iaload, 1, [], []), (71, .iconst (-1), 1, [], []), (72, .if_icmp .ne 9, 3, [81], []), (75, .aload_n 0, 1, [], []), (76, .iconst 2, 1, [], []), (77, .invokevirtual 67, 3, [1, 49, 2, 620, 0, 5], []), (80, .ireturn, 1, [1], []), (81, .aload_n 0, 1, [], []), (82, .getfield 20, 3, [5, 0, 3, 8, 0, 322], []), (85, .invokevirtual 123, 3, [1, 87, 1, 636, 0, 8], []), (88, .iconst 1, 1, [], []), (89, .ireturn, 1, [1], [])]
def tb_X6_readList : ZT := [(0, .aload_n 1, 1, [], []), (1, .iconst 0, 1, [], []), (2, .putfield 53, 3, [3, 1, 0, 0, 0, 197], []), (5, .iconst 0, 1, [], []), (6, .istore_n 3, 1, [], []), (7, .iload_n 3, 1, [], []), (8, .sipush 1000, 3, [], []), (11, .if_icmp .ge 62, 3, [73], []), (14, .iload_n 3, 1, [], []), (15, .ifCond .eq 14, 3, [29], []), (18, .aload_n 0, 1, [], []), (19, .getfield 20, 3, [5, 0, 3, 8, 0, 322], []), (22, .getfield 45, 3, [8, 2, 0, 0, 0, 152], []), (25, .iconst 2, 1, [], []), (26, .if_icmp .ne 47, 3, [73], []), (29, .aload_n 0, 1, [], []), (30, .iconst 0, 1, [], []), (31, .iload_n 2, 1, [], []), (32, .invokevirtual 158, 3, [1, 54, 3, 666, 0, 5], []), (35, .ifCond .ne 5, 3, [40], []), (38, .iconst 0, 1, [], []), (39, .ireturn, 1, [1], []), (40, .aload_n 1, 1, [], []), (41, .aload_n 0, 1, [], []), (42, .getfield 20, 3, [5, 0, 3, 8, 0, 322], []), (45, .getfield 161, 3, [8, 4, 0, 0, 0, 156], []), (48, .invokevirtual 192, 3, [1, 14, 2, 702, 0, 3], []), (51, .ifCond .ne 9, 3, [60], []), (54, .aload_n 0, 1, [], []), (55, .iconst 5, 1, [], []), (56, .invokevirtual 67, 3, [1, 49, 2, 620, 0, 5], []), (59, .ireturn, 1, [1], []), (60, .aload_n 0, 1, [], []), (61, .getfield 20, 3, [5, 0, 3, 8, 0, 322], []), (64, .invokevirtual 123, 3, [1, 87, 1, 636, 0, 8], []), (67, .iinc 3 1, 3, [], []), (70, .goto (-63), 3, [7], []), (73, .iconst 1, 1, [], []), (74, .ireturn, 1, [1], [])]
def tb_X6_readWakes : ZT := [(0, .aload_n 0, 1, [], []), (1, .getfield 24, 3, [5, 2, 4, 4, 2, 324], []), (4, .getfield 201, 3, [4, 11, 3, 3, 0, 275], []), (7, .iconst 0, 1, [], []), (8, .putfield 53, 3, [3, 1, 0, 0, 0, 197], []), (11, .iconst 0, 1, [], []), (12, .istore_n 1, 1, [], []), (13, .iload_n 1, 1, [], []), (14, .iconst 3, 1, [], []), (15, .if_icmp .ge 36, 3, [51], []), (18, .aload_n 0, 1, [], []), (19, .iconst 0, 1, [], []), (20, .bipush 9, 2, [], []), (22, .invokevirtual 148, 3, [1, 53, 3, 662, 0, 5], []), (25, .ifCond .ne 5, 3, [30], []), (28, .iconst 0, 1, [], []), (29, .ireturn, 1, [1], []), (30, .aload_n 0, 1, [], []), (31, .getfield 24, 3, [5, 2, 4, 4, 2, 324], []), (34, .getfield 201, 3, [4, 11, 3, 3, 0, 275], []), (37, .aload_n 0, 1, [], []), (38, .getfield 152, 3, [5, 4, 0, 0, 0, 326], []), (41, .invokevirtual 192, 3, [1, 14, 2, 702, 0, 3], []), (44, .pop, 1, [], []), (45, .iinc 1 1, 3, [], []), (48, .goto (-35), 3, [13], []), (51, .iconst 1, 1, [], []), (52, .ireturn, 1, [1], [])]
def tb_X6_readWears : ZT := [(0, .aload_n 0, 1, [], []), (1, .iconst 1, 1, [], []), (2, .bipush 99, 2, [], []), (4, .invokevirtual 148, 3, [1, 53, 3, 662, 0, 5], []), (7, .ifCond .ne 5, 3, [12], []), (10, .iconst 0, 1, [], []), (11, .ireturn, 1, [1], []), (12, .aload_n 0, 1, [], []), (13, .getfield 24, 3, [5, 2, 4, 4, 2, 324], []), (16, .aload_n 0, 1, [], []), (17, .getfield 152, 3, [5, 4, 0, 0, 0, 326], []), (20, .putfield 204, 3, [4, 13, 0, 0, 0, 279], []), (23, .iconst 1, 1, [], []), (24, .ireturn, 1, [1], [])]
def tb_X6_readSlack : ZT := [(0, .aload_n 0, 1, [], []), (1, .iconst 1, 1, [], []), (2, .bipush 12, 2, [], []), (4, .invokevirtual 148, 3, [1, 53, 3, 662, 0, 5], []), (7, .ifCond .ne 5, 3, [12], []), (10, .iconst 0, 1, [], []), (11, .ireturn, 1, [1], []), (12, .aload_n 0, 1, [], []), (13, .getfield 24, 3, [5, 2, 4, 4, 2, 324], []), (16, .aload_n 0, 1, [], []), (17, .getfield 152, 3, [5, 4, 0, 0, 0, 326], []), (20, .putfield 207, 3, [4, 14, 0, 0, 0, 282], []), (23, .iconst 1, 1, [], []), (24, .ireturn, 1, [1], [])]
def tb_X6_readE : ZT := [(0, .aload_n 0, 1, [], []), (1, .iload_n 1, 1, [], []), (2, .invokevirtual 210, 3, [1, 44, 2, 727, 0, 5], []), (5, .ifCond .ne 5, 3, [10], []), (8, .iconst 0, 1, [], []), (9, .ireturn, 1, [1], []), (10, .iconst 0, 1, [], []), (11, .istore_n 2, 1, [], []), (12, .iload_n 2, 1, [], []), (13, .sipush 1000, 3, [], []), (16, .if_icmp .ge 78, 3, [94], []), (19, .aload_n 0, 1, [], []), (20, .getfield 20, 3, [5, 0, 3, 8, 0, 322], []), (23, .getfield 63, 3, [8, 6, 4, 12, 3, 160], []), (26, .astore_n 3, 1, [], []), (27, .aload_n 3, 1, [], []), (28, .getstatic 213, 3, [12, 24, 756], []), (31, .if_acmp .eq 12, 3, [43], []), (34, .aload_n 3, 1, [], []), (35, .getstatic 216, 3, [12, 25, 758], []), (38, .if_acmp .eq 5, 3, [43], []), (41, .iconst 1, 1, [], []), (42, .ireturn, 1, [1], []), (43, .aload_n 0, 1, [], []), (44, .getfield 20, 3, [5, 0, 3, 8, 0, 322], []), (47, .invokevirtual 123, 3, [1, 87, 1, 636, 0, 8], []), (50, .aload_n 0, 1, [], []), (51, .iload_n 1, 1, [], []), (52, .invokevirtual 210, 3, [1, 44, 2, 727, 0, 5], []), (55, .ifCond .ne 5, 3, [60], []), (58, .iconst 0, 1, [], []), (59, .ireturn, 1, [1], []), (60, .aload_n 0, 1, [], []), (61, .getfield 24, 3, [5, 2, 4, 4, 2, 324], []), (64, .getfield 219, 3, [4, 12, 3, 1, 0, 277], []), (67, .getfield 223, 3, [1, 0, 3, 3, 0, 218], []), (70, .aload_n 3, 1, [], []), (71, .getstatic 213, 3, [12, 24, 756], []), (74, .if_acmp .ne 8, 3, [82], []), (77, .bipush (-6), 2, [], []), (79, .goto 5, 3, [84], []), (82, .bipush (-7), 2, [], []), (84, .invokevirtual 192, 3, [1, 14, 2, 702, 0, 3], []), (87, .pop, 1, [], []), (88, .iinc 2 1, 3, [], []), (91, .goto (-79), 3, [12], []), (94, .iconst 1, 1, [], []), (95, .ireturn, 1, [1], [])]
def tb_X6_readTest : ZT := [(0, .aload_n 0, 1, [], []), (1, .iload_n 1, 1, [], []), (2, .invokevirtual 228, 3, [1, 45, 2, 731, 0, 5], []), (5, .ifCond .ne 5, 3, [10], []), (8, .iconst 0, 1, [], []), (9, .ireturn, 1, [1], []), (10, .aload_n 0, 1, [], []), (11, .getfield 20, 3, [5, 0, 3, 8, 0, 322], []), (14, .getfield 45, 3, [8, 2, 0, 0, 0, 152], []), (17, .istore_n 2, 1, [], []), (18, .iload_n 2, 1, [], []), (19, .bipush 60, 2, [], []), (21, .if_icmp .eq 11, 3, [32], []), (24, .iload_n 2, 1, [], []), (25, .bipush 61, 2, [], []), (27, .if_icmp .eq 5, 3, [32], []), (30, .iconst 1, 1, [], []), (31, .ireturn, 1, [1], []), (32, .aload_n 0, 1, [], []), (33, .getfield 20, 3, [5, 0, 3, 8, 0, 322], []), (36, .invokevirtual 123, 3, [1, 87, 1, 636, 0, 8], []), (39, .aload_n 0, 1, [], []), (40, .iload_n 1, 1, [], []), (41, .invokevirtual 228, 3, [1, 45, 2, 731, 0, 5], []), (44, .ifCond .ne 5, 3, [49], []), (47, .iconst 0, 1, [], []), (48, .ireturn, 1, [1], []), (49, .aload_n 0, 1, [], []), (50, .getfield 24, 3, [5, 2, 4, 4, 2, 324], []), (53, .getfield 219, 3, [4, 12, 3, 1, 0, 277], []), (56, .getfield 223, 3, [1, 0, 3, 3, 0, 218], []), (59, .iload_n 2, 1, [], []), (60, .bipush 60, 2, [], []), (62, .if_icmp .ne 8, 3, [70], []), (65, .bipush (-8), 2, [], []), (67, .goto 5, 3, [72], []), (70, .bipush (-9), 2, [], []), (72, .invokevirtual 192, 3, [1, 14, 2, 702, 0, 3], []), (75, .pop, 1, [], []), (76, .iconst 1, 1, [], []), (77, .ireturn, 1, [1], [])]
def tb_X6_readSum : ZT := [(0, .aload_n 0, 1, [], []), (1, .iload_n 1, 1, [], []), (2, .invokevirtual 231, 3, [1, 46, 2, 735, 0, 5], []), (5, .ifCond .ne 5, 3, [10], []), (8, .iconst 0, 1, [], []), (9, .ireturn, 1, [1], []), (10, .iconst 0, 1, [], []), (11, .istore_n 2, 1, [], []), (12, .iload_n 2, 1, [], []), (13, .sipush 1000, 3, [], []), (16, .if_icmp .ge 85, 3, [101], []), (19, .aload_n 0, 1, [], []), (20, .getfield 20, 3, [5, 0, 3, 8, 0, 322], []), (23, .getfield 45, 3, [8, 2, 0, 0, 0, 152], []), (26, .bipush 43, 2, [], []), (28, .if_icmp .eq 15, 3, [43], []), (31, .aload_n 0, 1, [], []), (32, .getfield 20, 3, [5, 0, 3, 8, 0, 322], []), (35, .getfield 45, 3, [8, 2, 0, 0, 0, 152], []), (38, .bipush 45, 2, [], []), (40, .if_icmp .ne 61, 3, [101], []), (43, .aload_n 0, 1, [], []), (44, .getfield 20, 3, [5, 0, 3, 8, 0, 322], []), (47, .getfield 45, 3, [8, 2, 0, 0, 0, 152], []), (50, .istore_n 3, 1, [], []), (51, .aload_n 0, 1, [], []), (52, .getfield 20, 3, [5, 0, 3, 8, 0, 322], []), (55, .invokevirtual 123, 3, [1, 87, 1, 636, 0, 8], []), (58, .aload_n 0, 1, [], []), (59, .iload_n 1, 1, [], []), (60, .invokevirtual 231, 3, [1, 46, 2, 735, 0, 5], []), (63, .ifCond .ne 5, 3, [68], []), (66, .iconst 0, 1, [], []), (67, .ireturn, 1, [1], []), (68, .aload_n 0, 1, [], []), (69, .getfield 24, 3, [5, 2, 4, 4, 2, 324], []), (72, .getfield 219, 3, [4, 12, 3, 1, 0, 277], []), (75, .getfield 223, 3, [1, 0, 3, 3, 0, 218], []), (78, .iload_n 3, 1, [], []), (79, .bipush 43, 2, [], []), (81, .if_icmp .ne 8, 3, [89], []), (84, .bipush (-10), 2, [], []), (86, .goto 5, 3, [91], []), (89, .bipush (-11), 2, [], []), (91, .invokevirtual 192, 3, [1, 14, 2, 702, 0, 3], []), (94, .pop, 1, [], []), (95, .iinc 2 1, 3, [], []), (98, .goto (-86), 3, [12], []), (101, .iconst 1, 1, [], []), (102, .ireturn, 1, [1], [])]
def tb_X6_readProduct : ZT := [(0, .aload_n 0, 1, [], []), (1, .iload_n 1, 1, [], []), (2, .invokevirtual 234, 3, [1, 47, 2, 739, 0, 5], []), (5, .ifCond .ne 5, 3, [10], []), (8, .iconst 0, 1, [], []), (9, .ireturn, 1, [1], []), (10, .iconst 0, 1, [], []), (11, .istore_n 2, 1, [], []), (12, .iload_n 2, 1, [], []), (13, .sipush 1000, 3, [], []), (16, .if_icmp .ge 54, 3, [70], []), (19, .aload_n 0, 1, [], []), (20, .getfield 20, 3, [5, 0, 3, 8, 0, 322], []), (23, .getfield 45, 3, [8, 2, 0, 0, 0, 152], []), (26, .bipush 42, 2, [], []), (28, .if_icmp .ne 42, 3, [70], []), (31, .aload_n 0, 1, [], []), (32, .getfield 20, 3, [5, 0, 3, 8, 0, 322], []), (35, .invokevirtual 123, 3, [1, 87, 1, 636, 0, 8], []), (38, .aload_n 0, 1, [], []), (39, .iload_n 1, 1, [], []), (40, .invokevirtual 234, 3, [1, 47, 2, 739, 0, 5], []), (43, .ifCond .ne 5, 3, [48], []), (46, .iconst 0, 1, [], []), (47, .ireturn, 1, [1], []), (48, .aload_n 0, 1, [], []), (49, .getfield 24, 3, [5, 2, 4, 4, 2, 324], []), (52, .getfield 219, 3, [4, 12, 3, 1, 0, 277], []), (55, .getfield 223, 3, [1, 0, 3, 3, 0, 218], []), (58, .bipush (-12), 2, [], []), (60, .invokevirtual 192, 3, [1, 14, 2, 702, 0, 3], []), (63, .pop, 1, [], []), (64, .iinc 2 1, 3, [], []), (67, .goto (-55), 3, [12], []), (70, .iconst 1, 1, [], []), (71, .ireturn, 1, [1], [])]
def tb_X6_readPart : ZT := [(0, .aload_n 0, 1, [], []), (1, .getfield 20, 3, [5, 0, 3, 8, 0, 322], []), (4, .getfield 45, 3, [8, 2, 0, 0, 0, 152], []), (7, .istore_n 2, 1, [], []), (8, .aload_n 0, 1, [], []), (9, .getfield 20, 3, [5, 0, 3, 8, 0, 322], []), (12, .getfield 63, 3, [8, 6, 4, 12, 3, 160], []), (15, .astore_n 3, 1, [], []), (16, .aload_n 3, 1, [], []), (17, .invokestatic 237, 3, [0, 59, 1, 743, 0], []), (20, .istore 4, 2, [], []), (22, .iload_n 2, 1, [], []), (23, .iconst 2, 1, [], []), (24, .if_icmp .eq 27, 3, [51], []), (27, .iload_n 2, 1, [], []), (28, .bipush 40, 2, [], []), (30, .if_icmp .eq 21, 3, [51], []), (33, .aload_n 3, 1, [], []), (34, .getstatic 240, 3, [12, 23, 754], []), (37, .if_acmp .eq 14, 3, [51], []), (40, .iload 4, 2, [], []), (42, .ifCond .ne 9, 3, [51], []), (45, .aload_n 0, 1, [], []), (46, .iconst 1, 1, [], []), (47, .invokevirtual 67, 3, [1, 49, 2, 620, 0, 5], []), (50, .ireturn, 1, [1], []), (51, .iload_n 1, 1, [], []), (52, .iconst 5, 1, [], []), (53, .if_icmp .lt 9, 3, [62], []), (56, .aload_n 0, 1, [], []), (57, .iconst 5, 1, [], []), (58, .invokevirtual 67, 3, [1, 49, 2, 620, 0, 5], []), (61, .ireturn, 1, [1], []), (62, .aload_n 0, 1, [], []), (63, .getfield 20, 3, [5, 0, 3, 8, 0, 322], []), (66, .getfield 161, 3, [8, 4, 0, 0, 0, 156], []), (69, .istore 5, 2, [], []), (71, .aload_n 0, 1, [], []), (72, .getfield 20, 3, [5, 0, 3, 8, 0, 322], []), (75, .invokevirtual 123, 3, [1, 87, 1, 636, 0, 8], []), (78, .iload_n 2, 1, [], []), (79, .bipush 40, 2, [], []), (81, .if_icmp .ne 28, 3, [109], []), (84, .aload_n 0, 1, [], []), (85, .iload_n 1, 1, [], []), (86, .iconst 1, 1, [], []), (87, .iadd, 1, [], []), (88, .invokevirtual 117, 3, [1, 43, 2, 723, 0, 5], []), (91, .ifCond .eq 16, 3, [107], []), (94, .aload_n 0, 1, [], []), (95, .bipush 41, 2, [], []), (97, .invokevirtual 99, 3, [1, 51, 2, 680, 0, 5], []), (100, .ifCond .eq 7, 3, [107], []), (103, .iconst 1, 1, [], []), (104, .goto 4, 3, [108], []), (107, .iconst 0, 1, [], []), (108, .ireturn, 1, [1], []), (109, .aload_n 3, 1, [], []), (110, .getstatic 240, 3, [12, 23, 754], []), (113, .if_acmp .ne 37, 3, [150], []), (116, .aload_n 0, 1, [], []), (117, .iload_n 1, 1, [], []), (118, .iconst 1, 1, [], []), (119, .iadd, 1, [], []), (120, .invokevirtual 234, 3, [1, 47, 2, 739, 0, 5], []), (123, .ifCond .eq 25, 3, [148], []), (126, .aload_n 0, 1, [], []), (127, .getfield 24, 3, [5, 2, 4, 4, 2, 324], []), (130, .getfield 219, 3, [4, 12, 3, 1, 0, 277], []), (133, .getfield 223, 3, [1, 0, 3, 3, 0, 218], []), (136, .bipush (-5), 2, [], []), (138, .invokevirtual 192, 3, [1, 14, 2, 702, 0, 3], []), (141, .ifCond .eq 7, 3, [148], []), (144, .iconst 1, 1, [], []), (145, .goto 4, 3, [149], []), (148, .iconst 0, 1, [], []), (149, .ireturn, 1, [1], []), (150, .aload_n 0, 1, [], []), (151, .getfield 24, 3, [5, 2, 4, 4, 2, 324], []), (154, .getfield 219, 3, [4, 12, 3, 1, 0, 277], []), (157, .getfield 223, 3, [1, 0, 3, 3, 0, 218], []), (160, .iload_n 2, 1, [], []), (161, .iconst 2, 1, [], []), (162, .if_icmp .ne 8, 3, [170], []), (165, .iload 5, 2, [], []), (167, .goto 5, 3, [172], []), (170, .iload 4, 2, [], []), (172, .invokevirtual 192, 3, [1, 14, 2, 702, 0, 3], []), (175, .ireturn, 1, [1], [])]
def tb_X6_readDayLine : ZT := [(0, .aload_n 0, 1, [], []), (1, .getfield 20, 3, [5, 0, 3, 8, 0, 322], []), (4, .getfield 63, 3, [8, 6, 4, 12, 3, 160], []), (7, .invokestatic 243, 3, [0, 58, 1, 784, 0], []), (10, .istore_n 1, 1, [], []), (11, .iload_n 1, 1, [], []), (12, .iconst (-1), 1, [], []), (13, .if_icmp .ne 9, 3, [22], []), (16, .aload_n 0, 1, [], []), (17, .iconst 1, 1, [], []), (18, .invokevirtual 67, 3, [1, 49, 2, 620, 0, 5], []), (21, .ireturn, 1, [1], []), (22, .aload_n 0, 1, [], []), (23, .getfield 14, 3, [5, 1, 3, 3, 0, 323], []), (26, .getfield 53, 3, [3, 1, 0, 0, 0, 197], []), (29, .bipush 40, 2, [], []), (31, .if_icmp .lt 9, 3, [40], []), (34, .aload_n 0, 1, [], []), (35, .iconst 5, 1, [], []), (36, .invokevirtual 67, 3, [1, 49, 2, 620, 0, 5], []), (39, .ireturn, 1, [1], []), (40, .aload_n 0, 1, [], []), (41, .getfield 20, 3, [5, 0, 3, 8, 0, 322], []), (44, .invokevirtual 123, 3, [1, 87, 1, 636, 0, 8], []), (47, .aload_n 0, 1, [], []), (48, .iconst 0, 1, [], []), (49, .putfield 174, 3, [5, 5, 0, 0, 0, 327], []), (52, .aload_n 0, 1, [], []), (53, .iconst 0, 1, [], []), (54, .putfield 152, 3, [5, 4, 0, 0, 0, 326], []), (57, .iload_n 1, 1, [], []), (58, .iconst 4, 1, [], []), (59, .if_icmp .eq 19, 3, [78], []), (62, .aload_n 0, 1, [], []), (63, .invokevirtual 171, 3, [1, 56, 1, 688, 0, 5], []), (66, .ifCond .ne 5, 3, [71], []), (69, .iconst 0, 1, [], []), (70, .ireturn, 1, [1], []), (71, .aload_n 0, 1, [], []), (72, .getfield 20, 3, [5, 0, 3, 8, 0, 322], []), (75, .invokevirtual 123, 3, [1, 87, 1, 636, 0, 8], []), (78, .iload_n 1, 1, [], []), (79, .ifCond .ne 14, 3, [93], []), (82, .aload_n 0, 1, [], []), (83, .iconst 0, 1, [], []), (84, .iconst 4, 1, [], []), (85, .invokevirtual 148, 3, [1, 53, 3, 662, 0, 5], []), (88, .ifCond .ne 5, 3, [93], []), (91, .iconst 0, 1, [], []), (92, .ireturn, 1, [1], []), (93, .aload_n 0, 1, [], []), (94, .getfield 14, 3, [5, 1, 3, 3, 0, 323], []), (97, .iload_n 1, 1, [], []), (98, .bipush 100, 2, [], []), (100, .imul, 1, [], []), (101, .aload_n 0, 1, [], []), (102, .getfield 174, 3, [5, 5, 0, 0, 0, 327], []), (105, .bipush 10, 2, [], []), (107, .imul, 1, [], []), (108, .iadd, 1, [], []), (109, .aload_n 0, 1, [], []), (110, .getfield 152, 3, [5, 4, 0, 0, 0, 326], []), (113, .iadd, 1, [], []), (114, .invokevirtual 192, 3, [1, 14, 2, 702, 0, 3], []), (117, .pop, 1, [], []), (118, .aload_n 0, 1, [], []), (119, .bipush 59, 2, [], []), (121, .invokevirtual 99, 3, [1, 51, 2, 680, 0, 5], []), (124, .ireturn, 1, [1], [])]
def tb_X6_fail : ZT := [(0, .aload_n 0, 1, [], []), (1, .iload_n 1, 1, [], []), (2, .bipush 16, 2, [], []), (4, .aload_n 0, 1, [], []), (5, .getfield 20, 3, [5, 0, 3, 8, 0, 322], []), (8, .getfield 246, 3, [8, 3, 0, 0, 0, 155], []), (11, .imul, 1, [], []), (12, .iadd, 1, [], []), (13, .putfield 33, 3, [5, 3, 0, 0, 0, 325], []), (16, .iconst 0, 1, [], []), (17, .ireturn, 1, [1], [])]
def tb_X6_once : ZT := [(0, .aload_n 0, 1, [], []), (1, .getfield 37, 3, [5, 6, 0, 0, 0, 328], []), (4, .iload_n 1, 1, [], []), (5, .iand, 1, [], []), (6, .ifCond .eq 9, 3, [15], []), (9, .aload_n 0, 1, [], []), (10, .iconst 3, 1, [], []), (11, .invokevirtual 67, 3, [1, 49, 2, 620, 0, 5], []), (14, .ireturn, 1, [1], []), (15, .aload_n 0, 1, [], []), (16, .dup, 1, [], []), (17, .getfield 37, 3, [5, 6, 0, 0, 0, 328], []), (20, .iload_n 1, 1, [], []), (21, .ior, 1, [], []), (22, .putfield 37, 3, [5, 6, 0, 0, 0, 328], []), (25, .iload_n 1, 1, [], []), (26, .bipush 64, 2, [], []), (28, .if_icmp .ne 17, 3, [45], []), (31, .aload_n 0, 1, [], []), (32, .getfield 24, 3, [5, 2, 4, 4, 2, 324], []), (35, .getfield 219, 3, [4, 12, 3, 1, 0, 277], []), (38, .getfield 223, 3, [1, 0, 3, 3, 0, 218], []), (41, .iconst 0, 1, [], []), (42, .putfield 53, 3, [3, 1, 0, 0, 0, 197], []), (45, .aload_n 0, 1, [], []), (46, .getfield 20, 3, [5, 0, 3, 8, 0, 322], []), (49, .invokevirtual 123, 3, [1, 87, 1, 636, 0, 8], []), (52, .iconst 1, 1, [], []), (53, .ireturn, 1, [1], [])]
def tb_X6_passSign : ZT := [(0, .aload_n 0, 1, [], []), (1, .getfield 20, 3, [5, 0, 3, 8, 0, 322], []), (4, .getfield 45, 3, [8, 2, 0, 0, 0, 152], []), (7, .iload_n 1, 1, [], []), (8, .if_icmp .eq 9, 3, [17], []), (11, .aload_n 0, 1, [], []), (12, .iconst 1, 1, [], []), (13, .invokevirtual 67, 3, [1, 49, 2, 620, 0, 5], []), (16, .ireturn, 1, [1], []), (17, .aload_n 0, 1, [], []), (18, .getfield 20, 3, [5, 0, 3, 8, 0, 322], []), (21, .invokevirtual 123, 3, [1, 87, 1, 636, 0, 8], []), (24, .iconst 1, 1, [], []), (25, .ireturn, 1, [1], [])]
def tb_X6_passWord : ZT := [(0, .aload_n 0, 1, [], []), (1, .getfield 20, 3, [5, 0, 3, 8, 0, 322], []), (4, .getfield 63, 3, [8, 6, 4, 12, 3, 160], []), (7, .aload_n 1, 1, [], []), (8, .if_acmp .eq 9, 3, [17], []), (11, .aload_n 0, 1, [], []), (12, .iconst 1, 1, [], []), (13, .invokevirtual 67, 3, [1, 49, 2, 620, 0, 5], []), (16, .ireturn, 1, [1], []), (17, .aload_n 0, 1, [], []), (18, .getfield 20, 3, [5, 0, 3, 8, 0, 322], []), (21, .invokevirtual 123, 3, [1, 87, 1, 636, 0, 8], []), (24, .iconst 1, 1, [], []), (25, .ireturn, 1, [1], [])]
def tb_X6_passNumber : ZT := [(0, .aload_n 0, 1, [], []), (1, .iload_n 1, 1, [], []), (2, .iload_n 2, 1, [], []), (3, .invokevirtual 158, 3, [1, 54, 3, 666, 0, 5], []), (6, .ifCond .ne 5, 3, [11], []), (9, .iconst 0, 1, [], []), (10, .ireturn, 1, [1], []), (11, .aload_n 0, 1, [], []), (12, .aload_n 0, 1, [], []), (13, .getfield 20, 3, [5, 0, 3, 8, 0, 322], []), (16, .getfield 161, 3, [8, 4, 0, 0, 0, 156], []), (19, .putfield 152, 3, [5, 4, 0, 0, 0, 326], []), (22, .aload_n 0, 1, [], []), (23, .getfield 20, 3, [5, 0, 3, 8, 0, 322], []), (26, .invokevirtual 123, 3, [1, 87, 1, 636, 0, 8], []), (29, .iconst 1, 1, [], []), (30, .ireturn, 1, [1], [])]
def tb_X6_isNumber : ZT := [(0, .aload_n 0, 1, [], []), (1, .getfield 20, 3, [5, 0, 3, 8, 0, 322], []), (4, .getfield 45, 3, [8, 2, 0, 0, 0, 152], []), (7, .iconst 2, 1, [], []), (8, .if_icmp .eq 9, 3, [17], []), (11, .aload_n 0, 1, [], []), (12, .iconst 1, 1, [], []), (13, .invokevirtual 67, 3, [1, 49, 2, 620, 0, 5], []), (16, .ireturn, 1, [1], []), (17, .aload_n 0, 1, [], []), (18, .getfield 20, 3, [5, 0, 3, 8, 0, 322], []), (21, .getfield 161, 3, [8, 4, 0, 0, 0, 156], []), (24, .iload_n 1, 1, [], []), (25, .if_icmp .lt 14, 3, [39], []), (28, .aload_n 0, 1, [], []), (29, .getfield 20, 3, [5, 0, 3, 8, 0, 322], []), (32, .getfield 161, 3, [8, 4, 0, 0, 0, 156], []), (35, .iload_n 2, 1, [], []), (36, .if_icmp .le 11, 3, [47], []), (39, .aload_n 0, 1, [], []), (40, .iconst 4, 1, [], []), (41, .invokevirtual 67, 3, [1, 49, 2, 620, 0, 5], []), (44, .ifCond .eq 7, 3, [51], []), (47, .iconst 1, 1, [], []), (48, .goto 4, 3, [52], []), (51, .iconst 0, 1, [], []), (52, .ireturn, 1, [1], [])]
def tb_X6_isName : ZT := [(0, .aload_n 0, 1, [], []), (1, .getfield 20, 3, [5, 0, 3, 8, 0, 322], []), (4, .getfield 63, 3, [8, 6, 4, 12, 3, 160], []), (7, .astore_n 1, 1, [], []), (8, .aload_n 0, 1, [], []), (9, .getfield 20, 3, [5, 0, 3, 8, 0, 322], []), (12, .getfield 45, 3, [8, 2, 0, 0, 0, 152], []), (15, .iconst 1, 1, [], []), (16, .if_icmp .ne 18, 3, [34], []), (19, .aload_n 1, 1, [], []), (20, .ifnull 10, 3, [30], []), (23, .aload_n 1, 1, [], []), (24, .getfield 249, 3, [12, 0, 5, 0, 0, 1966], []), (27, .ifCond .eq 7, 3, [34], []), (30, .iconst 1, 1, [], []), (31, .goto 4, 3, [35], []), (34, .iconst 0, 1, [], []), (35, .ireturn, 1, [1], [])]
def tb_X6_isTurbine : ZT := [(0, .aload_n 0, 1, [], []), (1, .invokevirtual 126, 3, [1, 55, 1, 637, 0, 5], []), (4, .ifCond .ne 9, 3, [13], []), (7, .aload_n 0, 1, [], []), (8, .iconst 1, 1, [], []), (9, .invokevirtual 67, 3, [1, 49, 2, 620, 0, 5], []), (12, .ireturn, 1, [1], []), (13, .aload_n 0, 1, [], []), (14, .aload_n 0, 1, [], []), (15, .getfield 24, 3, [5, 2, 4, 4, 2, 324], []), (18, .aload_n 0, 1, [], []), (19, .getfield 20, 3, [5, 0, 3, 8, 0, 322], []), (22, .getfield 129, 3, [8, 5, 2, 0, 0, 158], []), (25, .invokevirtual 133, 3, [1, 21, 2, 641, 0, 4], []), (28, .putfield 174, 3, [5, 5, 0, 0, 0, 327], []), (31, .aload_n 0, 1, [], []), (32, .getfield 174, 3, [5, 5, 0, 0, 0, 327], []), (35, .iconst (-1), 1, [], []), (36, .if_icmp .ne 11, 3, [47], []), (39, .aload_n 0, 1, [], []), (40, .iconst 2, 1, [], []), (41, .invokevirtual 67, 3, [1, 49, 2, 620, 0, 5], []), (44, .ifCond .eq 7, 3, [51], []), (47, .iconst 1, 1, [], []), (48, .goto 4, 3, [52], []), (51, .iconst 0, 1, [], []), (52, .ireturn, 1, [1], [])]
def tb_X6_kindOf : ZT := [(0, .aload_n 0, 1, [], []), (1, .getstatic 253, 3, [12, 19, 648], []), (4, .if_acmp .ne 5, 3, [9], []), (7, .iconst 0, 1, [], []), (8, .ireturn, 1, [], []), (9, .aload_n 0, 1, [], []), (10, .getstatic 256, 3, [12, 20, 650], []), (13, .if_acmp .ne 5, 3, [18], []), (16, .iconst 1, 1, [], []), (17, .ireturn, 1, [], []), (18, .aload_n 0, 1, [], []), (19, .getstatic 259, 3, [12, 21, 652], []), (22, .if_acmp .ne 5, 3, [27], []), (25, .iconst 2, 1, [], []), (26, .ireturn, 1, [], []), (27, .aload_n 0, 1, [], []), (28, .getstatic 262, 3, [12, 22, 654], []), (31, .if_acmp .ne 7, 3, [38], []), (34, .iconst 3, 1, [], []), (35, .goto 4, 3, [39], []), (38, .iconst (-1), 1, [], []), (39, .ireturn, 1, [], [])]
def tb_X6_deedOf : ZT := [(0, .aload_n 0, 1, [], []), (1, .getstatic 265, 3, [12, 14, 787], []), (4, .if_acmp .ne 5, 3, [9], []), (7, .iconst 0, 1, [], []), (8, .ireturn, 1, [], []), (9, .aload_n 0, 1, [], []), (10, .getstatic 268, 3, [12, 15, 789], []), (13, .if_acmp .ne 5, 3, [18], []), (16, .iconst 1, 1, [], []), (17, .ireturn, 1, [], []), (18, .aload_n 0, 1, [], []), (19, .getstatic 271, 3, [12, 16, 791], []), (22, .if_acmp .ne 5, 3, [27], []), (25, .iconst 2, 1, [], []), (26, .ireturn, 1, [], []), (27, .aload_n 0, 1, [], []), (28, .getstatic 274, 3, [12, 17, 793], []), (31, .if_acmp .ne 5, 3, [36], []), (34, .iconst 3, 1, [], []), (35, .ireturn, 1, [], []), (36, .aload_n 0, 1, [], []), (37, .getstatic 277, 3, [12, 18, 795], []), (40, .if_acmp .ne 7, 3, [47], []), (43, .iconst 4, 1, [], []), (44, .goto 4, 3, [48], []), (47, .iconst (-1), 1, [], []), (48, .ireturn, 1, [], [])]
def tb_X6_factOf : ZT := [(0, .aload_n 0, 1, [], []), (1, .getstatic 280, 3, [12, 26, 746], []), (4, .if_acmp .ne 5, 3, [9], []), (7, .iconst (-1), 1, [], []), (8, .ireturn, 1, [], []), (9, .aload_n 0, 1, [], []), (10, .getstatic 283, 3, [12, 27, 748], []), (13, .if_acmp .ne 6, 3, [19], []), (16, .bipush (-2), 2, [], []), (18, .ireturn, 1, [], []), (19, .aload_n 0, 1, [], []), (20, .getstatic 286, 3, [12, 28, 750], []), (23, .if_acmp .ne 6, 3, [29], []), (26, .bipush (-3), 2, [], []), (28, .ireturn, 1, [], []), (29, .aload_n 0, 1, [], []), (30, .getstatic 289, 3, [12, 29, 752], []), (33, .if_acmp .ne 8, 3, [41], []), (36, .bipush (-4), 2, [], []), (38, .goto 4, 3, [42], []), (41, .iconst 0, 1, [], []), (42, .ireturn, 1, [], [])]
def tb_X7_init : ZT := [(0, .aload_n 0, 1, [], []), (1, .invokespecial 3, 3, [2, 0, 1, 500], []), (4, .aload_n 0, 1, [], []), (5, .bipush 6, 2, [], []), (7, .newarray .int, 2, [33], []), (9, .putfield 9, 3, [6, 0, 3, 33, 0, 501], []), (12, .aload_n 0, 1, [], []), (13, .sipush 180, 3, [], []), (16, .newarray .int, 2, [34], []), (18, .putfield 15, 3, [6, 3, 3, 34, 0, 506], []), (21, .aload_n 0, 1, [], []), (22, .sipush 300, 3, [], []), (25, .newarray .int, 2, [35], []), (27, .putfield 18, 3, [6, 4, 3, 35, 0, 507], []), (30, .aload_n 0, 1, [], []), (31, .bipush 30, 2, [], []), (33, .newarray .int, 2, [36], []), (35, .putfield 21, 3, [6, 5, 3, 36, 0, 508], []), (38, .aload_n 0, 1, [], []), (39, .bipush 6, 2, [], []), (41, .newarray .int, 2, [37], []), (43, .putfield 24, 3, [6, 6, 3, 37, 0, 509], []), (46, .aload_n 0, 1, [], []), (47, .bipush 6, 2, [], []), (49, .newarray .int, 2, [38], []), (51, .putfield 27, 3, [6, 7, 3, 38, 0, 510], []), (54, .aload_n 0, 1, [], []), (55, .bipush 42, 2, [], []), (57, .newarray .int, 2, [39], []), (59, .putfield 30, 3, [6, 8, 3, 39, 0, 511], []), (62, .return_, 1, [], [])]
def tb_X7_seek : ZT := [(0, .iconst 0, 1, [], []), (1, .istore 5, 2, [], []), (3, .iload 5, 2, [], []), (5, .aload_n 1, 1, [], []), (6, .getfield 33, 3, [4, 0, 0, 0, 0, 237], []), (9, .if_icmp .ge 75, 3, [84], []), (12, .aload_n 0, 1, [], []), (13, .aload_n 1, 1, [], []), (14, .aload_n 2, 1, [], []), (15, .iload 5, 2, [], []), (17, .invokevirtual 39, 3, [1, 62, 4, 1025, 0, 6], []), (20, .iload 4, 2, [], []), (22, .ifCond .eq 15, 3, [37], []), (25, .aload_n 1, 1, [], []), (26, .getfield 43, 3, [4, 3, 3, 29, 0, 247], []), (29, .iload 5, 2, [], []), (31, .iaload, 1, [], []), (32, .iload 4, 2, [], []), (34, .if_icmp .ne 7, 3, [41], []), (37, .iconst 1, 1, [], []), (38, .goto 4, 3, [42], []), (41, .iconst 0, 1, [], []), (42, .istore 6, 2, [], []), (44, .aload_n 0, 1, [], []), (45, .iload 5, 2, [], []), (47, .aload_n 1, 1, [], []), (48, .getfield 33, 3, [4, 0, 0, 0, 0, 237], []), (51, .iload 6, 2, [], []), (53, .ifCond .eq 7, 3, [60], []), (56, .iconst (-1), 1, [], []), (57, .goto 10, 3, [67], []), (60, .aload_n 2, 1, [], []), (61, .getfield 46, 3, [7, 0, 3, 40, 0, 351], []), (64, .iload 5, 2, [], []), (66, .iaload, 1, [], []), (67, .invokevirtual 51, 3, [1, 63, 4, 1034, 0, 6], []), (70, .aload_n 0, 1, [], []), (71, .getfield 27, 3, [6, 7, 3, 38, 0, 510], []), (74, .iload 5, 2, [], []), (76, .iconst 0, 1, [], []), (77, .iastore, 1, [], []), (78, .iinc 5 1, 3, [], []), (81, .goto (-78), 3, [3], []), (84, .aload_n 0, 1, [], []), (85, .iconst 0, 1, [], []), (86, .aload_n 1, 1, [], []), (87, .getfield 33, 3, [4, 0, 0, 0, 0, 237], []), (90, .invokevirtual 55, 3, [1, 69, 3, 1046, 0, 6], []), (93, .aload_n 1, 1, [], []), (94, .aload_n 2, 1, [], []), (95, .getfield 59, 3, [7, 4, 0, 0, 0, 364], []), (98, .invokevirtual 62, 3, [1, 23, 2, 1054, 0, 4], []), (101, .istore 5, 2, [], []), (103, .iconst 0, 1, [], []), (104, .istore 6, 2, [], []), (106, .iload 6, 2, [], []), (108, .sipush 15625, 3, [], []), (111, .if_icmp .ge 88, 3, [199], []), (114, .iload 4, 2, [], []), (116, .ifCond .ne 14, 3, [130], []), (119, .aload_n 0, 1, [], []), (120, .aload_n 1, 1, [], []), (121, .aload_n 3, 1, [], []), (122, .iload 5, 2, [], []), (124, .invokevirtual 66, 3, [1, 71, 4, 1055, 0, 6], []), (127, .goto 10, 3, [137], []), (130, .aload_n 0, 1, [], []), (131, .aload_n 1, 1, [], []), (132, .iload 4, 2, [], []), (134, .invokevirtual 70, 3, [1, 72, 3, 1065, 0, 6], []), (137, .istore 7, 2, [], []), (139, .iload 6, 2, [], []), (141, .ifCond .eq 12, 3, [153], []), (144, .iload 7, 2, [], []), (146, .aload_n 0, 1, [], []), (147, .getfield 74, 3, [6, 1, 0, 0, 0, 503], []), (150, .if_icmp .le 17, 3, [167], []), (153, .aload_n 0, 1, [], []), (154, .iload 7, 2, [], []), (156, .putfield 74, 3, [6, 1, 0, 0, 0, 503], []), (159, .aload_n 0, 1, [], []), (160, .aload_n 1, 1, [], []), (161, .getfield 33, 3, [4, 0, 0, 0, 0, 237], []), (164, .invokevirtual 77, 3, [1, 67, 2, 1069, 0, 6], []), (167, .aload_n 0, 1, [], []), (168, .aload_n 1, 1, [], []), (169, .getfield 33, 3, [4, 0, 0, 0, 0, 237], []), (172, .invokevirtual 81, 3, [1, 68, 2, 1073, 0, 6], []), (175, .istore 8, 2, [], []), (177, .iload 8, 2, [], []), (179, .ifCond .ge 4, 3, [183], []), (182, .return_, 1, [], []), (183, .aload_n 0, 1, [], []), (184, .iload 8, 2, [], []), (186, .aload_n 1, 1, [], []), (187, .getfield 33, 3, [4, 0, 0, 0, 0, 237], []), (190, .invokevirtual 55, 3, [1, 69, 3, 1046, 0, 6], []), (193, .iinc 6 1, 3, [], []), (196, .goto (-90), 3, [106], []), (199, .return_, 1, [], [])]
def tb_X7_foresee : ZT := [(0, .aload_n 1, 1, [], []), (1, .getfield 84, 3, [4, 8, 3, 3, 0, 264], []), (4, .aload_n 2, 1, [], []), (5, .getfield 59, 3, [7, 4, 0, 0, 0, 364], []), (8, .invokevirtual 88, 3, [1, 16, 2, 1029, 0, 3], []), (11, .istore 4, 2, [], []), (13, .aload_n 1, 1, [], []), (14, .getfield 93, 3, [4, 9, 3, 3, 0, 269], []), (17, .aload_n 2, 1, [], []), (18, .getfield 59, 3, [7, 4, 0, 0, 0, 364], []), (21, .invokevirtual 88, 3, [1, 16, 2, 1029, 0, 3], []), (24, .istore 5, 2, [], []), (26, .aload_n 2, 1, [], []), (27, .iload_n 3, 1, [], []), (28, .invokevirtual 96, 3, [1, 79, 2, 1030, 0, 7], []), (31, .istore 6, 2, [], []), (33, .iconst 0, 1, [], []), (34, .istore 7, 2, [], []), (36, .iload 7, 2, [], []), (38, .iconst 5, 1, [], []), (39, .if_icmp .ge 151, 3, [190], []), (42, .iload_n 3, 1, [], []), (43, .iconst 5, 1, [], []), (44, .imul, 1, [], []), (45, .iload 7, 2, [], []), (47, .iadd, 1, [], []), (48, .istore 8, 2, [], []), (50, .iconst 0, 1, [], []), (51, .istore 9, 2, [], []), (53, .iload 9, 2, [], []), (55, .aload_n 1, 1, [], []), (56, .getfield 33, 3, [4, 0, 0, 0, 0, 237], []), (59, .if_icmp .ge 60, 3, [119], []), (62, .iload 6, 2, [], []), (64, .ifCond .eq 13, 3, [77], []), (67, .iload 9, 2, [], []), (69, .iload_n 3, 1, [], []), (70, .if_icmp .eq 7, 3, [77], []), (73, .iconst 1, 1, [], []), (74, .goto 4, 3, [78], []), (77, .iconst 0, 1, [], []), (78, .istore 10, 2, [], []), (80, .aload_n 0, 1, [], []), (81, .getfield 15, 3, [6, 3, 3, 34, 0, 506], []), (84, .iload 8, 2, [], []), (86, .bipush 6, 2, [], []), (88, .imul, 1, [], []), (89, .iload 9, 2, [], []), (91, .iadd, 1, [], []), (92, .iload 10, 2, [], []), (94, .ifCond .eq 17, 3, [111], []), (97, .aload_n 1, 1, [], []), (98, .iload_n 3, 1, [], []), (99, .iload 7, 2, [], []), (101, .iload 9, 2, [], []), (103, .iload 5, 2, [], []), (105, .invokevirtual 100, 3, [1, 25, 5, 1031, 0, 4], []), (108, .goto 4, 3, [112], []), (111, .iconst 0, 1, [], []), (112, .iastore, 1, [], []), (113, .iinc 9 1, 3, [], []), (116, .goto (-63), 3, [53], []), (119, .iconst 0, 1, [], []), (120, .istore 9, 2, [], []), (122, .iload 9, 2, [], []), (124, .bipush 10, 2, [], []), (126, .if_icmp .ge 58, 3, [184], []), (129, .iload 4, 2, [], []), (131, .iload 9, 2, [], []), (133, .invokestatic 103, 3, [0, 29, 2, 1032, 0], []), (136, .istore 10, 2, [], []), (138, .aload_n 0, 1, [], []), (139, .getfield 18, 3, [6, 4, 3, 35, 0, 507], []), (142, .iload 8, 2, [], []), (144, .bipush 10, 2, [], []), (146, .imul, 1, [], []), (147, .iload 9, 2, [], []), (149, .iadd, 1, [], []), (150, .iload 6, 2, [], []), (152, .ifCond .eq 24, 3, [176], []), (155, .aload_n 1, 1, [], []), (156, .iload 10, 2, [], []), (158, .aload_n 2, 1, [], []), (159, .getfield 107, 3, [7, 1, 3, 41, 0, 355], []), (162, .iload_n 3, 1, [], []), (163, .iaload, 1, [], []), (164, .iload 7, 2, [], []), (166, .aload_n 2, 1, [], []), (167, .getfield 59, 3, [7, 4, 0, 0, 0, 364], []), (170, .invokevirtual 110, 3, [1, 27, 5, 1033, 0, 4], []), (173, .goto 4, 3, [177], []), (176, .iconst 0, 1, [], []), (177, .iastore, 1, [], []), (178, .iinc 9 1, 3, [], []), (181, .goto (-59), 3, [122], []), (184, .iinc 7 1, 3, [], []), (187, .goto (-151), 3, [36], []), (190, .return_, 1, [], [])]
def tb_X7_listTries : ZT := [(0, .iload_n 1, 1, [], []), (1, .iconst 5, 1, [], []), (2, .imul, 1, [], []), (3, .istore 4, 2, [], []), (5, .aload_n 0, 1, [], []), (6, .getfield 24, 3, [6, 6, 3, 37, 0, 509], []), (9, .iload_n 1, 1, [], []), (10, .iconst 0, 1, [], []), (11, .iastore, 1, [], []), (12, .iconst 0, 1, [], []), (13, .istore 5, 2, [], []), (15, .iload 5, 2, [], []), (17, .iconst 5, 1, [], []), (18, .if_icmp .ge 60, 3, [78], []), (21, .iload_n 3, 1, [], []), (22, .iconst (-1), 1, [], []), (23, .if_icmp .ne 17, 3, [40], []), (26, .aload_n 0, 1, [], []), (27, .iload_n 1, 1, [], []), (28, .iload 5, 2, [], []), (30, .iload_n 2, 1, [], []), (31, .invokevirtual 113, 3, [1, 64, 4, 1038, 0, 6], []), (34, .ifCond .eq 38, 3, [72], []), (37, .goto 9, 3, [46], []), (40, .iload 5, 2, [], []), (42, .iload_n 3, 1, [], []), (43, .if_icmp .ne 29, 3, [72], []), (46, .aload_n 0, 1, [], []), (47, .getfield 21, 3, [6, 5, 3, 36, 0, 508], []), (50, .iload 4, 2, [], []), (52, .aload_n 0, 1, [], []), (53, .getfield 24, 3, [6, 6, 3, 37, 0, 509], []), (56, .iload_n 1, 1, [], []), (57, .iaload, 1, [], []), (58, .iadd, 1, [], []), (59, .iload 5, 2, [], []), (61, .iastore, 1, [], []), (62, .aload_n 0, 1, [], []), (63, .getfield 24, 3, [6, 6, 3, 37, 0, 509], []), (66, .iload_n 1, 1, [], []), (67, .dup2, 1, [], []), (68, .iaload, 1, [], []), (69, .iconst 1, 1, [], []), (70, .iadd, 1, [], []), (71, .iastore, 1, [], []), (72, .iinc 5 1, 3, [], []), (75, .goto (-60), 3, [15], []), (78, .return_, 1, [], [])]
def tb_X7_isNew : ZT := [(0, .iconst 0, 1, [], []), (1, .istore 4, 2, [], []), (3, .iload 4, 2, [], []), (5, .iload_n 2, 1, [], []), (6, .if_icmp .ge 30, 3, [36], []), (9, .aload_n 0, 1, [], []), (10, .iload_n 1, 1, [], []), (11, .iconst 5, 1, [], []), (12, .imul, 1, [], []), (13, .iload 4, 2, [], []), (15, .iadd, 1, [], []), (16, .iload_n 1, 1, [], []), (17, .iconst 5, 1, [], []), (18, .imul, 1, [], []), (19, .iload_n 2, 1, [], []), (20, .iadd, 1, [], []), (21, .iload_n 3, 1, [], []), (22, .invokevirtual 117, 3, [1, 65, 4, 1042, 0, 6], []), (25, .ifCond .eq 5, 3, [30], []), (28, .iconst 0, 1, [], []), (29, .ireturn, 1, [1], []), (30, .iinc 4 1, 3, [], []), (33, .goto (-30), 3, [3], []), (36, .iconst 1, 1, [], []), (37, .ireturn, 1, [1], [])]
def tb_X7_isAlike : ZT := [(0, .iconst 0, 1, [], []), (1, .istore 4, 2, [], []), (3, .iload 4, 2, [], []), (5, .iload_n 3, 1, [], []), (6, .if_icmp .ge 38, 3, [44], []), (9, .aload_n 0, 1, [], []), (10, .getfield 15, 3, [6, 3, 3, 34, 0, 506], []), (13, .iload_n 1, 1, [], []), (14, .bipush 6, 2, [], []), (16, .imul, 1, [], []), (17, .iload 4, 2, [], []), (19, .iadd, 1, [], []), (20, .iaload, 1, [], []), (21, .aload_n 0, 1, [], []), (22, .getfield 15, 3, [6, 3, 3, 34, 0, 506], []), (25, .iload_n 2, 1, [], []), (26, .bipush 6, 2, [], []), (28, .imul, 1, [], []), (29, .iload 4, 2, [], []), (31, .iadd, 1, [], []), (32, .iaload, 1, [], []), (33, .if_icmp .eq 5, 3, [38], []), (36, .iconst 0, 1, [], []), (37, .ireturn, 1, [1], []), (38, .iinc 4 1, 3, [], []), (41, .goto (-38), 3, [3], []), (44, .iconst 0, 1, [], []), (45, .istore 4, 2, [], []), (47, .iload 4, 2, [], []), (49, .bipush 10, 2, [], []), (51, .if_icmp .ge 38, 3, [89], []), (54, .aload_n 0, 1, [], []), (55, .getfield 18, 3, [6, 4, 3, 35, 0, 507], []), (58, .iload_n 1, 1, [], []), (59, .bipush 10, 2, [], []), (61, .imul, 1, [], []), (62, .iload 4, 2, [], []), (64, .iadd, 1, [], []), (65, .iaload, 1, [], []), (66, .aload_n 0, 1, [], []), (67, .getfield 18, 3, [6, 4, 3, 35, 0, 507], []), (70, .iload_n 2, 1, [], []), (71, .bipush 10, 2, [], []), (73, .imul, 1, [], []), (74, .iload 4, 2, [], []), (76, .iadd, 1, [], []), (77, .iaload, 1, [], []), (78, .if_icmp .eq 5, 3, [83], []), (81, .iconst 0, 1, [], []), (82, .ireturn, 1, [1], []), (83, .iinc 4 1, 3, [], []), (86, .goto (-39), 3, [47], []), (89, .iconst 1, 1, [], []), (90, .ireturn, 1, [1], [])]
def tb_X7_angleOf : ZT := [(0, .aload_n 0, 1, [], []), (1, .getfield 21, 3, [6, 5, 3, 36, 0, 508], []), (4, .iload_n 1, 1, [], []), (5, .iconst 5, 1, [], []), (6, .imul, 1, [], []), (7, .aload_n 0, 1, [], []), (8, .getfield 27, 3, [6, 7, 3, 38, 0, 510], []), (11, .iload_n 1, 1, [], []), (12, .iaload, 1, [], []), (13, .iadd, 1, [], []), (14, .iaload, 1, [], []), (15, .ireturn, 1, [], [])]
def tb_X7_keepRow : ZT := [(0, .iconst 0, 1, [], []), (1, .istore_n 2, 1, [], []), (2, .iload_n 2, 1, [], []), (3, .iload_n 1, 1, [], []), (4, .if_icmp .ge 20, 3, [24], []), (7, .aload_n 0, 1, [], []), (8, .getfield 9, 3, [6, 0, 3, 33, 0, 501], []), (11, .iload_n 2, 1, [], []), (12, .aload_n 0, 1, [], []), (13, .iload_n 2, 1, [], []), (14, .invokevirtual 120, 3, [1, 66, 2, 1050, 0, 6], []), (17, .iastore, 1, [], []), (18, .iinc 2 1, 3, [], []), (21, .goto (-19), 3, [2], []), (24, .return_, 1, [], [])]
def tb_X7_next : ZT := [(0, .iload_n 1, 1, [], []), (1, .iconst 1, 1, [], []), (2, .isub, 1, [], []), (3, .istore_n 2, 1, [], []), (4, .iload_n 2, 1, [], []), (5, .ifCond .lt 45, 3, [50], []), (8, .aload_n 0, 1, [], []), (9, .getfield 27, 3, [6, 7, 3, 38, 0, 510], []), (12, .iload_n 2, 1, [], []), (13, .iaload, 1, [], []), (14, .iconst 1, 1, [], []), (15, .iadd, 1, [], []), (16, .aload_n 0, 1, [], []), (17, .getfield 24, 3, [6, 6, 3, 37, 0, 509], []), (20, .iload_n 2, 1, [], []), (21, .iaload, 1, [], []), (22, .if_icmp .ge 15, 3, [37], []), (25, .aload_n 0, 1, [], []), (26, .getfield 27, 3, [6, 7, 3, 38, 0, 510], []), (29, .iload_n 2, 1, [], []), (30, .dup2, 1, [], []), (31, .iaload, 1, [], []), (32, .iconst 1, 1, [], []), (33, .iadd, 1, [], []), (34, .iastore, 1, [], []), (35, .iload_n 2, 1, [], []), (36, .ireturn, 1, [], []), (37, .aload_n 0, 1, [], []), (38, .getfield 27, 3, [6, 7, 3, 38, 0, 510], []), (41, .iload_n 2, 1, [], []), (42, .iconst 0, 1, [], []), (43, .iastore, 1, [], []), (44, .iinc 2 (-1), 3, [], []), (47, .goto (-43), 3, [4], []), (50, .iconst (-1), 1, [], []), (51, .ireturn, 1, [], [])]
def tb_X7_addFrom : ZT := [(0, .iload_n 1, 1, [], []), (1, .istore_n 3, 1, [], []), (2, .iload_n 3, 1, [], []), (3, .iload_n 2, 1, [], []), (4, .if_icmp .ge 75, 3, [79], []), (7, .iload_n 3, 1, [], []), (8, .iconst 5, 1, [], []), (9, .imul, 1, [], []), (10, .aload_n 0, 1, [], []), (11, .iload_n 3, 1, [], []), (12, .invokevirtual 120, 3, [1, 66, 2, 1050, 0, 6], []), (15, .iadd, 1, [], []), (16, .bipush 6, 2, [], []), (18, .imul, 1, [], []), (19, .istore 4, 2, [], []), (21, .iconst 0, 1, [], []), (22, .istore 5, 2, [], []), (24, .iload 5, 2, [], []), (26, .iload_n 2, 1, [], []), (27, .if_icmp .ge 46, 3, [73], []), (30, .aload_n 0, 1, [], []), (31, .getfield 30, 3, [6, 8, 3, 39, 0, 511], []), (34, .iload_n 3, 1, [], []), (35, .iconst 1, 1, [], []), (36, .iadd, 1, [], []), (37, .bipush 6, 2, [], []), (39, .imul, 1, [], []), (40, .iload 5, 2, [], []), (42, .iadd, 1, [], []), (43, .aload_n 0, 1, [], []), (44, .getfield 30, 3, [6, 8, 3, 39, 0, 511], []), (47, .iload_n 3, 1, [], []), (48, .bipush 6, 2, [], []), (50, .imul, 1, [], []), (51, .iload 5, 2, [], []), (53, .iadd, 1, [], []), (54, .iaload, 1, [], []), (55, .aload_n 0, 1, [], []), (56, .getfield 15, 3, [6, 3, 3, 34, 0, 506], []), (59, .iload 4, 2, [], []), (61, .iload 5, 2, [], []), (63, .iadd, 1, [], []), (64, .iaload, 1, [], []), (65, .iadd, 1, [], []), (66, .iastore, 1, [], []), (67, .iinc 5 1, 3, [], []), (70, .goto (-46), 3, [24], []), (73, .iinc 3 1, 3, [], []), (76, .goto (-74), 3, [2], []), (79, .return_, 1, [], [])]
def tb_X7_giftOf : ZT := [(0, .aload_n 1, 1, [], []), (1, .iload_n 2, 1, [], []), (2, .aload_n 0, 1, [], []), (3, .getfield 30, 3, [6, 8, 3, 39, 0, 511], []), (6, .aload_n 1, 1, [], []), (7, .getfield 33, 3, [4, 0, 0, 0, 0, 237], []), (10, .bipush 6, 2, [], []), (12, .imul, 1, [], []), (13, .iload_n 2, 1, [], []), (14, .iadd, 1, [], []), (15, .iaload, 1, [], []), (16, .invokevirtual 123, 3, [1, 26, 3, 1063, 0, 4], []), (19, .istore_n 3, 1, [], []), (20, .aload_n 0, 1, [], []), (21, .getfield 18, 3, [6, 4, 3, 35, 0, 507], []), (24, .iload_n 2, 1, [], []), (25, .iconst 5, 1, [], []), (26, .imul, 1, [], []), (27, .aload_n 0, 1, [], []), (28, .iload_n 2, 1, [], []), (29, .invokevirtual 120, 3, [1, 66, 2, 1050, 0, 6], []), (32, .iadd, 1, [], []), (33, .bipush 10, 2, [], []), (35, .imul, 1, [], []), (36, .iload_n 3, 1, [], []), (37, .iadd, 1, [], []), (38, .iaload, 1, [], []), (39, .ireturn, 1, [], [])]
def tb_X7_sale : ZT := [(0, .iconst 0, 1, [], []), (1, .istore 4, 2, [], []), (3, .iload 4, 2, [], []), (5, .aload_n 1, 1, [], []), (6, .getfield 33, 3, [4, 0, 0, 0, 0, 237], []), (9, .if_icmp .ge 23, 3, [32], []), (12, .aload_n 2, 1, [], []), (13, .getfield 126, 3, [0, 2, 3, 22, 0, 400], []), (16, .iload 4, 2, [], []), (18, .aload_n 0, 1, [], []), (19, .aload_n 1, 1, [], []), (20, .iload 4, 2, [], []), (22, .invokevirtual 131, 3, [1, 70, 3, 1059, 0, 6], []), (25, .iastore, 1, [], []), (26, .iinc 4 1, 3, [], []), (29, .goto (-26), 3, [3], []), (32, .aload_n 2, 1, [], []), (33, .aload_n 1, 1, [], []), (34, .iconst (-1), 1, [], []), (35, .invokevirtual 134, 3, [1, 4, 3, 1064, 0, 0], []), (38, .aload_n 2, 1, [], []), (39, .getfield 138, 3, [0, 6, 0, 0, 0, 408], []), (42, .iload_n 3, 1, [], []), (43, .imul, 1, [], []), (44, .ireturn, 1, [], [])]
def tb_X7_share : ZT := [(0, .iconst 0, 1, [], []), (1, .istore_n 3, 1, [], []), (2, .iconst 0, 1, [], []), (3, .istore 4, 2, [], []), (5, .iload 4, 2, [], []), (7, .aload_n 1, 1, [], []), (8, .getfield 33, 3, [4, 0, 0, 0, 0, 237], []), (11, .if_icmp .ge 30, 3, [41], []), (14, .aload_n 1, 1, [], []), (15, .getfield 43, 3, [4, 3, 3, 29, 0, 247], []), (18, .iload 4, 2, [], []), (20, .iaload, 1, [], []), (21, .iload_n 2, 1, [], []), (22, .if_icmp .ne 13, 3, [35], []), (25, .iload_n 3, 1, [], []), (26, .aload_n 0, 1, [], []), (27, .aload_n 1, 1, [], []), (28, .iload 4, 2, [], []), (30, .invokevirtual 131, 3, [1, 70, 3, 1059, 0, 6], []), (33, .iadd, 1, [], []), (34, .istore_n 3, 1, [], []), (35, .iinc 4 1, 3, [], []), (38, .goto (-33), 3, [5], []), (41, .iload_n 3, 1, [], []), (42, .ireturn, 1, [], [])]
def tb_X8_init : ZT := [(0, .aload_n 0, 1, [], []), (1, .invokespecial 3, 3, [2, 0, 1, 349], []), (4, .aload_n 0, 1, [], []), (5, .bipush 6, 2, [], []), (7, .newarray .int, 2, [40], []), (9, .putfield 9, 3, [7, 0, 3, 40, 0, 350], []), (12, .aload_n 0, 1, [], []), (13, .bipush 6, 2, [], []), (15, .newarray .int, 2, [41], []), (17, .putfield 15, 3, [7, 1, 3, 41, 0, 354], []), (20, .return_, 1, [], [])]
def tb_X8_begin : ZT := [(0, .aload_n 0, 1, [], []), (1, .getfield 9, 3, [7, 0, 3, 40, 0, 350], []), (4, .iconst 2, 1, [], []), (5, .invokestatic 18, 3, [0, 263, 2, 463, 0], []), (8, .aload_n 0, 1, [], []), (9, .getfield 15, 3, [7, 1, 3, 41, 0, 354], []), (12, .iconst 0, 1, [], []), (13, .invokestatic 18, 3, [0, 263, 2, 463, 0], []), (16, .aload_n 0, 1, [], []), (17, .aload_n 0, 1, [], []), (18, .aload_n 1, 1, [], []), (19, .invokevirtual 24, 3, [1, 76, 2, 466, 0, 7], []), (22, .putfield 28, 3, [7, 2, 0, 0, 0, 358], []), (25, .aload_n 0, 1, [], []), (26, .iconst 0, 1, [], []), (27, .putfield 32, 3, [7, 3, 0, 0, 0, 360], []), (30, .aload_n 0, 1, [], []), (31, .iconst 0, 1, [], []), (32, .putfield 35, 3, [7, 4, 0, 0, 0, 363], []), (35, .aload_n 0, 1, [], []), (36, .iconst 0, 1, [], []), (37, .putfield 38, 3, [7, 5, 0, 0, 0, 366], []), (40, .return_, 1, [], [])]
def tb_X8_copy : ZT := [(0, .aload_n 1, 1, [], []), (1, .getfield 9, 3, [7, 0, 3, 40, 0, 350], []), (4, .iconst 0, 1, [], []), (5, .aload_n 0, 1, [], []), (6, .getfield 9, 3, [7, 0, 3, 40, 0, 350], []), (9, .iconst 0, 1, [], []), (10, .bipush 6, 2, [], []), (12, .invokestatic 41, 3, [3, 0, 5, 935], []), (15, .aload_n 1, 1, [], []), (16, .getfield 15, 3, [7, 1, 3, 41, 0, 354], []), (19, .iconst 0, 1, [], []), (20, .aload_n 0, 1, [], []), (21, .getfield 15, 3, [7, 1, 3, 41, 0, 354], []), (24, .iconst 0, 1, [], []), (25, .bipush 6, 2, [], []), (27, .invokestatic 41, 3, [3, 0, 5, 935], []), (30, .aload_n 0, 1, [], []), (31, .aload_n 1, 1, [], []), (32, .getfield 28, 3, [7, 2, 0, 0, 0, 358], []), (35, .putfield 28, 3, [7, 2, 0, 0, 0, 358], []), (38, .aload_n 0, 1, [], []), (39, .aload_n 1, 1, [], []), (40, .getfield 32, 3, [7, 3, 0, 0, 0, 360], []), (43, .putfield 32, 3, [7, 3, 0, 0, 0, 360], []), (46, .aload_n 0, 1, [], []), (47, .aload_n 1, 1, [], []), (48, .getfield 35, 3, [7, 4, 0, 0, 0, 363], []), (51, .putfield 35, 3, [7, 4, 0, 0, 0, 363], []), (54, .aload_n 0, 1, [], []), (55, .aload_n 1, 1, [], []), (56, .getfield 38, 3, [7, 5, 0, 0, 0, 366], []), (59, .putfield 38, 3, [7, 5, 0, 0, 0, 366], []), (62, .return_, 1, [], [])]
def tb_X8_everyone : ZT := [(0, .iconst 1, 1, [], []), (1, .aload_n 1, 1, [], []), (2, .getfield 47, 3, [4, 0, 0, 0, 0, 239], []), (5, .ishl, 1, [], []), (6, .iconst 1, 1, [], []), (7, .isub, 1, [], []), (8, .ireturn, 1, [], [])]
def tb_X8_isOpen : ZT := [(0, .aload_n 0, 1, [], []), (1, .getfield 28, 3, [7, 2, 0, 0, 0, 358], []), (4, .iload_n 1, 1, [], []), (5, .ishr, 1, [], []), (6, .iconst 1, 1, [], []), (7, .iand, 1, [], []), (8, .ifCond .eq 7, 3, [15], []), (11, .iconst 1, 1, [], []), (12, .goto 4, 3, [16], []), (15, .iconst 0, 1, [], []), (16, .ireturn, 1, [1], [])]
def tb_X8_isBroken : ZT := [(0, .aload_n 0, 1, [], []), (1, .getfield 32, 3, [7, 3, 0, 0, 0, 360], []), (4, .iload_n 1, 1, [], []), (5, .ishr, 1, [], []), (6, .iconst 1, 1, [], []), (7, .iand, 1, [], []), (8, .ifCond .eq 7, 3, [15], []), (11, .iconst 1, 1, [], []), (12, .goto 4, 3, [16], []), (15, .iconst 0, 1, [], []), (16, .ireturn, 1, [1], [])]
def tb_X8_runs : ZT := [(0, .aload_n 0, 1, [], []), (1, .iload_n 1, 1, [], []), (2, .invokevirtual 52, 3, [1, 77, 2, 843, 0, 7], []), (5, .ifCond .eq 15, 3, [20], []), (8, .aload_n 0, 1, [], []), (9, .iload_n 1, 1, [], []), (10, .invokevirtual 56, 3, [1, 78, 2, 844, 0, 7], []), (13, .ifCond .ne 7, 3, [20], []), (16, .iconst 1, 1, [], []), (17, .goto 4, 3, [21], []), (20, .iconst 0, 1, [], []), (21, .ireturn, 1, [1], [])]
def tb_X8_can : ZT := [(0, .iload_n 3, 1, [], []), (1, .ifCond .lt 11, 3, [12], []), (4, .iload_n 3, 1, [], []), (5, .aload_n 1, 1, [], []), (6, .getfield 47, 3, [4, 0, 0, 0, 0, 239], []), (9, .if_icmp .lt 5, 3, [14], []), (12, .iconst 0, 1, [], []), (13, .ireturn, 1, [1], []), (14, .iload_n 2, 1, [], []), (15, .tableswitch 76 0 3 #[29, 31, 37, 51], 29, [91, 44, 46, 52, 66], [0, 1, 2, 3]), (44, .iconst 1, 1, [], []), (45, .ireturn, 1, [1], []), (46, .aload_n 0, 1, [], []), (47, .iload_n 3, 1, [], []), (48, .invokevirtual 52, 3, [1, 77, 2, 843, 0, 7], []), (51, .ireturn, 1, [1], []), (52, .aload_n 0, 1, [], []), (53, .iload_n 3, 1, [], []), (54, .invokevirtual 52, 3, [1, 77, 2, 843, 0, 7], []), (57, .ifCond .ne 7, 3, [64], []), (60, .iconst 1, 1, [], []), (61, .goto 4, 3, [65], []), (64, .iconst 0, 1, [], []), (65, .ireturn, 1, [1], []), (66, .aload_n 0, 1, [], []), (67, .iload_n 3, 1, [], []), (68, .invokevirtual 56, 3, [1, 78, 2, 844, 0, 7], []), (71, .ifCond .eq 18, 3, [89], []), (74, .aload_n 1, 1, [], []), (75, .aload_n 0, 1, [], []), (76, .getfield 35, 3, [7, 4, 0, 0, 0, 363], []), (79, .invokevirtual 59, 3, [1, 24, 2, 923, 0, 4], []), (82, .ifCond .eq 7, 3, [89], []), (85, .iconst 1, 1, [], []), (86, .goto 4, 3, [90], []), (89, .iconst 0, 1, [], []), (90, .ireturn, 1, [1], []), (91, .iconst 0, 1, [], []), (92, .ireturn, 1, [1], [])]
def tb_X8_act : ZT := [(0, .aload_n 0, 1, [], []), (1, .aload_n 1, 1, [], []), (2, .iload_n 2, 1, [], []), (3, .iload_n 3, 1, [], []), (4, .invokevirtual 62, 3, [1, 80, 4, 941, 0, 7], []), (7, .ifCond .ne 5, 3, [12], []), (10, .iconst 0, 1, [], []), (11, .ireturn, 1, [1], []), (12, .iconst 1, 1, [], []), (13, .iload_n 3, 1, [], []), (14, .ishl, 1, [], []), (15, .istore 5, 2, [], []), (17, .iload_n 2, 1, [], []), (18, .tableswitch 67 0 2 #[26, 37, 53], 26, [85, 44, 55, 71], [0, 1, 2]), (44, .aload_n 0, 1, [], []), (45, .getfield 9, 3, [7, 0, 3, 40, 0, 350], []), (48, .iload_n 3, 1, [], []), (49, .iload 4, 2, [], []), (51, .iastore, 1, [], []), (52, .goto 53, 3, [105], []), (55, .aload_n 0, 1, [], []), (56, .dup, 1, [], []), (57, .getfield 28, 3, [7, 2, 0, 0, 0, 358], []), (60, .iload 5, 2, [], []), (62, .iconst (-1), 1, [], []), (63, .ixor, 1, [], []), (64, .iand, 1, [], []), (65, .putfield 28, 3, [7, 2, 0, 0, 0, 358], []), (68, .goto 37, 3, [105], []), (71, .aload_n 0, 1, [], []), (72, .dup, 1, [], []), (73, .getfield 28, 3, [7, 2, 0, 0, 0, 358], []), (76, .iload 5, 2, [], []), (78, .ior, 1, [], []), (79, .putfield 28, 3, [7, 2, 0, 0, 0, 358], []), (82, .goto 23, 3, [105], []), (85, .aload_n 0, 1, [], []), (86, .dup, 1, [], []), (87, .getfield 32, 3, [7, 3, 0, 0, 0, 360], []), (90, .iload 5, 2, [], []), (92, .iconst (-1), 1, [], []), (93, .ixor, 1, [], []), (94, .iand, 1, [], []), (95, .putfield 32, 3, [7, 3, 0, 0, 0, 360], []), (98, .aload_n 0, 1, [], []), (99, .getfield 15, 3, [7, 1, 3, 41, 0, 354], []), (102, .iload_n 3, 1, [], []), (103, .iconst 0, 1, [], []), (104, .iastore, 1, [], []), (105, .iconst 1, 1, [], []), (106, .ireturn, 1, [1], [])]
def tb_X8_wear : ZT := [(0, .aload_n 0, 1, [], []), (1, .getfield 9, 3, [7, 0, 3, 40, 0, 350], []), (4, .iload_n 2, 1, [], []), (5, .iaload, 1, [], []), (6, .invokestatic 66, 3, [0, 28, 1, 972, 0], []), (9, .iload_n 3, 1, [], []), (10, .ifCond .le 7, 3, [17], []), (13, .iconst 1, 1, [], []), (14, .goto 4, 3, [18], []), (17, .iconst 0, 1, [], []), (18, .iadd, 1, [], []), (19, .istore 4, 2, [], []), (21, .aload_n 0, 1, [], []), (22, .getfield 15, 3, [7, 1, 3, 41, 0, 354], []), (25, .iload_n 2, 1, [], []), (26, .dup2, 1, [], []), (27, .iaload, 1, [], []), (28, .aload_n 1, 1, [], []), (29, .getfield 70, 3, [4, 2, 3, 28, 0, 245], []), (32, .iload_n 2, 1, [], []), (33, .iaload, 1, [], []), (34, .iconst 2, 1, [], []), (35, .if_icmp .ne 10, 3, [45], []), (38, .iconst 2, 1, [], []), (39, .iload 4, 2, [], []), (41, .imul, 1, [], []), (42, .goto 5, 3, [47], []), (45, .iload 4, 2, [], []), (47, .iadd, 1, [], []), (48, .iastore, 1, [], []), (49, .aload_n 0, 1, [], []), (50, .getfield 15, 3, [7, 1, 3, 41, 0, 354], []), (53, .iload_n 2, 1, [], []), (54, .iaload, 1, [], []), (55, .aload_n 1, 1, [], []), (56, .getfield 73, 3, [4, 13, 0, 0, 0, 280], []), (59, .if_icmp .lt 15, 3, [74], []), (62, .aload_n 0, 1, [], []), (63, .dup, 1, [], []), (64, .getfield 32, 3, [7, 3, 0, 0, 0, 360], []), (67, .iconst 1, 1, [], []), (68, .iload_n 2, 1, [], []), (69, .ishl, 1, [], []), (70, .ior, 1, [], []), (71, .putfield 32, 3, [7, 3, 0, 0, 0, 360], []), (74, .return_, 1, [], [])]
def tb_X9_init : ZT := [(0, .aload_n 0, 1, [], []), (1, .invokespecial 3, 3, [2, 0, 1, 148], []), (4, .aload_n 0, 1, [], []), (5, .sipush 1000, 3, [], []), (8, .newarray .byte, 2, [42], []), (10, .putfield 9, 3, [8, 0, 3, 42, 0, 149], []), (13, .return_, 1, [], [])]
def tb_X9_put : ZT := [(0, .bipush 56, 2, [], []), (2, .istore_n 3, 1, [], []), (3, .iload_n 3, 1, [], []), (4, .ifCond .lt 86, 3, [90], []), (7, .lload_n 1, 1, [], []), (8, .iload_n 3, 1, [], []), (9, .lushr, 1, [], []), (10, .l2i, 1, [], []), (11, .sipush 255, 3, [], []), (14, .iand, 1, [], []), (15, .istore 4, 2, [], []), (17, .iload 4, 2, [], []), (19, .bipush 10, 2, [], []), (21, .if_icmp .eq 17, 3, [38], []), (24, .iload 4, 2, [], []), (26, .bipush 32, 2, [], []), (28, .if_icmp .lt 14, 3, [42], []), (31, .iload 4, 2, [], []), (33, .bipush 126, 2, [], []), (35, .if_icmp .gt 7, 3, [42], []), (38, .iconst 1, 1, [], []), (39, .goto 4, 3, [43], []), (42, .iconst 0, 1, [], []), (43, .istore 5, 2, [], []), (45, .iload 5, 2, [], []), (47, .ifCond .eq 37, 3, [84], []), (50, .aload_n 0, 1, [], []), (51, .getfield 15, 3, [8, 1, 0, 0, 0, 151], []), (54, .aload_n 0, 1, [], []), (55, .getfield 9, 3, [8, 0, 3, 42, 0, 149], []), (58, .arraylength, 1, [], []), (59, .if_icmp .ge 25, 3, [84], []), (62, .aload_n 0, 1, [], []), (63, .getfield 9, 3, [8, 0, 3, 42, 0, 149], []), (66, .aload_n 0, 1, [], []), (67, .getfield 15, 3, [8, 1, 0, 0, 0, 151], []), (70, .iload 4, 2, [], []), (72, .i2b, 1, [], []), (73, .bastore, 1, [], []), (74, .aload_n 0, 1, [], []), (75, .dup, 1, [], []), (76, .getfield 15, 3, [8, 1, 0, 0, 0, 151], []), (79, .iconst 1, 1, [], []), (80, .iadd, 1, [], []), (81, .putfield 15, 3, [8, 1, 0, 0, 0, 151], []), (84, .iinc 3 (-8), 3, [], []), (87, .goto (-84), 3, [3], []), (90, .return_, 1, [], [])]
def tb_X9_clear : ZT := [(0, .aload_n 0, 1, [], []), (1, .iconst 0, 1, [], []), (2, .putfield 15, 3, [8, 1, 0, 0, 0, 151], []), (5, .return_, 1, [], [])]
def tb_X9_start : ZT := [(0, .aload_n 0, 1, [], []), (1, .iconst 0, 1, [], []), (2, .putfield 19, 3, [8, 7, 0, 0, 0, 162], []), (5, .aload_n 0, 1, [], []), (6, .invokevirtual 22, 3, [1, 87, 1, 598, 0, 8], []), (9, .return_, 1, [], [])]
def tb_X9_pass : ZT := [(0, .aload_n 0, 1, [], []), (1, .getfield 19, 3, [8, 7, 0, 0, 0, 162], []), (4, .istore_n 1, 1, [], []), (5, .aload_n 0, 1, [], []), (6, .aconst_null, 1, [], []), (7, .putfield 25, 3, [8, 6, 4, 12, 3, 161], []), (10, .iload_n 1, 1, [], []), (11, .aload_n 0, 1, [], []), (12, .getfield 15, 3, [8, 1, 0, 0, 0, 151], []), (15, .if_icmp .ge 31, 3, [46], []), (18, .aload_n 0, 1, [], []), (19, .getfield 9, 3, [8, 0, 3, 42, 0, 149], []), (22, .iload_n 1, 1, [], []), (23, .baload, 1, [], []), (24, .bipush 10, 2, [], []), (26, .if_icmp .eq 14, 3, [40], []), (29, .aload_n 0, 1, [], []), (30, .getfield 9, 3, [8, 0, 3, 42, 0, 149], []), (33, .iload_n 1, 1, [], []), (34, .baload, 1, [], []), (35, .bipush 32, 2, [], []), (37, .if_icmp .ne 9, 3, [46], []), (40, .iinc 1 1, 3, [], []), (43, .goto (-33), 3, [10], []), (46, .aload_n 0, 1, [], []), (47, .iload_n 1, 1, [], []), (48, .putfield 29, 3, [8, 3, 0, 0, 0, 154], []), (51, .iload_n 1, 1, [], []), (52, .aload_n 0, 1, [], []), (53, .getfield 15, 3, [8, 1, 0, 0, 0, 151], []), (56, .if_icmp .lt 19, 3, [75], []), (59, .aload_n 0, 1, [], []), (60, .iconst 0, 1, [], []), (61, .putfield 32, 3, [8, 2, 0, 0, 0, 153], []), (64, .aload_n 0, 1, [], []), (65, .aload_n 0, 1, [], []), (66, .getfield 15, 3, [8, 1, 0, 0, 0, 151], []), (69, .putfield 19, 3, [8, 7, 0, 0, 0, 162], []), (72, .goto 96, 3, [168], []), (75, .aload_n 0, 1, [], []), (76, .getfield 9, 3, [8, 0, 3, 42, 0, 149], []), (79, .iload_n 1, 1, [], []), (80, .baload, 1, [], []), (81, .bipush 97, 2, [], []), (83, .if_icmp .lt 22, 3, [105], []), (86, .aload_n 0, 1, [], []), (87, .getfield 9, 3, [8, 0, 3, 42, 0, 149], []), (90, .iload_n 1, 1, [], []), (91, .baload, 1, [], []), (92, .bipush 122, 2, [], []), (94, .if_icmp .gt 11, 3, [105], []), (97, .aload_n 0, 1, [], []), (98, .iload_n 1, 1, [], []), (99, .invokevirtual 35, 3, [1, 88, 2, 602, 0, 8], []), (102, .goto 66, 3, [168], []), (105, .aload_n 0, 1, [], []), (106, .getfield 9, 3, [8, 0, 3, 42, 0, 149], []), (109, .iload_n 1, 1, [], []), (110, .baload, 1, [], []), (111, .bipush 48, 2, [], []), (113, .if_icmp .lt 22, 3, [135], []), (116, .aload_n 0, 1, [], []), (117, .getfield 9, 3, [8, 0, 3, 42, 0, 149], []), (120, .iload_n 1, 1, [], []), (121, .baload, 1, [], []), (122, .bipush 57, 2, [], []), (124, .if_icmp .gt 11, 3, [135], []), (127, .aload_n 0, 1, [], []), (128, .iload_n 1, 1, [], []), (129, .invokevirtual 39, 3, [1, 89, 2, 609, 0, 8], []), (132, .goto 36, 3, [168], []), (135, .aload_n 0, 1, [], []), (136, .aload_n 0, 1, [], []), (137, .getfield 9, 3, [8, 0, 3, 42, 0, 149], []), (140, .iload_n 1, 1, [], []), (141, .baload, 1, [], []), (142, .invokestatic 42, 3, [0, 90, 1, 613, 0], []), (145, .ifCond .eq 12, 3, [157], []), (148, .aload_n 0, 1, [], []), (149, .getfield 9, 3, [8, 0, 3, 42, 0, 149], []), (152, .iload_n 1, 1, [], []), (153, .baload, 1, [], []), (154, .goto 4, 3, [158], []), (157, .iconst 3, 1, [], []), (158, .putfield 32, 3, [8, 2, 0, 0, 0, 153], []), (161, .aload_n 0, 1, [], []), (162, .iload_n 1, 1, [], []), (163, .iconst 1, 1, [], []), (164, .iadd, 1, [], []), (165, .putfield 19, 3, [8, 7, 0, 0, 0, 162], []), (168, .return_, 1, [], [])]
def tb_X9_takeWord : ZT := [(0, .iload_n 1, 1, [], []), (1, .istore_n 2, 1, [], []), (2, .aload_n 0, 1, [], []), (3, .lconst 0, 1, [], []), (4, .putfield 46, 3, [8, 5, 2, 0, 0, 159], []), (7, .iload_n 2, 1, [], []), (8, .aload_n 0, 1, [], []), (9, .getfield 15, 3, [8, 1, 0, 0, 0, 151], []), (12, .if_icmp .ge 56, 3, [68], []), (15, .aload_n 0, 1, [], []), (16, .getfield 9, 3, [8, 0, 3, 42, 0, 149], []), (19, .iload_n 2, 1, [], []), (20, .baload, 1, [], []), (21, .bipush 97, 2, [], []), (23, .if_icmp .lt 45, 3, [68], []), (26, .aload_n 0, 1, [], []), (27, .getfield 9, 3, [8, 0, 3, 42, 0, 149], []), (30, .iload_n 2, 1, [], []), (31, .baload, 1, [], []), (32, .bipush 122, 2, [], []), (34, .if_icmp .gt 34, 3, [68], []), (37, .aload_n 0, 1, [], []), (38, .aload_n 0, 1, [], []), (39, .getfield 46, 3, [8, 5, 2, 0, 0, 159], []), (42, .ldc2_w 50, 3, [606], [32]), (45, .lmul, 1, [], []), (46, .aload_n 0, 1, [], []), (47, .getfield 9, 3, [8, 0, 3, 42, 0, 149], []), (50, .iload_n 2, 1, [], []), (51, .baload, 1, [], []), (52, .bipush 97, 2, [], []), (54, .isub, 1, [], []), (55, .iconst 1, 1, [], []), (56, .iadd, 1, [], []), (57, .i2l, 1, [], []), (58, .ladd, 1, [], []), (59, .putfield 46, 3, [8, 5, 2, 0, 0, 159], []), (62, .iinc 2 1, 3, [], []), (65, .goto (-58), 3, [7], []), (68, .aload_n 0, 1, [], []), (69, .iload_n 2, 1, [], []), (70, .iload_n 1, 1, [], []), (71, .isub, 1, [], []), (72, .bipush 8, 2, [], []), (74, .if_icmp .gt 7, 3, [81], []), (77, .iconst 1, 1, [], []), (78, .goto 4, 3, [82], []), (81, .iconst 3, 1, [], []), (82, .putfield 32, 3, [8, 2, 0, 0, 0, 153], []), (85, .aload_n 0, 1, [], []), (86, .iload_n 2, 1, [], []), (87, .putfield 19, 3, [8, 7, 0, 0, 0, 162], []), (90, .iconst 0, 1, [], []), (91, .istore_n 3, 1, [], []), (92, .aload_n 0, 1, [], []), (93, .getfield 32, 3, [8, 2, 0, 0, 0, 153], []), (96, .iconst 1, 1, [], []), (97, .if_icmp .ne 53, 3, [150], []), (100, .aload_n 0, 1, [], []), (101, .getfield 25, 3, [8, 6, 4, 12, 3, 161], []), (104, .ifnonnull 46, 3, [150], []), (107, .iload_n 3, 1, [], []), (108, .getstatic 52, 3, [100, 0, 607], []), (111, .arraylength, 1, [], []), (112, .if_icmp .ge 38, 3, [150], []), (115, .aload_n 0, 1, [], []), (116, .getstatic 52, 3, [100, 0, 607], []), (119, .iload_n 3, 1, [], []), (120, .aaload, 1, [], []), (121, .getfield 56, 3, [12, 1, 6, 0, 0, 1964], []), (124, .aload_n 0, 1, [], []), (125, .getfield 46, 3, [8, 5, 2, 0, 0, 159], []), (128, .lcmp, 1, [], []), (129, .ifCond .ne 11, 3, [140], []), (132, .getstatic 52, 3, [100, 0, 607], []), (135, .iload_n 3, 1, [], []), (136, .aaload, 1, [], []), (137, .goto 4, 3, [141], []), (140, .aconst_null, 1, [], []), (141, .putfield 25, 3, [8, 6, 4, 12, 3, 161], []), (144, .iinc 3 1, 3, [], []), (147, .goto (-55), 3, [92], []), (150, .return_, 1, [], [])]
def tb_X9_takeNumber : ZT := [(0, .iload_n 1, 1, [], []), (1, .istore_n 2, 1, [], []), (2, .aload_n 0, 1, [], []), (3, .iconst 0, 1, [], []), (4, .putfield 59, 3, [8, 4, 0, 0, 0, 157], []), (7, .iload_n 2, 1, [], []), (8, .aload_n 0, 1, [], []), (9, .getfield 15, 3, [8, 1, 0, 0, 0, 151], []), (12, .if_icmp .ge 52, 3, [64], []), (15, .aload_n 0, 1, [], []), (16, .getfield 9, 3, [8, 0, 3, 42, 0, 149], []), (19, .iload_n 2, 1, [], []), (20, .baload, 1, [], []), (21, .bipush 48, 2, [], []), (23, .if_icmp .lt 41, 3, [64], []), (26, .aload_n 0, 1, [], []), (27, .getfield 9, 3, [8, 0, 3, 42, 0, 149], []), (30, .iload_n 2, 1, [], []), (31, .baload, 1, [], []), (32, .bipush 57, 2, [], []), (34, .if_icmp .gt 30, 3, [64], []), (37, .aload_n 0, 1, [], []), (38, .aload_n 0, 1, [], []), (39, .getfield 59, 3, [8, 4, 0, 0, 0, 157], []), (42, .bipush 10, 2, [], []), (44, .imul, 1, [], []), (45, .aload_n 0, 1, [], []), (46, .getfield 9, 3, [8, 0, 3, 42, 0, 149], []), (49, .iload_n 2, 1, [], []), (50, .baload, 1, [], []), (51, .bipush 48, 2, [], []), (53, .isub, 1, [], []), (54, .iadd, 1, [], []), (55, .putfield 59, 3, [8, 4, 0, 0, 0, 157], []), (58, .iinc 2 1, 3, [], []), (61, .goto (-54), 3, [7], []), (64, .aload_n 0, 1, [], []), (65, .iload_n 2, 1, [], []), (66, .iload_n 1, 1, [], []), (67, .isub, 1, [], []), (68, .iconst 4, 1, [], []), (69, .if_icmp .gt 7, 3, [76], []), (72, .iconst 2, 1, [], []), (73, .goto 4, 3, [77], []), (76, .iconst 3, 1, [], []), (77, .putfield 32, 3, [8, 2, 0, 0, 0, 153], []), (80, .aload_n 0, 1, [], []), (81, .iload_n 2, 1, [], []), (82, .putfield 19, 3, [8, 7, 0, 0, 0, 162], []), (85, .return_, 1, [], [])]
def tb_X9_isSign : ZT := [(0, .iload_n 0, 1, [], []), (1, .bipush 40, 2, [], []), (3, .if_icmp .eq 45, 3, [48], []), (6, .iload_n 0, 1, [], []), (7, .bipush 41, 2, [], []), (9, .if_icmp .eq 39, 3, [48], []), (12, .iload_n 0, 1, [], []), (13, .bipush 60, 2, [], []), (15, .if_icmp .eq 33, 3, [48], []), (18, .iload_n 0, 1, [], []), (19, .bipush 61, 2, [], []), (21, .if_icmp .eq 27, 3, [48], []), (24, .iload_n 0, 1, [], []), (25, .bipush 43, 2, [], []), (27, .if_icmp .eq 21, 3, [48], []), (30, .iload_n 0, 1, [], []), (31, .bipush 45, 2, [], []), (33, .if_icmp .eq 15, 3, [48], []), (36, .iload_n 0, 1, [], []), (37, .bipush 42, 2, [], []), (39, .if_icmp .eq 9, 3, [48], []), (42, .iload_n 0, 1, [], []), (43, .bipush 59, 2, [], []), (45, .if_icmp .ne 7, 3, [52], []), (48, .iconst 1, 1, [], []), (49, .goto 4, 3, [53], []), (52, .iconst 0, 1, [], []), (53, .ireturn, 1, [1], [])]
def tb_X10_init : ZT := [(0, .aload_n 0, 1, [], []), (1, .invokespecial 3, 3, [2, 0, 1, 431], []), (4, .aload_n 0, 1, [], []), (5, .bipush 124, 2, [], []), (7, .newarray .boolean, 2, [43], []), (9, .putfield 9, 3, [9, 4, 3, 43, 0, 440], []), (12, .aload_n 0, 1, [], []), (13, .sipush 744, 3, [], []), (16, .newarray .int, 2, [44], []), (18, .putfield 15, 3, [9, 5, 3, 44, 0, 441], []), (21, .aload_n 0, 1, [], []), (22, .bipush 100, 2, [], []), (24, .newarray .int, 2, [45], []), (26, .putfield 19, 3, [9, 6, 3, 45, 0, 442], []), (29, .return_, 1, [], [])]
def tb_X10_guess : ZT := [(0, .aload_n 0, 1, [], []), (1, .iconst 0, 1, [], []), (2, .putfield 22, 3, [9, 0, 0, 0, 0, 432], []), (5, .aload_n 0, 1, [], []), (6, .iconst (-1), 1, [], []), (7, .putfield 26, 3, [9, 1, 0, 0, 0, 434], []), (10, .aload_n 0, 1, [], []), (11, .iconst (-1), 1, [], []), (12, .putfield 29, 3, [9, 2, 0, 0, 0, 436], []), (15, .aload_n 0, 1, [], []), (16, .iconst 0, 1, [], []), (17, .putfield 32, 3, [9, 3, 0, 0, 0, 438], []), (20, .iconst 0, 1, [], []), (21, .istore 5, 2, [], []), (23, .iload 5, 2, [], []), (25, .iconst 4, 1, [], []), (26, .if_icmp .ge 101, 3, [127], []), (29, .aload_n 3, 1, [], []), (30, .aload_n 1, 1, [], []), (31, .aload_n 2, 1, [], []), (32, .iload 5, 2, [], []), (34, .invokevirtual 35, 3, [1, 2, 4, 1141, 0, 0], []), (37, .iconst 0, 1, [], []), (38, .istore 6, 2, [], []), (40, .iload 6, 2, [], []), (42, .bipush 31, 2, [], []), (44, .if_icmp .ge 77, 3, [121], []), (47, .iload 5, 2, [], []), (49, .bipush 31, 2, [], []), (51, .imul, 1, [], []), (52, .iload 6, 2, [], []), (54, .iadd, 1, [], []), (55, .istore 7, 2, [], []), (57, .aload_n 3, 1, [], []), (58, .aload_n 1, 1, [], []), (59, .aload_n 2, 1, [], []), (60, .iload 6, 2, [], []), (62, .invokevirtual 41, 3, [1, 3, 4, 1142, 0, 0], []), (65, .aload_n 3, 1, [], []), (66, .getfield 44, 3, [0, 2, 3, 22, 0, 398], []), (69, .iconst 0, 1, [], []), (70, .aload_n 0, 1, [], []), (71, .getfield 15, 3, [9, 5, 3, 44, 0, 441], []), (74, .iload 7, 2, [], []), (76, .bipush 6, 2, [], []), (78, .imul, 1, [], []), (79, .bipush 6, 2, [], []), (81, .invokestatic 47, 3, [3, 0, 5, 1143], []), (84, .aload_n 0, 1, [], []), (85, .getfield 9, 3, [9, 4, 3, 43, 0, 440], []), (88, .iload 7, 2, [], []), (90, .aload_n 3, 1, [], []), (91, .aload 4, 2, [], []), (93, .invokestatic 53, 3, [0, 95, 2, 1144, 0], []), (96, .bastore, 1, [], []), (97, .aload_n 0, 1, [], []), (98, .getfield 9, 3, [9, 4, 3, 43, 0, 440], []), (101, .iload 7, 2, [], []), (103, .baload, 1, [], []), (104, .ifCond .eq 11, 3, [115], []), (107, .aload_n 0, 1, [], []), (108, .iload 6, 2, [], []), (110, .iload 5, 2, [], []), (112, .invokevirtual 57, 3, [1, 94, 3, 1148, 0, 9], []), (115, .iinc 6 1, 3, [], []), (118, .goto (-78), 3, [40], []), (121, .iinc 5 1, 3, [], []), (124, .goto (-101), 3, [23], []), (127, .return_, 1, [], [])]
def tb_X10_mostAlike : ZT := [(0, .aload_n 0, 1, [], []), (1, .getfield 19, 3, [9, 6, 3, 45, 0, 442], []), (4, .iconst 0, 1, [], []), (5, .invokestatic 61, 3, [0, 263, 2, 1161, 0], []), (8, .iconst 0, 1, [], []), (9, .istore_n 2, 1, [], []), (10, .iconst 0, 1, [], []), (11, .istore_n 3, 1, [], []), (12, .iload_n 3, 1, [], []), (13, .bipush 124, 2, [], []), (15, .if_icmp .ge 54, 3, [69], []), (18, .aload_n 0, 1, [], []), (19, .getfield 9, 3, [9, 4, 3, 43, 0, 440], []), (22, .iload_n 3, 1, [], []), (23, .baload, 1, [], []), (24, .ifCond .eq 39, 3, [63], []), (27, .aload_n 0, 1, [], []), (28, .getfield 15, 3, [9, 5, 3, 44, 0, 441], []), (31, .iload_n 3, 1, [], []), (32, .bipush 6, 2, [], []), (34, .imul, 1, [], []), (35, .iload_n 1, 1, [], []), (36, .iadd, 1, [], []), (37, .iaload, 1, [], []), (38, .istore 4, 2, [], []), (40, .aload_n 0, 1, [], []), (41, .getfield 19, 3, [9, 6, 3, 45, 0, 442], []), (44, .iload 4, 2, [], []), (46, .dup2, 1, [], []), (47, .iaload, 1, [], []), (48, .iconst 1, 1, [], []), (49, .iadd, 1, [], []), (50, .iastore, 1, [], []), (51, .iload_n 2, 1, [], []), (52, .aload_n 0, 1, [], []), (53, .getfield 19, 3, [9, 6, 3, 45, 0, 442], []), (56, .iload 4, 2, [], []), (58, .iaload, 1, [], []), (59, .invokestatic 67, 3, [6, 0, 2, 1152], []), (62, .istore_n 2, 1, [], []), (63, .iinc 3 1, 3, [], []), (66, .goto (-54), 3, [12], []), (69, .iload_n 2, 1, [], []), (70, .ireturn, 1, [], [])]
def tb_X10_note : ZT := [(0, .aload_n 0, 1, [], []), (1, .dup, 1, [], []), (2, .getfield 22, 3, [9, 0, 0, 0, 0, 432], []), (5, .iconst 1, 1, [], []), (6, .iadd, 1, [], []), (7, .putfield 22, 3, [9, 0, 0, 0, 0, 432], []), (10, .aload_n 0, 1, [], []), (11, .aload_n 0, 1, [], []), (12, .getfield 26, 3, [9, 1, 0, 0, 0, 434], []), (15, .iconst (-1), 1, [], []), (16, .if_icmp .eq 11, 3, [27], []), (19, .iload_n 1, 1, [], []), (20, .aload_n 0, 1, [], []), (21, .getfield 26, 3, [9, 1, 0, 0, 0, 434], []), (24, .if_icmp .ge 7, 3, [31], []), (27, .iload_n 1, 1, [], []), (28, .goto 7, 3, [35], []), (31, .aload_n 0, 1, [], []), (32, .getfield 26, 3, [9, 1, 0, 0, 0, 434], []), (35, .putfield 26, 3, [9, 1, 0, 0, 0, 434], []), (38, .aload_n 0, 1, [], []), (39, .aload_n 0, 1, [], []), (40, .getfield 29, 3, [9, 2, 0, 0, 0, 436], []), (43, .iload_n 1, 1, [], []), (44, .invokestatic 67, 3, [6, 0, 2, 1152], []), (47, .putfield 29, 3, [9, 2, 0, 0, 0, 436], []), (50, .aload_n 0, 1, [], []), (51, .dup, 1, [], []), (52, .getfield 32, 3, [9, 3, 0, 0, 0, 438], []), (55, .iconst 1, 1, [], []), (56, .iload_n 2, 1, [], []), (57, .ishl, 1, [], []), (58, .ior, 1, [], []), (59, .putfield 32, 3, [9, 3, 0, 0, 0, 438], []), (62, .return_, 1, [], [])]
def tb_X10_isAsSeen : ZT := [(0, .iconst 0, 1, [], []), (1, .istore_n 2, 1, [], []), (2, .iload_n 2, 1, [], []), (3, .aload_n 1, 1, [], []), (4, .getfield 73, 3, [3, 1, 0, 0, 0, 199], []), (7, .if_icmp .ge 33, 3, [40], []), (10, .aload_n 1, 1, [], []), (11, .iload_n 2, 1, [], []), (12, .invokevirtual 78, 3, [1, 15, 2, 1147, 0, 3], []), (15, .istore_n 3, 1, [], []), (16, .aload_n 0, 1, [], []), (17, .getfield 44, 3, [0, 2, 3, 22, 0, 398], []), (20, .iload_n 3, 1, [], []), (21, .bipush 100, 2, [], []), (23, .idiv, 1, [], []), (24, .iaload, 1, [], []), (25, .iload_n 3, 1, [], []), (26, .bipush 100, 2, [], []), (28, .irem, 1, [], []), (29, .if_icmp .eq 5, 3, [34], []), (32, .iconst 0, 1, [], []), (33, .ireturn, 1, [1], []), (34, .iinc 2 1, 3, [], []), (37, .goto (-35), 3, [2], []), (40, .iconst 1, 1, [], []), (41, .ireturn, 1, [1], [])]
def tb_X12_init : ZT := [(0, .aload_n 0, 1, [], []), (1, .invokespecial 3, 3, [2, 0, 1, 140], []), (4, .aload_n 0, 1, [], []), (5, .new 9, 3, [8, 143], []), (8, .dup, 1, [], []), (9, .invokespecial 11, 3, [1, 83, 1, 145, 1, 8], []), (12, .putfield 12, 3, [10, 0, 3, 8, 0, 531], []), (15, .aload_n 0, 1, [], []), (16, .new 16, 3, [4, 181], []), (19, .dup, 1, [], []), (20, .invokespecial 18, 3, [1, 18, 1, 183, 0, 4], []), (23, .putfield 19, 3, [10, 1, 4, 4, 0, 532], []), (26, .aload_n 0, 1, [], []), (27, .new 23, 3, [5, 314], []), (30, .dup, 1, [], []), (31, .aload_n 0, 1, [], []), (32, .getfield 12, 3, [10, 0, 3, 8, 0, 531], []), (35, .aload_n 0, 1, [], []), (36, .getfield 19, 3, [10, 1, 4, 4, 0, 532], []), (39, .invokespecial 25, 3, [1, 32, 3, 316, 0, 5], []), (42, .putfield 28, 3, [10, 2, 3, 5, 0, 533], []), (45, .aload_n 0, 1, [], []), (46, .new 16, 3, [4, 181], []), (49, .dup, 1, [], []), (50, .invokespecial 18, 3, [1, 18, 1, 183, 0, 4], []), (53, .putfield 32, 3, [10, 3, 4, 4, 1, 534], []), (56, .aload_n 0, 1, [], []), (57, .new 35, 3, [7, 344], []), (60, .dup, 1, [], []), (61, .invokespecial 37, 3, [1, 73, 1, 346, 1, 7], []), (64, .putfield 38, 3, [10, 4, 3, 7, 0, 535], []), (67, .aload_n 0, 1, [], []), (68, .new 35, 3, [7, 344], []), (71, .dup, 1, [], []), (72, .invokespecial 37, 3, [1, 73, 1, 346, 1, 7], []), (75, .putfield 42, 3, [10, 5, 3, 7, 0, 536], []), (78, .aload_n 0, 1, [], []), (79, .bipush 16, 2, [], []), (81, .anewarray 35, 3, [46, 344], []), (84, .putfield 45, 3, [10, 6, 3, 46, 0, 537], []), (87, .aload_n 0, 1, [], []), (88, .new 49, 3, [3, 383], []), (91, .dup, 1, [], []), (92, .bipush 40, 2, [], []), (94, .invokespecial 51, 3, [1, 13, 2, 384, 0, 3], []), (97, .putfield 54, 3, [10, 9, 3, 3, 0, 540], []), (100, .aload_n 0, 1, [], []), (101, .new 49, 3, [3, 383], []), (104, .dup, 1, [], []), (105, .bipush 8, 2, [], []), (107, .invokespecial 51, 3, [1, 13, 2, 384, 0, 3], []), (110, .putfield 58, 3, [10, 10, 3, 3, 0, 541], []), (113, .aload_n 0, 1, [], []), (114, .iconst 4, 1, [], []), (115, .anewarray 61, 3, [47, 385], []), (118, .putfield 63, 3, [10, 11, 3, 47, 0, 542], []), (121, .aload_n 0, 1, [], []), (122, .new 67, 3, [0, 387], []), (125, .dup, 1, [], []), (126, .invokespecial 69, 3, [1, 0, 1, 389, 1, 0], []), (129, .putfield 70, 3, [10, 12, 3, 0, 0, 543], []), (132, .aload_n 0, 1, [], []), (133, .iconst 3, 1, [], []), (134, .anewarray 74, 3, [48, 424], []), (137, .putfield 76, 3, [10, 13, 3, 48, 0, 544], []), (140, .aload_n 0, 1, [], []), (141, .new 80, 3, [9, 426], []), (144, .dup, 1, [], []), (145, .invokespecial 82, 3, [1, 91, 1, 428, 1, 9], []), (148, .putfield 83, 3, [10, 14, 3, 9, 0, 545], []), (151, .aload_n 0, 1, [], []), (152, .getfield 38, 3, [10, 4, 3, 7, 0, 535], []), (155, .aload_n 0, 1, [], []), (156, .getfield 19, 3, [10, 1, 4, 4, 0, 532], []), (159, .invokevirtual 87, 3, [1, 74, 2, 459, 0, 7], []), (162, .iconst 0, 1, [], []), (163, .istore_n 1, 1, [], []), (164, .iload_n 1, 1, [], []), (165, .aload_n 0, 1, [], []), (166, .getfield 45, 3, [10, 6, 3, 46, 0, 537], []), (169, .arraylength, 1, [], []), (170, .if_icmp .ge 22, 3, [192], []), (173, .aload_n 0, 1, [], []), (174, .getfield 45, 3, [10, 6, 3, 46, 0, 537], []), (177, .iload_n 1, 1, [], []), (178, .new 35, 3, [7, 344], []), (181, .dup, 1, [], []), (182, .invokespecial 37, 3, [1, 73, 1, 346, 1, 7], []), (185, .aastore, 1, [], []), (186, .iinc 1 1, 3, [], []), (189, .goto (-25), 3, [164], []), (192, .iconst 0, 1, [], []), (193, .istore_n 1, 1, [], []), (194, .iload_n 1, 1, [], []), (195, .aload_n 0, 1, [], []), (196, .getfield 63, 3, [10, 11, 3, 47, 0, 542], []), (199, .arraylength, 1, [], []), (200, .if_icmp .ge 22, 3, [222], []), (203, .aload_n 0, 1, [], []), (204, .getfield 63, 3, [10, 11, 3, 47, 0, 542], []), (207, .iload_n 1, 1, [], []), (208, .new 61, 3, [2, 385], []), (211, .dup, 1, [], []), (212, .invokespecial 91, 3, [1, 11, 1, 471, 1, 2], []), (215, .aastore, 1, [], []), (216, .iinc 1 1, 3, [], []), (219, .goto (-25), 3, [194], []), (222, .iconst 0, 1, [], []), (223, .istore_n 1, 1, [], []), (224, .iload_n 1, 1, [], []), (225, .aload_n 0, 1, [], []), (226, .getfield 76, 3, [10, 13, 3, 48, 0, 544], []), (229, .arraylength, 1, [], []), (230, .if_icmp .ge 22, 3, [252], []), (233, .aload_n 0, 1, [], []), (234, .getfield 76, 3, [10, 13, 3, 48, 0, 544], []), (237, .iload_n 1, 1, [], []), (238, .new 74, 3, [6, 424], []), (241, .dup, 1, [], []), (242, .invokespecial 92, 3, [1, 60, 1, 497, 1, 6], []), (245, .aastore, 1, [], []), (246, .iinc 1 1, 3, [], []), (249, .goto (-25), 3, [224], []), (252, .return_, 1, [], [])]
def tb_X12_feed : ZT := [(0, .aload_n 0, 1, [], []), (1, .getfield 12, 3, [10, 0, 3, 8, 0, 531], []), (4, .lload_n 1, 1, [], []), (5, .invokevirtual 93, 3, [1, 84, 2, 581, 0, 8], []), (8, .aload_n 0, 1, [], []), (9, .getfield 12, 3, [10, 0, 3, 8, 0, 531], []), (12, .lload_n 3, 1, [], []), (13, .invokevirtual 93, 3, [1, 84, 2, 581, 0, 8], []), (16, .aload_n 0, 1, [], []), (17, .getfield 12, 3, [10, 0, 3, 8, 0, 531], []), (20, .lload 5, 2, [], []), (22, .invokevirtual 93, 3, [1, 84, 2, 581, 0, 8], []), (25, .aload_n 0, 1, [], []), (26, .getfield 12, 3, [10, 0, 3, 8, 0, 531], []), (29, .getfield 97, 3, [8, 1, 0, 0, 0, 150], []), (32, .ireturn, 1, [], [])]
def tb_X12_park : ZT := [(0, .aload_n 0, 1, [], []), (1, .getfield 28, 3, [10, 2, 3, 5, 0, 533], []), (4, .aload_n 0, 1, [], []), (5, .getfield 32, 3, [10, 3, 4, 4, 1, 534], []), (8, .invokevirtual 101, 3, [1, 33, 2, 589, 0, 5], []), (11, .istore_n 1, 1, [], []), (12, .iload_n 1, 1, [], []), (13, .ifCond .eq 5, 3, [18], []), (16, .iload_n 1, 1, [], []), (17, .ireturn, 1, [], []), (18, .aload_n 0, 1, [], []), (19, .getfield 19, 3, [10, 1, 4, 4, 0, 532], []), (22, .astore_n 2, 1, [], []), (23, .aload_n 0, 1, [], []), (24, .aload_n 0, 1, [], []), (25, .getfield 32, 3, [10, 3, 4, 4, 1, 534], []), (28, .putfield 19, 3, [10, 1, 4, 4, 0, 532], []), (31, .aload_n 0, 1, [], []), (32, .aload_n 2, 1, [], []), (33, .putfield 32, 3, [10, 3, 4, 4, 1, 534], []), (36, .aload_n 0, 1, [], []), (37, .getfield 38, 3, [10, 4, 3, 7, 0, 535], []), (40, .aload_n 0, 1, [], []), (41, .getfield 19, 3, [10, 1, 4, 4, 0, 532], []), (44, .invokevirtual 87, 3, [1, 74, 2, 459, 0, 7], []), (47, .aload_n 0, 1, [], []), (48, .getfield 54, 3, [10, 9, 3, 3, 0, 540], []), (51, .iconst 0, 1, [], []), (52, .putfield 105, 3, [3, 1, 0, 0, 0, 198], []), (55, .aload_n 0, 1, [], []), (56, .getfield 58, 3, [10, 10, 3, 3, 0, 541], []), (59, .iconst 0, 1, [], []), (60, .putfield 105, 3, [3, 1, 0, 0, 0, 198], []), (63, .iconst 0, 1, [], []), (64, .istore_n 3, 1, [], []), (65, .iload_n 3, 1, [], []), (66, .aload_n 0, 1, [], []), (67, .getfield 63, 3, [10, 11, 3, 47, 0, 542], []), (70, .arraylength, 1, [], []), (71, .if_icmp .ge 19, 3, [90], []), (74, .aload_n 0, 1, [], []), (75, .getfield 63, 3, [10, 11, 3, 47, 0, 542], []), (78, .iload_n 3, 1, [], []), (79, .aaload, 1, [], []), (80, .iconst 0, 1, [], []), (81, .putfield 108, 3, [2, 3, 1, 0, 0, 486], []), (84, .iinc 3 1, 3, [], []), (87, .goto (-22), 3, [65], []), (90, .aload_n 0, 1, [], []), (91, .invokevirtual 112, 3, [1, 139, 1, 764, 0, 10], []), (94, .aload_n 0, 1, [], []), (95, .invokevirtual 115, 3, [1, 140, 1, 768, 0, 10], []), (98, .iconst 0, 1, [], []), (99, .ireturn, 1, [], [])]
def tb_X12_day : ZT := [(0, .aload_n 0, 1, [], []), (1, .getfield 28, 3, [10, 2, 3, 5, 0, 533], []), (4, .aload_n 0, 1, [], []), (5, .getfield 19, 3, [10, 1, 4, 4, 0, 532], []), (8, .aload_n 0, 1, [], []), (9, .getfield 54, 3, [10, 9, 3, 3, 0, 540], []), (12, .invokevirtual 118, 3, [1, 34, 3, 776, 0, 5], []), (15, .ireturn, 1, [], [])]
def tb_X12_turbine : ZT := [(0, .aload_n 0, 1, [], []), (1, .iload_n 1, 1, [], []), (2, .invokevirtual 122, 3, [1, 136, 2, 811, 0, 10], []), (5, .ifCond .ne 6, 3, [11], []), (8, .bipush (-2), 2, [], []), (10, .ireturn, 1, [], []), (11, .iload_n 2, 1, [], []), (12, .tableswitch 156 0 8 #[52, 62, 72, 82, 92, 109, 126, 136, 146], 52, [168, 64, 74, 84, 94, 104, 121, 138, 148, 158], [0, 1, 2, 3, 4, 5, 6, 7, 8]), (64, .aload_n 0, 1, [], []), (65, .getfield 19, 3, [10, 1, 4, 4, 0, 532], []), (68, .getfield 126, 3, [4, 2, 3, 28, 0, 244], []), (71, .iload_n 1, 1, [], []), (72, .iaload, 1, [], []), (73, .ireturn, 1, [], []), (74, .aload_n 0, 1, [], []), (75, .getfield 19, 3, [10, 1, 4, 4, 0, 532], []), (78, .getfield 130, 3, [4, 3, 3, 29, 0, 248], []), (81, .iload_n 1, 1, [], []), (82, .iaload, 1, [], []), (83, .ireturn, 1, [], []), (84, .aload_n 0, 1, [], []), (85, .getfield 19, 3, [10, 1, 4, 4, 0, 532], []), (88, .getfield 133, 3, [4, 4, 3, 30, 0, 250], []), (91, .iload_n 1, 1, [], []), (92, .iaload, 1, [], []), (93, .ireturn, 1, [], []), (94, .aload_n 0, 1, [], []), (95, .getfield 38, 3, [10, 4, 3, 7, 0, 535], []), (98, .getfield 136, 3, [7, 0, 3, 40, 0, 353], []), (101, .iload_n 1, 1, [], []), (102, .iaload, 1, [], []), (103, .ireturn, 1, [], []), (104, .aload_n 0, 1, [], []), (105, .getfield 38, 3, [10, 4, 3, 7, 0, 535], []), (108, .iload_n 1, 1, [], []), (109, .invokevirtual 139, 3, [1, 77, 2, 815, 0, 7], []), (112, .ifCond .eq 7, 3, [119], []), (115, .iconst 1, 1, [], []), (116, .goto 4, 3, [120], []), (119, .iconst 0, 1, [], []), (120, .ireturn, 1, [], []), (121, .aload_n 0, 1, [], []), (122, .getfield 38, 3, [10, 4, 3, 7, 0, 535], []), (125, .iload_n 1, 1, [], []), (126, .invokevirtual 142, 3, [1, 78, 2, 819, 0, 7], []), (129, .ifCond .eq 7, 3, [136], []), (132, .iconst 1, 1, [], []), (133, .goto 4, 3, [137], []), (136, .iconst 0, 1, [], []), (137, .ireturn, 1, [], []), (138, .aload_n 0, 1, [], []), (139, .getfield 38, 3, [10, 4, 3, 7, 0, 535], []), (142, .getfield 145, 3, [7, 1, 3, 41, 0, 357], []), (145, .iload_n 1, 1, [], []), (146, .iaload, 1, [], []), (147, .ireturn, 1, [], []), (148, .aload_n 0, 1, [], []), (149, .getfield 19, 3, [10, 1, 4, 4, 0, 532], []), (152, .getfield 148, 3, [4, 5, 3, 31, 0, 253], []), (155, .iload_n 1, 1, [], []), (156, .iaload, 1, [], []), (157, .ireturn, 1, [], []), (158, .aload_n 0, 1, [], []), (159, .getfield 19, 3, [10, 1, 4, 4, 0, 532], []), (162, .getfield 151, 3, [4, 6, 3, 32, 0, 257], []), (165, .iload_n 1, 1, [], []), (166, .iaload, 1, [], []), (167, .ireturn, 1, [], []), (168, .bipush (-2), 2, [], []), (170, .ireturn, 1, [], [])]
def tb_X12_wind : ZT := [(0, .aload_n 0, 1, [], []), (1, .iload_n 1, 1, [], []), (2, .invokevirtual 122, 3, [1, 136, 2, 811, 0, 10], []), (5, .ifCond .ne 5, 3, [10], []), (8, .iconst (-1), 1, [], []), (9, .ireturn, 1, [], []), (10, .aload_n 0, 1, [], []), (11, .getfield 70, 3, [10, 12, 3, 0, 0, 543], []), (14, .aload_n 0, 1, [], []), (15, .getfield 19, 3, [10, 1, 4, 4, 0, 532], []), (18, .aload_n 0, 1, [], []), (19, .getfield 38, 3, [10, 4, 3, 7, 0, 535], []), (22, .invokevirtual 154, 3, [1, 1, 3, 827, 0, 0], []), (25, .aload_n 0, 1, [], []), (26, .getfield 70, 3, [10, 12, 3, 0, 0, 543], []), (29, .getfield 158, 3, [0, 1, 3, 21, 0, 396], []), (32, .iload_n 1, 1, [], []), (33, .iaload, 1, [], []), (34, .ireturn, 1, [], [])]
def tb_X12_power : ZT := [(0, .aload_n 0, 1, [], []), (1, .iload_n 1, 1, [], []), (2, .invokevirtual 122, 3, [1, 136, 2, 811, 0, 10], []), (5, .ifCond .ne 5, 3, [10], []), (8, .iconst (-1), 1, [], []), (9, .ireturn, 1, [], []), (10, .aload_n 0, 1, [], []), (11, .getfield 70, 3, [10, 12, 3, 0, 0, 543], []), (14, .aload_n 0, 1, [], []), (15, .getfield 19, 3, [10, 1, 4, 4, 0, 532], []), (18, .aload_n 0, 1, [], []), (19, .getfield 38, 3, [10, 4, 3, 7, 0, 535], []), (22, .invokevirtual 154, 3, [1, 1, 3, 827, 0, 0], []), (25, .aload_n 0, 1, [], []), (26, .getfield 70, 3, [10, 12, 3, 0, 0, 543], []), (29, .getfield 161, 3, [0, 2, 3, 22, 0, 399], []), (32, .iload_n 1, 1, [], []), (33, .iaload, 1, [], []), (34, .ireturn, 1, [], [])]
def tb_X12_carried : ZT := [(0, .aload_n 0, 1, [], []), (1, .iload_n 1, 1, [], []), (2, .invokevirtual 122, 3, [1, 136, 2, 811, 0, 10], []), (5, .ifCond .ne 5, 3, [10], []), (8, .iconst (-1), 1, [], []), (9, .ireturn, 1, [], []), (10, .aload_n 0, 1, [], []), (11, .getfield 70, 3, [10, 12, 3, 0, 0, 543], []), (14, .aload_n 0, 1, [], []), (15, .getfield 19, 3, [10, 1, 4, 4, 0, 532], []), (18, .aload_n 0, 1, [], []), (19, .getfield 38, 3, [10, 4, 3, 7, 0, 535], []), (22, .invokevirtual 154, 3, [1, 1, 3, 827, 0, 0], []), (25, .aload_n 0, 1, [], []), (26, .getfield 70, 3, [10, 12, 3, 0, 0, 543], []), (29, .getfield 164, 3, [0, 3, 3, 23, 0, 402], []), (32, .iload_n 1, 1, [], []), (33, .iaload, 1, [], []), (34, .ireturn, 1, [], [])]
def tb_X12_home : ZT := [(0, .aload_n 0, 1, [], []), (1, .getfield 70, 3, [10, 12, 3, 0, 0, 543], []), (4, .aload_n 0, 1, [], []), (5, .getfield 19, 3, [10, 1, 4, 4, 0, 532], []), (8, .aload_n 0, 1, [], []), (9, .getfield 38, 3, [10, 4, 3, 7, 0, 535], []), (12, .invokevirtual 154, 3, [1, 1, 3, 827, 0, 0], []), (15, .aload_n 0, 1, [], []), (16, .getfield 70, 3, [10, 12, 3, 0, 0, 543], []), (19, .getfield 167, 3, [0, 6, 0, 0, 0, 407], []), (22, .ireturn, 1, [], [])]
def tb_X12_turn : ZT := [(0, .aload_n 0, 1, [], []), (1, .iload_n 1, 1, [], []), (2, .invokevirtual 122, 3, [1, 136, 2, 811, 0, 10], []), (5, .ifCond .eq 12, 3, [17], []), (8, .iload_n 2, 1, [], []), (9, .ifCond .lt 8, 3, [17], []), (12, .iload_n 2, 1, [], []), (13, .iconst 5, 1, [], []), (14, .if_icmp .lt 5, 3, [19], []), (17, .iconst (-1), 1, [], []), (18, .ireturn, 1, [], []), (19, .aload_n 0, 1, [], []), (20, .getfield 38, 3, [10, 4, 3, 7, 0, 535], []), (23, .getfield 136, 3, [7, 0, 3, 40, 0, 353], []), (26, .iload_n 1, 1, [], []), (27, .iaload, 1, [], []), (28, .istore_n 3, 1, [], []), (29, .aload_n 0, 1, [], []), (30, .iconst 0, 1, [], []), (31, .iload_n 1, 1, [], []), (32, .iload_n 2, 1, [], []), (33, .invokevirtual 170, 3, [1, 137, 4, 915, 0, 10], []), (36, .pop, 1, [], []), (37, .iload_n 3, 1, [], []), (38, .ireturn, 1, [], [])]
def tb_X12_shut : ZT := [(0, .aload_n 0, 1, [], []), (1, .iconst 1, 1, [], []), (2, .iload_n 1, 1, [], []), (3, .iconst 0, 1, [], []), (4, .invokevirtual 170, 3, [1, 137, 4, 915, 0, 10], []), (7, .ireturn, 1, [1], [])]
def tb_X12_open : ZT := [(0, .aload_n 0, 1, [], []), (1, .iconst 2, 1, [], []), (2, .iload_n 1, 1, [], []), (3, .iconst 0, 1, [], []), (4, .invokevirtual 170, 3, [1, 137, 4, 915, 0, 10], []), (7, .ireturn, 1, [1], [])]
def tb_X12_mend : ZT := [(0, .aload_n 0, 1, [], []), (1, .iconst 3, 1, [], []), (2, .iload_n 1, 1, [], []), (3, .iconst 0, 1, [], []), (4, .invokevirtual 170, 3, [1, 137, 4, 915, 0, 10], []), (7, .ireturn, 1, [1], [])]
def tb_X12_step : ZT := [(0, .aload_n 0, 1, [], []), (1, .invokevirtual 174, 3, [1, 138, 1, 927, 0, 10], []), (4, .aload_n 0, 1, [], []), (5, .getfield 70, 3, [10, 12, 3, 0, 0, 543], []), (8, .aload_n 0, 1, [], []), (9, .getfield 19, 3, [10, 1, 4, 4, 0, 532], []), (12, .aload_n 0, 1, [], []), (13, .getfield 38, 3, [10, 4, 3, 7, 0, 535], []), (16, .invokevirtual 177, 3, [1, 6, 3, 958, 0, 0], []), (19, .ireturn, 1, [], [])]
def tb_X12_undo : ZT := [(0, .aload_n 0, 1, [], []), (1, .getfield 181, 3, [10, 8, 0, 0, 0, 539], []), (4, .ifCond .gt 5, 3, [9], []), (7, .iconst 0, 1, [], []), (8, .ireturn, 1, [1], []), (9, .aload_n 0, 1, [], []), (10, .dup, 1, [], []), (11, .getfield 181, 3, [10, 8, 0, 0, 0, 539], []), (14, .iconst 1, 1, [], []), (15, .isub, 1, [], []), (16, .putfield 181, 3, [10, 8, 0, 0, 0, 539], []), (19, .aload_n 0, 1, [], []), (20, .aload_n 0, 1, [], []), (21, .getfield 184, 3, [10, 7, 0, 0, 0, 538], []), (24, .iconst 1, 1, [], []), (25, .isub, 1, [], []), (26, .bipush 16, 2, [], []), (28, .invokestatic 187, 3, [0, 262, 2, 977, 0], []), (31, .putfield 184, 3, [10, 7, 0, 0, 0, 538], []), (34, .aload_n 0, 1, [], []), (35, .getfield 38, 3, [10, 4, 3, 7, 0, 535], []), (38, .aload_n 0, 1, [], []), (39, .getfield 45, 3, [10, 6, 3, 46, 0, 537], []), (42, .aload_n 0, 1, [], []), (43, .getfield 184, 3, [10, 7, 0, 0, 0, 538], []), (46, .aaload, 1, [], []), (47, .invokevirtual 193, 3, [1, 75, 2, 931, 0, 7], []), (50, .aload_n 0, 1, [], []), (51, .invokevirtual 115, 3, [1, 140, 1, 768, 0, 10], []), (54, .iconst 1, 1, [], []), (55, .ireturn, 1, [1], [])]
def tb_X12_judged : ZT := [(0, .iload_n 1, 1, [], []), (1, .ifCond .lt 8, 3, [9], []), (4, .iload_n 1, 1, [], []), (5, .iconst 2, 1, [], []), (6, .if_icmp .le 6, 3, [12], []), (9, .ldc 197, 2, [984], [(-1000000)]), (11, .ireturn, 1, [], []), (12, .iconst (-1), 1, [], []), (13, .istore_n 2, 1, [], []), (14, .iconst (-1), 1, [], []), (15, .istore_n 3, 1, [], []), (16, .aload_n 0, 1, [], []), (17, .getfield 42, 3, [10, 5, 3, 7, 0, 536], []), (20, .aload_n 0, 1, [], []), (21, .getfield 19, 3, [10, 1, 4, 4, 0, 532], []), (24, .invokevirtual 87, 3, [1, 74, 2, 459, 0, 7], []), (27, .iconst 0, 1, [], []), (28, .istore 4, 2, [], []), (30, .iload 4, 2, [], []), (32, .aload_n 0, 1, [], []), (33, .getfield 54, 3, [10, 9, 3, 3, 0, 540], []), (36, .getfield 105, 3, [3, 1, 0, 0, 0, 198], []), (39, .if_icmp .ge 122, 3, [161], []), (42, .aload_n 0, 1, [], []), (43, .getfield 54, 3, [10, 9, 3, 3, 0, 540], []), (46, .iload 4, 2, [], []), (48, .invokevirtual 198, 3, [1, 15, 2, 985, 0, 3], []), (51, .istore 5, 2, [], []), (53, .iload 5, 2, [], []), (55, .bipush 100, 2, [], []), (57, .idiv, 1, [], []), (58, .istore 6, 2, [], []), (60, .aload_n 0, 1, [], []), (61, .getfield 42, 3, [10, 5, 3, 7, 0, 536], []), (64, .getfield 202, 3, [7, 3, 0, 0, 0, 361], []), (67, .istore 7, 2, [], []), (69, .iload 6, 2, [], []), (71, .iconst 4, 1, [], []), (72, .if_icmp .ne 46, 3, [118], []), (75, .aload_n 0, 1, [], []), (76, .getfield 70, 3, [10, 12, 3, 0, 0, 543], []), (79, .aload_n 0, 1, [], []), (80, .getfield 19, 3, [10, 1, 4, 4, 0, 532], []), (83, .aload_n 0, 1, [], []), (84, .getfield 42, 3, [10, 5, 3, 7, 0, 536], []), (87, .invokevirtual 177, 3, [1, 6, 3, 958, 0, 0], []), (90, .pop, 1, [], []), (91, .iload_n 3, 1, [], []), (92, .iconst (-1), 1, [], []), (93, .if_icmp .ne 20, 3, [113], []), (96, .aload_n 0, 1, [], []), (97, .getfield 42, 3, [10, 5, 3, 7, 0, 536], []), (100, .getfield 202, 3, [7, 3, 0, 0, 0, 361], []), (103, .iload 7, 2, [], []), (105, .if_icmp .eq 8, 3, [113], []), (108, .iload 4, 2, [], []), (110, .goto 4, 3, [114], []), (113, .iload_n 3, 1, [], []), (114, .istore_n 3, 1, [], []), (115, .goto 40, 3, [155], []), (118, .aload_n 0, 1, [], []), (119, .getfield 42, 3, [10, 5, 3, 7, 0, 536], []), (122, .aload_n 0, 1, [], []), (123, .getfield 19, 3, [10, 1, 4, 4, 0, 532], []), (126, .iload 6, 2, [], []), (128, .iload 5, 2, [], []), (130, .bipush 10, 2, [], []), (132, .idiv, 1, [], []), (133, .bipush 10, 2, [], []), (135, .irem, 1, [], []), (136, .iload 5, 2, [], []), (138, .bipush 10, 2, [], []), (140, .irem, 1, [], []), (141, .invokevirtual 205, 3, [1, 81, 5, 937, 0, 7], []), (144, .ifCond .ne 11, 3, [155], []), (147, .iload_n 2, 1, [], []), (148, .iconst (-1), 1, [], []), (149, .if_icmp .ne 6, 3, [155], []), (152, .iload 4, 2, [], []), (154, .istore_n 2, 1, [], []), (155, .iinc 4 1, 3, [], []), (158, .goto (-128), 3, [30], []), (161, .iload_n 1, 1, [], []), (162, .ifCond .ne 7, 3, [169], []), (165, .iload_n 2, 1, [], []), (166, .goto 19, 3, [185], []), (169, .iload_n 1, 1, [], []), (170, .iconst 1, 1, [], []), (171, .if_icmp .ne 7, 3, [178], []), (174, .iload_n 3, 1, [], []), (175, .goto 10, 3, [185], []), (178, .aload_n 0, 1, [], []), (179, .getfield 42, 3, [10, 5, 3, 7, 0, 536], []), (182, .getfield 208, 3, [7, 5, 0, 0, 0, 368], []), (185, .ireturn, 1, [], [])]
def tb_X12_takes : ZT := [(0, .aload_n 0, 1, [], []), (1, .iload_n 1, 1, [], []), (2, .invokevirtual 122, 3, [1, 136, 2, 811, 0, 10], []), (5, .ifCond .eq 16, 3, [21], []), (8, .aload_n 0, 1, [], []), (9, .iload_n 2, 1, [], []), (10, .invokevirtual 122, 3, [1, 136, 2, 811, 0, 10], []), (13, .ifCond .eq 8, 3, [21], []), (16, .iload_n 1, 1, [], []), (17, .iload_n 2, 1, [], []), (18, .if_icmp .ne 5, 3, [23], []), (21, .iconst (-1), 1, [], []), (22, .ireturn, 1, [], []), (23, .aload_n 0, 1, [], []), (24, .iload_n 1, 1, [], []), (25, .iload_n 2, 1, [], []), (26, .invokevirtual 211, 3, [1, 141, 3, 990, 0, 10], []), (29, .ireturn, 1, [], [])]
def tb_X12_later : ZT := [(0, .iload_n 1, 1, [], []), (1, .ifCond .lt 9, 3, [10], []), (4, .iload_n 1, 1, [], []), (5, .bipush 60, 2, [], []), (7, .if_icmp .le 5, 3, [12], []), (10, .iconst (-1), 1, [], []), (11, .ireturn, 1, [], []), (12, .aload_n 0, 1, [], []), (13, .getfield 42, 3, [10, 5, 3, 7, 0, 536], []), (16, .aload_n 0, 1, [], []), (17, .getfield 38, 3, [10, 4, 3, 7, 0, 535], []), (20, .invokevirtual 193, 3, [1, 75, 2, 931, 0, 7], []), (23, .iconst 0, 1, [], []), (24, .istore_n 2, 1, [], []), (25, .iload_n 2, 1, [], []), (26, .iload_n 1, 1, [], []), (27, .if_icmp .ge 25, 3, [52], []), (30, .aload_n 0, 1, [], []), (31, .getfield 70, 3, [10, 12, 3, 0, 0, 543], []), (34, .aload_n 0, 1, [], []), (35, .getfield 19, 3, [10, 1, 4, 4, 0, 532], []), (38, .aload_n 0, 1, [], []), (39, .getfield 42, 3, [10, 5, 3, 7, 0, 536], []), (42, .invokevirtual 177, 3, [1, 6, 3, 958, 0, 0], []), (45, .pop, 1, [], []), (46, .iinc 2 1, 3, [], []), (49, .goto (-24), 3, [25], []), (52, .aload_n 0, 1, [], []), (53, .getfield 70, 3, [10, 12, 3, 0, 0, 543], []), (56, .aload_n 0, 1, [], []), (57, .getfield 19, 3, [10, 1, 4, 4, 0, 532], []), (60, .aload_n 0, 1, [], []), (61, .getfield 42, 3, [10, 5, 3, 7, 0, 536], []), (64, .invokevirtual 154, 3, [1, 1, 3, 827, 0, 0], []), (67, .aload_n 0, 1, [], []), (68, .getfield 70, 3, [10, 12, 3, 0, 0, 543], []), (71, .getfield 167, 3, [0, 6, 0, 0, 0, 407], []), (74, .ireturn, 1, [], [])]
def tb_X12_total : ZT := [(0, .iload_n 1, 1, [], []), (1, .iconst 1, 1, [], []), (2, .if_icmp .lt 9, 3, [11], []), (5, .iload_n 1, 1, [], []), (6, .bipush 60, 2, [], []), (8, .if_icmp .le 6, 3, [14], []), (11, .ldc 197, 2, [984], [(-1000000)]), (13, .ireturn, 1, [], []), (14, .aload_n 0, 1, [], []), (15, .getfield 42, 3, [10, 5, 3, 7, 0, 536], []), (18, .aload_n 0, 1, [], []), (19, .getfield 38, 3, [10, 4, 3, 7, 0, 535], []), (22, .invokevirtual 193, 3, [1, 75, 2, 931, 0, 7], []), (25, .iconst 0, 1, [], []), (26, .istore_n 2, 1, [], []), (27, .iconst 0, 1, [], []), (28, .istore_n 3, 1, [], []), (29, .iload_n 3, 1, [], []), (30, .iload_n 1, 1, [], []), (31, .if_icmp .ge 27, 3, [58], []), (34, .iload_n 2, 1, [], []), (35, .aload_n 0, 1, [], []), (36, .getfield 70, 3, [10, 12, 3, 0, 0, 543], []), (39, .aload_n 0, 1, [], []), (40, .getfield 19, 3, [10, 1, 4, 4, 0, 532], []), (43, .aload_n 0, 1, [], []), (44, .getfield 42, 3, [10, 5, 3, 7, 0, 536], []), (47, .invokevirtual 177, 3, [1, 6, 3, 958, 0, 0], []), (50, .iadd, 1, [], []), (51, .istore_n 2, 1, [], []), (52, .iinc 3 1, 3, [], []), (55, .goto (-26), 3, [29], []), (58, .iload_n 2, 1, [], []), (59, .ireturn, 1, [], [])]
def tb_X12_breaks : ZT := [(0, .aload_n 0, 1, [], []), (1, .iload_n 1, 1, [], []), (2, .invokevirtual 122, 3, [1, 136, 2, 811, 0, 10], []), (5, .ifCond .eq 14, 3, [19], []), (8, .aload_n 0, 1, [], []), (9, .getfield 38, 3, [10, 4, 3, 7, 0, 535], []), (12, .iload_n 1, 1, [], []), (13, .invokevirtual 142, 3, [1, 78, 2, 819, 0, 7], []), (16, .ifCond .eq 5, 3, [21], []), (19, .iconst (-1), 1, [], []), (20, .ireturn, 1, [], []), (21, .aload_n 0, 1, [], []), (22, .getfield 42, 3, [10, 5, 3, 7, 0, 536], []), (25, .aload_n 0, 1, [], []), (26, .getfield 38, 3, [10, 4, 3, 7, 0, 535], []), (29, .invokevirtual 193, 3, [1, 75, 2, 931, 0, 7], []), (32, .iconst 1, 1, [], []), (33, .istore_n 2, 1, [], []), (34, .iload_n 2, 1, [], []), (35, .bipush 100, 2, [], []), (37, .if_icmp .gt 38, 3, [75], []), (40, .aload_n 0, 1, [], []), (41, .getfield 70, 3, [10, 12, 3, 0, 0, 543], []), (44, .aload_n 0, 1, [], []), (45, .getfield 19, 3, [10, 1, 4, 4, 0, 532], []), (48, .aload_n 0, 1, [], []), (49, .getfield 42, 3, [10, 5, 3, 7, 0, 536], []), (52, .invokevirtual 177, 3, [1, 6, 3, 958, 0, 0], []), (55, .pop, 1, [], []), (56, .aload_n 0, 1, [], []), (57, .getfield 42, 3, [10, 5, 3, 7, 0, 536], []), (60, .iload_n 1, 1, [], []), (61, .invokevirtual 142, 3, [1, 78, 2, 819, 0, 7], []), (64, .ifCond .eq 5, 3, [69], []), (67, .iload_n 2, 1, [], []), (68, .ireturn, 1, [], []), (69, .iinc 2 1, 3, [], []), (72, .goto (-38), 3, [34], []), (75, .iconst (-1), 1, [], []), (76, .ireturn, 1, [], [])]
def tb_X12_lost : ZT := [(0, .aload_n 0, 1, [], []), (1, .getfield 70, 3, [10, 12, 3, 0, 0, 543], []), (4, .aload_n 0, 1, [], []), (5, .getfield 19, 3, [10, 1, 4, 4, 0, 532], []), (8, .aload_n 0, 1, [], []), (9, .getfield 38, 3, [10, 4, 3, 7, 0, 535], []), (12, .invokevirtual 154, 3, [1, 1, 3, 827, 0, 0], []), (15, .aload_n 0, 1, [], []), (16, .getfield 70, 3, [10, 12, 3, 0, 0, 543], []), (19, .getfield 214, 3, [0, 5, 0, 0, 0, 405], []), (22, .aload_n 0, 1, [], []), (23, .getfield 70, 3, [10, 12, 3, 0, 0, 543], []), (26, .getfield 167, 3, [0, 6, 0, 0, 0, 407], []), (29, .isub, 1, [], []), (30, .ireturn, 1, [], [])]
def tb_X12_best : ZT := [(0, .iload_n 1, 1, [], []), (1, .iconst (-1), 1, [], []), (2, .if_icmp .eq 14, 3, [16], []), (5, .aload_n 0, 1, [], []), (6, .iload_n 1, 1, [], []), (7, .invokevirtual 122, 3, [1, 136, 2, 811, 0, 10], []), (10, .ifCond .ne 6, 3, [16], []), (13, .ldc 197, 2, [984], [(-1000000)]), (15, .ireturn, 1, [], []), (16, .aload_n 0, 1, [], []), (17, .iconst 0, 1, [], []), (18, .iload_n 1, 1, [], []), (19, .invokevirtual 217, 3, [1, 142, 3, 1017, 0, 10], []), (22, .ireturn, 1, [], [])]
def tb_X12_alone : ZT := [(0, .iload_n 1, 1, [], []), (1, .iconst 1, 1, [], []), (2, .if_icmp .lt 21, 3, [23], []), (5, .iload_n 1, 1, [], []), (6, .iconst 2, 1, [], []), (7, .if_icmp .gt 16, 3, [23], []), (10, .iload_n 2, 1, [], []), (11, .iconst (-1), 1, [], []), (12, .if_icmp .eq 14, 3, [26], []), (15, .aload_n 0, 1, [], []), (16, .iload_n 2, 1, [], []), (17, .invokevirtual 122, 3, [1, 136, 2, 811, 0, 10], []), (20, .ifCond .ne 6, 3, [26], []), (23, .bipush (-2), 2, [], []), (25, .ireturn, 1, [], []), (26, .aload_n 0, 1, [], []), (27, .iload_n 1, 1, [], []), (28, .iload_n 2, 1, [], []), (29, .invokevirtual 217, 3, [1, 142, 3, 1017, 0, 10], []), (32, .ireturn, 1, [], [])]
def tb_X12_idle : ZT := [(0, .aload_n 0, 1, [], []), (1, .getfield 38, 3, [10, 4, 3, 7, 0, 535], []), (4, .aload_n 0, 1, [], []), (5, .getfield 19, 3, [10, 1, 4, 4, 0, 532], []), (8, .invokevirtual 220, 3, [1, 76, 2, 1085, 0, 7], []), (11, .aload_n 0, 1, [], []), (12, .getfield 38, 3, [10, 4, 3, 7, 0, 535], []), (15, .getfield 202, 3, [7, 3, 0, 0, 0, 361], []), (18, .iconst (-1), 1, [], []), (19, .ixor, 1, [], []), (20, .iand, 1, [], []), (21, .istore_n 1, 1, [], []), (22, .aload_n 0, 1, [], []), (23, .getfield 42, 3, [10, 5, 3, 7, 0, 536], []), (26, .aload_n 0, 1, [], []), (27, .getfield 38, 3, [10, 4, 3, 7, 0, 535], []), (30, .invokevirtual 193, 3, [1, 75, 2, 931, 0, 7], []), (33, .iconst 0, 1, [], []), (34, .istore_n 2, 1, [], []), (35, .iconst (-1), 1, [], []), (36, .istore_n 3, 1, [], []), (37, .iconst 0, 1, [], []), (38, .istore 4, 2, [], []), (40, .iload 4, 2, [], []), (42, .iload_n 1, 1, [], []), (43, .if_icmp .gt 80, 3, [123], []), (46, .iload 4, 2, [], []), (48, .iload_n 1, 1, [], []), (49, .iconst (-1), 1, [], []), (50, .ixor, 1, [], []), (51, .iand, 1, [], []), (52, .ifCond .eq 6, 3, [58], []), (55, .goto 62, 3, [117], []), (58, .aload_n 0, 1, [], []), (59, .getfield 42, 3, [10, 5, 3, 7, 0, 536], []), (62, .aload_n 0, 1, [], []), (63, .getfield 38, 3, [10, 4, 3, 7, 0, 535], []), (66, .getfield 223, 3, [7, 2, 0, 0, 0, 359], []), (69, .iload_n 1, 1, [], []), (70, .iconst (-1), 1, [], []), (71, .ixor, 1, [], []), (72, .iand, 1, [], []), (73, .iload_n 1, 1, [], []), (74, .iload 4, 2, [], []), (76, .iconst (-1), 1, [], []), (77, .ixor, 1, [], []), (78, .iand, 1, [], []), (79, .ior, 1, [], []), (80, .putfield 223, 3, [7, 2, 0, 0, 0, 359], []), (83, .aload_n 0, 1, [], []), (84, .getfield 70, 3, [10, 12, 3, 0, 0, 543], []), (87, .aload_n 0, 1, [], []), (88, .getfield 19, 3, [10, 1, 4, 4, 0, 532], []), (91, .aload_n 0, 1, [], []), (92, .getfield 42, 3, [10, 5, 3, 7, 0, 536], []), (95, .invokevirtual 226, 3, [1, 5, 3, 1086, 0, 0], []), (98, .istore 5, 2, [], []), (100, .iload_n 3, 1, [], []), (101, .iconst (-1), 1, [], []), (102, .if_icmp .eq 9, 3, [111], []), (105, .iload 5, 2, [], []), (107, .iload_n 2, 1, [], []), (108, .if_icmp .le 9, 3, [117], []), (111, .iload 5, 2, [], []), (113, .istore_n 2, 1, [], []), (114, .iload 4, 2, [], []), (116, .istore_n 3, 1, [], []), (117, .iinc 4 1, 3, [], []), (120, .goto (-80), 3, [40], []), (123, .iload_n 3, 1, [], []), (124, .ireturn, 1, [], [])]
def tb_X12_straight : ZT := [(0, .aload_n 0, 1, [], []), (1, .getfield 42, 3, [10, 5, 3, 7, 0, 536], []), (4, .aload_n 0, 1, [], []), (5, .getfield 38, 3, [10, 4, 3, 7, 0, 535], []), (8, .invokevirtual 193, 3, [1, 75, 2, 931, 0, 7], []), (11, .aload_n 0, 1, [], []), (12, .getfield 42, 3, [10, 5, 3, 7, 0, 536], []), (15, .getfield 136, 3, [7, 0, 3, 40, 0, 353], []), (18, .iconst 2, 1, [], []), (19, .invokestatic 228, 3, [0, 263, 2, 1094, 0], []), (22, .aload_n 0, 1, [], []), (23, .getfield 70, 3, [10, 12, 3, 0, 0, 543], []), (26, .aload_n 0, 1, [], []), (27, .getfield 19, 3, [10, 1, 4, 4, 0, 532], []), (30, .aload_n 0, 1, [], []), (31, .getfield 42, 3, [10, 5, 3, 7, 0, 536], []), (34, .invokevirtual 226, 3, [1, 5, 3, 1086, 0, 0], []), (37, .aload_n 0, 1, [], []), (38, .getfield 70, 3, [10, 12, 3, 0, 0, 543], []), (41, .aload_n 0, 1, [], []), (42, .getfield 19, 3, [10, 1, 4, 4, 0, 532], []), (45, .aload_n 0, 1, [], []), (46, .getfield 38, 3, [10, 4, 3, 7, 0, 535], []), (49, .invokevirtual 226, 3, [1, 5, 3, 1086, 0, 0], []), (52, .isub, 1, [], []), (53, .ireturn, 1, [], [])]
def tb_X12_full : ZT := [(0, .aload_n 0, 1, [], []), (1, .getfield 70, 3, [10, 12, 3, 0, 0, 543], []), (4, .aload_n 0, 1, [], []), (5, .getfield 19, 3, [10, 1, 4, 4, 0, 532], []), (8, .aload_n 0, 1, [], []), (9, .getfield 38, 3, [10, 4, 3, 7, 0, 535], []), (12, .invokevirtual 154, 3, [1, 1, 3, 827, 0, 0], []), (15, .iconst 0, 1, [], []), (16, .istore_n 1, 1, [], []), (17, .iconst 0, 1, [], []), (18, .istore_n 2, 1, [], []), (19, .iload_n 2, 1, [], []), (20, .aload_n 0, 1, [], []), (21, .getfield 19, 3, [10, 1, 4, 4, 0, 532], []), (24, .getfield 234, 3, [4, 0, 0, 0, 0, 241], []), (27, .if_icmp .ge 49, 3, [76], []), (30, .aload_n 0, 1, [], []), (31, .getfield 19, 3, [10, 1, 4, 4, 0, 532], []), (34, .getfield 148, 3, [4, 5, 3, 31, 0, 253], []), (37, .iload_n 2, 1, [], []), (38, .iaload, 1, [], []), (39, .iconst (-1), 1, [], []), (40, .if_icmp .eq 30, 3, [70], []), (43, .aload_n 0, 1, [], []), (44, .getfield 70, 3, [10, 12, 3, 0, 0, 543], []), (47, .getfield 164, 3, [0, 3, 3, 23, 0, 402], []), (50, .iload_n 2, 1, [], []), (51, .iaload, 1, [], []), (52, .aload_n 0, 1, [], []), (53, .getfield 19, 3, [10, 1, 4, 4, 0, 532], []), (56, .getfield 151, 3, [4, 6, 3, 32, 0, 257], []), (59, .iload_n 2, 1, [], []), (60, .iaload, 1, [], []), (61, .if_icmp .ne 9, 3, [70], []), (64, .iload_n 1, 1, [], []), (65, .iconst 1, 1, [], []), (66, .iload_n 2, 1, [], []), (67, .ishl, 1, [], []), (68, .ior, 1, [], []), (69, .istore_n 1, 1, [], []), (70, .iinc 2 1, 3, [], []), (73, .goto (-54), 3, [19], []), (76, .iload_n 1, 1, [], []), (77, .ireturn, 1, [], [])]
def tb_X12_dear : ZT := [(0, .iconst (-1), 1, [], []), (1, .istore_n 1, 1, [], []), (2, .iconst 0, 1, [], []), (3, .istore_n 2, 1, [], []), (4, .aload_n 0, 1, [], []), (5, .getfield 70, 3, [10, 12, 3, 0, 0, 543], []), (8, .aload_n 0, 1, [], []), (9, .getfield 19, 3, [10, 1, 4, 4, 0, 532], []), (12, .aload_n 0, 1, [], []), (13, .getfield 38, 3, [10, 4, 3, 7, 0, 535], []), (16, .invokevirtual 154, 3, [1, 1, 3, 827, 0, 0], []), (19, .iconst 0, 1, [], []), (20, .istore_n 3, 1, [], []), (21, .iload_n 3, 1, [], []), (22, .aload_n 0, 1, [], []), (23, .getfield 19, 3, [10, 1, 4, 4, 0, 532], []), (26, .getfield 234, 3, [4, 0, 0, 0, 0, 241], []), (29, .if_icmp .ge 60, 3, [89], []), (32, .aload_n 0, 1, [], []), (33, .getfield 19, 3, [10, 1, 4, 4, 0, 532], []), (36, .getfield 148, 3, [4, 5, 3, 31, 0, 253], []), (39, .iload_n 3, 1, [], []), (40, .iaload, 1, [], []), (41, .iconst (-1), 1, [], []), (42, .if_icmp .eq 41, 3, [83], []), (45, .aload_n 0, 1, [], []), (46, .getfield 70, 3, [10, 12, 3, 0, 0, 543], []), (49, .aload_n 0, 1, [], []), (50, .getfield 19, 3, [10, 1, 4, 4, 0, 532], []), (53, .iload_n 3, 1, [], []), (54, .invokevirtual 237, 3, [1, 4, 3, 1103, 0, 0], []), (57, .iload_n 1, 1, [], []), (58, .iconst (-1), 1, [], []), (59, .if_icmp .eq 14, 3, [73], []), (62, .aload_n 0, 1, [], []), (63, .getfield 70, 3, [10, 12, 3, 0, 0, 543], []), (66, .getfield 167, 3, [0, 6, 0, 0, 0, 407], []), (69, .iload_n 2, 1, [], []), (70, .if_icmp .ge 13, 3, [83], []), (73, .iload_n 3, 1, [], []), (74, .istore_n 1, 1, [], []), (75, .aload_n 0, 1, [], []), (76, .getfield 70, 3, [10, 12, 3, 0, 0, 543], []), (79, .getfield 167, 3, [0, 6, 0, 0, 0, 407], []), (82, .istore_n 2, 1, [], []), (83, .iinc 3 1, 3, [], []), (86, .goto (-65), 3, [21], []), (89, .iload_n 1, 1, [], []), (90, .ireturn, 1, [], [])]
def tb_X12_fault : ZT := [(0, .aload_n 0, 1, [], []), (1, .iload_n 1, 1, [], []), (2, .invokevirtual 122, 3, [1, 136, 2, 811, 0, 10], []), (5, .ifCond .eq 16, 3, [21], []), (8, .aload_n 0, 1, [], []), (9, .getfield 19, 3, [10, 1, 4, 4, 0, 532], []), (12, .getfield 148, 3, [4, 5, 3, 31, 0, 253], []), (15, .iload_n 1, 1, [], []), (16, .iaload, 1, [], []), (17, .iconst (-1), 1, [], []), (18, .if_icmp .ne 5, 3, [23], []), (21, .iconst (-1), 1, [], []), (22, .ireturn, 1, [], []), (23, .aload_n 0, 1, [], []), (24, .getfield 70, 3, [10, 12, 3, 0, 0, 543], []), (27, .aload_n 0, 1, [], []), (28, .getfield 19, 3, [10, 1, 4, 4, 0, 532], []), (31, .aload_n 0, 1, [], []), (32, .getfield 38, 3, [10, 4, 3, 7, 0, 535], []), (35, .invokevirtual 154, 3, [1, 1, 3, 827, 0, 0], []), (38, .aload_n 0, 1, [], []), (39, .getfield 70, 3, [10, 12, 3, 0, 0, 543], []), (42, .aload_n 0, 1, [], []), (43, .getfield 19, 3, [10, 1, 4, 4, 0, 532], []), (46, .iload_n 1, 1, [], []), (47, .invokevirtual 237, 3, [1, 4, 3, 1103, 0, 0], []), (50, .aload_n 0, 1, [], []), (51, .getfield 70, 3, [10, 12, 3, 0, 0, 543], []), (54, .getfield 167, 3, [0, 6, 0, 0, 0, 407], []), (57, .ireturn, 1, [], [])]
def tb_X12_robbed : ZT := [(0, .iload_n 1, 1, [], []), (1, .iconst 1, 1, [], []), (2, .if_icmp .lt 8, 3, [10], []), (5, .iload_n 1, 1, [], []), (6, .iconst 2, 1, [], []), (7, .if_icmp .le 5, 3, [12], []), (10, .iconst (-1), 1, [], []), (11, .ireturn, 1, [], []), (12, .aload_n 0, 1, [], []), (13, .aload_n 0, 1, [], []), (14, .getfield 38, 3, [10, 4, 3, 7, 0, 535], []), (17, .iload_n 1, 1, [], []), (18, .invokevirtual 241, 3, [1, 143, 3, 1112, 0, 10], []), (21, .istore_n 2, 1, [], []), (22, .aload_n 0, 1, [], []), (23, .getfield 42, 3, [10, 5, 3, 7, 0, 536], []), (26, .aload_n 0, 1, [], []), (27, .getfield 38, 3, [10, 4, 3, 7, 0, 535], []), (30, .invokevirtual 193, 3, [1, 75, 2, 931, 0, 7], []), (33, .iconst 0, 1, [], []), (34, .istore_n 3, 1, [], []), (35, .iload_n 3, 1, [], []), (36, .aload_n 0, 1, [], []), (37, .getfield 19, 3, [10, 1, 4, 4, 0, 532], []), (40, .getfield 234, 3, [4, 0, 0, 0, 0, 241], []), (43, .if_icmp .ge 39, 3, [82], []), (46, .aload_n 0, 1, [], []), (47, .getfield 19, 3, [10, 1, 4, 4, 0, 532], []), (50, .getfield 130, 3, [4, 3, 3, 29, 0, 248], []), (53, .iload_n 3, 1, [], []), (54, .iaload, 1, [], []), (55, .iload_n 1, 1, [], []), (56, .if_icmp .eq 20, 3, [76], []), (59, .aload_n 0, 1, [], []), (60, .getfield 42, 3, [10, 5, 3, 7, 0, 536], []), (63, .dup, 1, [], []), (64, .getfield 223, 3, [7, 2, 0, 0, 0, 359], []), (67, .iconst 1, 1, [], []), (68, .iload_n 3, 1, [], []), (69, .ishl, 1, [], []), (70, .iconst (-1), 1, [], []), (71, .ixor, 1, [], []), (72, .iand, 1, [], []), (73, .putfield 223, 3, [7, 2, 0, 0, 0, 359], []), (76, .iinc 3 1, 3, [], []), (79, .goto (-44), 3, [35], []), (82, .aload_n 0, 1, [], []), (83, .aload_n 0, 1, [], []), (84, .getfield 42, 3, [10, 5, 3, 7, 0, 536], []), (87, .iload_n 1, 1, [], []), (88, .invokevirtual 241, 3, [1, 143, 3, 1112, 0, 10], []), (91, .iload_n 2, 1, [], []), (92, .isub, 1, [], []), (93, .ireturn, 1, [], [])]
def tb_X12_front : ZT := [(0, .aload_n 0, 1, [], []), (1, .getfield 70, 3, [10, 12, 3, 0, 0, 543], []), (4, .aload_n 0, 1, [], []), (5, .getfield 19, 3, [10, 1, 4, 4, 0, 532], []), (8, .aload_n 0, 1, [], []), (9, .getfield 38, 3, [10, 4, 3, 7, 0, 535], []), (12, .invokevirtual 154, 3, [1, 1, 3, 827, 0, 0], []), (15, .iconst 0, 1, [], []), (16, .istore_n 1, 1, [], []), (17, .iconst 0, 1, [], []), (18, .istore_n 2, 1, [], []), (19, .iload_n 2, 1, [], []), (20, .aload_n 0, 1, [], []), (21, .getfield 19, 3, [10, 1, 4, 4, 0, 532], []), (24, .getfield 234, 3, [4, 0, 0, 0, 0, 241], []), (27, .if_icmp .ge 27, 3, [54], []), (30, .aload_n 0, 1, [], []), (31, .getfield 70, 3, [10, 12, 3, 0, 0, 543], []), (34, .getfield 245, 3, [0, 0, 3, 20, 0, 394], []), (37, .iload_n 2, 1, [], []), (38, .iaload, 1, [], []), (39, .ifCond .ne 9, 3, [48], []), (42, .iload_n 1, 1, [], []), (43, .iconst 1, 1, [], []), (44, .iload_n 2, 1, [], []), (45, .ishl, 1, [], []), (46, .ior, 1, [], []), (47, .istore_n 1, 1, [], []), (48, .iinc 2 1, 3, [], []), (51, .goto (-32), 3, [19], []), (54, .iload_n 1, 1, [], []), (55, .ireturn, 1, [], [])]
def tb_X12_shade : ZT := [(0, .aload_n 0, 1, [], []), (1, .iload_n 1, 1, [], []), (2, .invokevirtual 122, 3, [1, 136, 2, 811, 0, 10], []), (5, .ifCond .ne 5, 3, [10], []), (8, .iconst (-1), 1, [], []), (9, .ireturn, 1, [], []), (10, .iconst 0, 1, [], []), (11, .istore_n 2, 1, [], []), (12, .iconst 0, 1, [], []), (13, .istore_n 3, 1, [], []), (14, .iload_n 3, 1, [], []), (15, .aload_n 0, 1, [], []), (16, .getfield 19, 3, [10, 1, 4, 4, 0, 532], []), (19, .getfield 234, 3, [4, 0, 0, 0, 0, 241], []), (22, .if_icmp .ge 29, 3, [51], []), (25, .iload_n 3, 1, [], []), (26, .iload_n 1, 1, [], []), (27, .if_icmp .eq 18, 3, [45], []), (30, .aload_n 0, 1, [], []), (31, .iload_n 1, 1, [], []), (32, .iload_n 3, 1, [], []), (33, .invokevirtual 211, 3, [1, 141, 3, 990, 0, 10], []), (36, .ifCond .le 9, 3, [45], []), (39, .iload_n 2, 1, [], []), (40, .iconst 1, 1, [], []), (41, .iload_n 3, 1, [], []), (42, .ishl, 1, [], []), (43, .ior, 1, [], []), (44, .istore_n 2, 1, [], []), (45, .iinc 3 1, 3, [], []), (48, .goto (-34), 3, [14], []), (51, .iload_n 2, 1, [], []), (52, .ireturn, 1, [], [])]
def tb_X12_hops : ZT := [(0, .aload_n 0, 1, [], []), (1, .iload_n 1, 1, [], []), (2, .invokevirtual 122, 3, [1, 136, 2, 811, 0, 10], []), (5, .ifCond .ne 5, 3, [10], []), (8, .iconst (-1), 1, [], []), (9, .ireturn, 1, [], []), (10, .iload_n 1, 1, [], []), (11, .istore_n 2, 1, [], []), (12, .iconst 0, 1, [], []), (13, .istore_n 3, 1, [], []), (14, .iconst 0, 1, [], []), (15, .istore 4, 2, [], []), (17, .iload 4, 2, [], []), (19, .bipush 6, 2, [], []), (21, .if_icmp .ge 43, 3, [64], []), (24, .aload_n 0, 1, [], []), (25, .iload_n 2, 1, [], []), (26, .invokevirtual 122, 3, [1, 136, 2, 811, 0, 10], []), (29, .ifCond .eq 35, 3, [64], []), (32, .aload_n 0, 1, [], []), (33, .getfield 19, 3, [10, 1, 4, 4, 0, 532], []), (36, .getfield 148, 3, [4, 5, 3, 31, 0, 253], []), (39, .iload_n 2, 1, [], []), (40, .iaload, 1, [], []), (41, .iconst (-1), 1, [], []), (42, .if_icmp .eq 22, 3, [64], []), (45, .iinc 3 1, 3, [], []), (48, .aload_n 0, 1, [], []), (49, .getfield 19, 3, [10, 1, 4, 4, 0, 532], []), (52, .getfield 148, 3, [4, 5, 3, 31, 0, 253], []), (55, .iload_n 2, 1, [], []), (56, .iaload, 1, [], []), (57, .istore_n 2, 1, [], []), (58, .iinc 4 1, 3, [], []), (61, .goto (-44), 3, [17], []), (64, .iload_n 3, 1, [], []), (65, .ireturn, 1, [], [])]
def tb_X12_see : ZT := [(0, .aload_n 0, 1, [], []), (1, .iload_n 1, 1, [], []), (2, .invokevirtual 122, 3, [1, 136, 2, 811, 0, 10], []), (5, .ifCond .eq 13, 3, [18], []), (8, .iload_n 2, 1, [], []), (9, .ifCond .lt 9, 3, [18], []), (12, .iload_n 2, 1, [], []), (13, .bipush 99, 2, [], []), (15, .if_icmp .le 5, 3, [20], []), (18, .iconst 0, 1, [], []), (19, .ireturn, 1, [1], []), (20, .aload_n 0, 1, [], []), (21, .getfield 58, 3, [10, 10, 3, 3, 0, 541], []), (24, .iload_n 1, 1, [], []), (25, .bipush 100, 2, [], []), (27, .imul, 1, [], []), (28, .iload_n 2, 1, [], []), (29, .iadd, 1, [], []), (30, .invokevirtual 248, 3, [1, 14, 2, 1132, 0, 3], []), (33, .ireturn, 1, [1], [])]
def tb_X12_winds : ZT := [(0, .aload_n 0, 1, [], []), (1, .getfield 83, 3, [10, 14, 3, 9, 0, 545], []), (4, .aload_n 0, 1, [], []), (5, .getfield 19, 3, [10, 1, 4, 4, 0, 532], []), (8, .aload_n 0, 1, [], []), (9, .getfield 38, 3, [10, 4, 3, 7, 0, 535], []), (12, .aload_n 0, 1, [], []), (13, .getfield 70, 3, [10, 12, 3, 0, 0, 543], []), (16, .aload_n 0, 1, [], []), (17, .getfield 58, 3, [10, 10, 3, 3, 0, 541], []), (20, .invokevirtual 251, 3, [1, 92, 5, 1137, 0, 9], []), (23, .iload_n 1, 1, [], []), (24, .tableswitch 64 0 3 #[32, 40, 48, 56], 32, [88, 56, 64, 72, 80], [0, 1, 2, 3]), (56, .aload_n 0, 1, [], []), (57, .getfield 83, 3, [10, 14, 3, 9, 0, 545], []), (60, .getfield 255, 3, [9, 0, 0, 0, 0, 433], []), (63, .ireturn, 1, [], []), (64, .aload_n 0, 1, [], []), (65, .getfield 83, 3, [10, 14, 3, 9, 0, 545], []), (68, .getfield 258, 3, [9, 1, 0, 0, 0, 435], []), (71, .ireturn, 1, [], []), (72, .aload_n 0, 1, [], []), (73, .getfield 83, 3, [10, 14, 3, 9, 0, 545], []), (76, .getfield 261, 3, [9, 2, 0, 0, 0, 437], []), (79, .ireturn, 1, [], []), (80, .aload_n 0, 1, [], []), (81, .getfield 83, 3, [10, 14, 3, 9, 0, 545], []), (84, .getfield 264, 3, [9, 3, 0, 0, 0, 439], []), (87, .ireturn, 1, [], []), (88, .iconst (-1), 1, [], []), (89, .ireturn, 1, [], [])]
def tb_X12_ask : ZT := [(0, .aload_n 0, 1, [], []), (1, .getfield 83, 3, [10, 14, 3, 9, 0, 545], []), (4, .aload_n 0, 1, [], []), (5, .getfield 19, 3, [10, 1, 4, 4, 0, 532], []), (8, .aload_n 0, 1, [], []), (9, .getfield 38, 3, [10, 4, 3, 7, 0, 535], []), (12, .aload_n 0, 1, [], []), (13, .getfield 70, 3, [10, 12, 3, 0, 0, 543], []), (16, .aload_n 0, 1, [], []), (17, .getfield 58, 3, [10, 10, 3, 3, 0, 541], []), (20, .invokevirtual 251, 3, [1, 92, 5, 1137, 0, 9], []), (23, .iconst (-1), 1, [], []), (24, .istore_n 1, 1, [], []), (25, .aload_n 0, 1, [], []), (26, .getfield 83, 3, [10, 14, 3, 9, 0, 545], []), (29, .getfield 255, 3, [9, 0, 0, 0, 0, 433], []), (32, .istore_n 2, 1, [], []), (33, .iconst 0, 1, [], []), (34, .istore_n 3, 1, [], []), (35, .iload_n 3, 1, [], []), (36, .aload_n 0, 1, [], []), (37, .getfield 19, 3, [10, 1, 4, 4, 0, 532], []), (40, .getfield 234, 3, [4, 0, 0, 0, 0, 241], []), (43, .if_icmp .ge 30, 3, [73], []), (46, .aload_n 0, 1, [], []), (47, .getfield 83, 3, [10, 14, 3, 9, 0, 545], []), (50, .iload_n 3, 1, [], []), (51, .invokevirtual 267, 3, [1, 93, 2, 1157, 0, 9], []), (54, .istore 4, 2, [], []), (56, .iload 4, 2, [], []), (58, .iload_n 2, 1, [], []), (59, .if_icmp .ge 8, 3, [67], []), (62, .iload 4, 2, [], []), (64, .istore_n 2, 1, [], []), (65, .iload_n 3, 1, [], []), (66, .istore_n 1, 1, [], []), (67, .iinc 3 1, 3, [], []), (70, .goto (-35), 3, [35], []), (73, .iload_n 1, 1, [], []), (74, .ireturn, 1, [], [])]
def tb_X12_chance : ZT := [(0, .aload_n 0, 1, [], []), (1, .iload_n 1, 1, [], []), (2, .invokevirtual 122, 3, [1, 136, 2, 811, 0, 10], []), (5, .ifCond .eq 24, 3, [29], []), (8, .iload_n 2, 1, [], []), (9, .iconst 1, 1, [], []), (10, .if_icmp .lt 19, 3, [29], []), (13, .iload_n 2, 1, [], []), (14, .bipush 99, 2, [], []), (16, .if_icmp .gt 13, 3, [29], []), (19, .iload_n 3, 1, [], []), (20, .ifCond .lt 9, 3, [29], []), (23, .iload_n 3, 1, [], []), (24, .bipush 10, 2, [], []), (26, .if_icmp .le 5, 3, [31], []), (29, .iconst (-1), 1, [], []), (30, .ireturn, 1, [], []), (31, .aload_n 0, 1, [], []), (32, .getfield 19, 3, [10, 1, 4, 4, 0, 532], []), (35, .getfield 270, 3, [4, 8, 3, 3, 0, 266], []), (38, .aload_n 0, 1, [], []), (39, .getfield 38, 3, [10, 4, 3, 7, 0, 535], []), (42, .getfield 273, 3, [7, 4, 0, 0, 0, 365], []), (45, .invokevirtual 276, 3, [1, 16, 2, 995, 0, 3], []), (48, .istore 4, 2, [], []), (50, .iconst 0, 1, [], []), (51, .istore 5, 2, [], []), (53, .iconst 0, 1, [], []), (54, .istore 6, 2, [], []), (56, .iload 6, 2, [], []), (58, .iconst 4, 1, [], []), (59, .if_icmp .ge 111, 3, [170], []), (62, .aload_n 0, 1, [], []), (63, .getfield 70, 3, [10, 12, 3, 0, 0, 543], []), (66, .aload_n 0, 1, [], []), (67, .getfield 19, 3, [10, 1, 4, 4, 0, 532], []), (70, .aload_n 0, 1, [], []), (71, .getfield 38, 3, [10, 4, 3, 7, 0, 535], []), (74, .iload 6, 2, [], []), (76, .invokevirtual 279, 3, [1, 2, 4, 1166, 0, 0], []), (79, .aload_n 0, 1, [], []), (80, .getfield 70, 3, [10, 12, 3, 0, 0, 543], []), (83, .aload_n 0, 1, [], []), (84, .getfield 19, 3, [10, 1, 4, 4, 0, 532], []), (87, .aload_n 0, 1, [], []), (88, .getfield 38, 3, [10, 4, 3, 7, 0, 535], []), (91, .iload 4, 2, [], []), (93, .invokevirtual 283, 3, [1, 3, 4, 1167, 0, 0], []), (96, .iload 5, 2, [], []), (98, .aload_n 0, 1, [], []), (99, .getfield 70, 3, [10, 12, 3, 0, 0, 543], []), (102, .getfield 161, 3, [0, 2, 3, 22, 0, 399], []), (105, .iload_n 1, 1, [], []), (106, .iaload, 1, [], []), (107, .iload_n 2, 1, [], []), (108, .if_icmp .lt 7, 3, [115], []), (111, .iload_n 3, 1, [], []), (112, .goto 4, 3, [116], []), (115, .iconst 0, 1, [], []), (116, .iadd, 1, [], []), (117, .istore 5, 2, [], []), (119, .aload_n 0, 1, [], []), (120, .getfield 70, 3, [10, 12, 3, 0, 0, 543], []), (123, .aload_n 0, 1, [], []), (124, .getfield 19, 3, [10, 1, 4, 4, 0, 532], []), (127, .aload_n 0, 1, [], []), (128, .getfield 38, 3, [10, 4, 3, 7, 0, 535], []), (131, .iload 4, 2, [], []), (133, .iconst 2, 1, [], []), (134, .idiv, 1, [], []), (135, .invokevirtual 283, 3, [1, 3, 4, 1167, 0, 0], []), (138, .iload 5, 2, [], []), (140, .aload_n 0, 1, [], []), (141, .getfield 70, 3, [10, 12, 3, 0, 0, 543], []), (144, .getfield 161, 3, [0, 2, 3, 22, 0, 399], []), (147, .iload_n 1, 1, [], []), (148, .iaload, 1, [], []), (149, .iload_n 2, 1, [], []), (150, .if_icmp .lt 10, 3, [160], []), (153, .bipush 10, 2, [], []), (155, .iload_n 3, 1, [], []), (156, .isub, 1, [], []), (157, .goto 4, 3, [161], []), (160, .iconst 0, 1, [], []), (161, .iadd, 1, [], []), (162, .istore 5, 2, [], []), (164, .iinc 6 1, 3, [], []), (167, .goto (-111), 3, [56], []), (170, .iload 5, 2, [], []), (172, .sipush 25000, 3, [], []), (175, .imul, 1, [], []), (176, .ireturn, 1, [], [])]
def tb_X12_rests : ZT := [(0, .iload_n 1, 1, [], []), (1, .invokestatic 286, 3, [0, 144, 1, 1206, 0], []), (4, .ifCond .eq 23, 3, [27], []), (7, .iload_n 2, 1, [], []), (8, .invokestatic 286, 3, [0, 144, 1, 1206, 0], []), (11, .ifCond .eq 16, 3, [27], []), (14, .iload_n 3, 1, [], []), (15, .invokestatic 286, 3, [0, 144, 1, 1206, 0], []), (18, .ifCond .eq 9, 3, [27], []), (21, .iload 4, 2, [], []), (23, .iconst (-1), 1, [], []), (24, .if_icmp .ge 11, 3, [35], []), (27, .new 289, 3, [999, 0], []), (30, .dup, 1, [], []), (31, .invokespecial 291, 3, [9, 0, 0, 0], []), (34, .athrow, 1, [], []), (35, .iconst 0, 1, [], []), (36, .istore 5, 2, [], []), (38, .iconst 0, 1, [], []), (39, .istore 6, 2, [], []), (41, .iload 6, 2, [], []), (43, .iconst 4, 1, [], []), (44, .if_icmp .ge 60, 3, [104], []), (47, .iload 6, 2, [], []), (49, .iconst 1, 1, [], []), (50, .ishr, 1, [], []), (51, .istore 7, 2, [], []), (53, .iload 6, 2, [], []), (55, .iconst 1, 1, [], []), (56, .iand, 1, [], []), (57, .istore 8, 2, [], []), (59, .iload 7, 2, [], []), (61, .iload 8, 2, [], []), (63, .iload_n 1, 1, [], []), (64, .iload_n 2, 1, [], []), (65, .iload_n 3, 1, [], []), (66, .invokestatic 292, 3, [0, 145, 5, 1270, 0], []), (69, .ifCond .eq 29, 3, [98], []), (72, .iload 8, 2, [], []), (74, .iload 7, 2, [], []), (76, .iload_n 1, 1, [], []), (77, .iload_n 2, 1, [], []), (78, .iload_n 3, 1, [], []), (79, .invokestatic 292, 3, [0, 145, 5, 1270, 0], []), (82, .ifCond .eq 16, 3, [98], []), (85, .iload 5, 2, [], []), (87, .iload 4, 2, [], []), (89, .if_icmp .ne 6, 3, [95], []), (92, .iload 6, 2, [], []), (94, .ireturn, 1, [], []), (95, .iinc 5 1, 3, [], []), (98, .iinc 6 1, 3, [], []), (101, .goto (-60), 3, [41], []), (104, .iload 4, 2, [], []), (106, .iconst (-1), 1, [], []), (107, .if_icmp .eq 11, 3, [118], []), (110, .new 289, 3, [999, 0], []), (113, .dup, 1, [], []), (114, .invokespecial 291, 3, [9, 0, 0, 0], []), (117, .athrow, 1, [], []), (118, .iload 5, 2, [], []), (120, .ireturn, 1, [], [])]
def tb_X12_days : ZT := [(0, .iload_n 1, 1, [], []), (1, .ifCond .lt 30, 3, [31], []), (4, .iload_n 1, 1, [], []), (5, .sipush 9999, 3, [], []), (8, .if_icmp .gt 23, 3, [31], []), (11, .iload_n 2, 1, [], []), (12, .iconst 1, 1, [], []), (13, .if_icmp .lt 18, 3, [31], []), (16, .iload_n 2, 1, [], []), (17, .bipush 99, 2, [], []), (19, .if_icmp .gt 12, 3, [31], []), (22, .iload_n 3, 1, [], []), (23, .ifCond .lt 8, 3, [31], []), (26, .iload_n 3, 1, [], []), (27, .iconst 2, 1, [], []), (28, .if_icmp .le 6, 3, [34], []), (31, .ldc 197, 2, [984], [(-1000000)]), (33, .ireturn, 1, [], []), (34, .aload_n 0, 1, [], []), (35, .getfield 42, 3, [10, 5, 3, 7, 0, 536], []), (38, .aload_n 0, 1, [], []), (39, .getfield 38, 3, [10, 4, 3, 7, 0, 535], []), (42, .invokevirtual 193, 3, [1, 75, 2, 931, 0, 7], []), (45, .iconst 0, 1, [], []), (46, .istore 4, 2, [], []), (48, .iload_n 1, 1, [], []), (49, .i2l, 1, [], []), (50, .lstore 5, 2, [], []), (52, .iconst 0, 1, [], []), (53, .istore 7, 2, [], []), (55, .iload 7, 2, [], []), (57, .iload_n 2, 1, [], []), (58, .if_icmp .ge 123, 3, [181], []), (61, .aload_n 0, 1, [], []), (62, .getfield 19, 3, [10, 1, 4, 4, 0, 532], []), (65, .getfield 234, 3, [4, 0, 0, 0, 0, 241], []), (68, .ifCond .le 87, 3, [155], []), (71, .lload 5, 2, [], []), (73, .invokestatic 296, 3, [0, 147, 1, 1172, 0], []), (76, .lstore 5, 2, [], []), (78, .lload 5, 2, [], []), (80, .aload_n 0, 1, [], []), (81, .getfield 19, 3, [10, 1, 4, 4, 0, 532], []), (84, .getfield 234, 3, [4, 0, 0, 0, 0, 241], []), (87, .invokestatic 300, 3, [0, 148, 2, 1178, 0], []), (90, .istore 8, 2, [], []), (92, .lload 5, 2, [], []), (94, .invokestatic 296, 3, [0, 147, 1, 1172, 0], []), (97, .lstore 5, 2, [], []), (99, .lload 5, 2, [], []), (101, .bipush 6, 2, [], []), (103, .invokestatic 300, 3, [0, 148, 2, 1178, 0], []), (106, .istore 9, 2, [], []), (108, .iconst 2, 1, [], []), (109, .istore 10, 2, [], []), (111, .iload 9, 2, [], []), (113, .ifCond .ne 18, 3, [131], []), (116, .lload 5, 2, [], []), (118, .invokestatic 296, 3, [0, 147, 1, 1172, 0], []), (121, .lstore 5, 2, [], []), (123, .lload 5, 2, [], []), (125, .iconst 5, 1, [], []), (126, .invokestatic 300, 3, [0, 148, 2, 1178, 0], []), (129, .istore 10, 2, [], []), (131, .iload 9, 2, [], []), (133, .iconst 3, 1, [], []), (134, .if_icmp .gt 21, 3, [155], []), (137, .aload_n 0, 1, [], []), (138, .getfield 42, 3, [10, 5, 3, 7, 0, 536], []), (141, .aload_n 0, 1, [], []), (142, .getfield 19, 3, [10, 1, 4, 4, 0, 532], []), (145, .iload 9, 2, [], []), (147, .iload 8, 2, [], []), (149, .iload 10, 2, [], []), (151, .invokevirtual 205, 3, [1, 81, 5, 937, 0, 7], []), (154, .pop, 1, [], []), (155, .iload 4, 2, [], []), (157, .aload_n 0, 1, [], []), (158, .getfield 70, 3, [10, 12, 3, 0, 0, 543], []), (161, .aload_n 0, 1, [], []), (162, .getfield 19, 3, [10, 1, 4, 4, 0, 532], []), (165, .aload_n 0, 1, [], []), (166, .getfield 42, 3, [10, 5, 3, 7, 0, 536], []), (169, .invokevirtual 177, 3, [1, 6, 3, 958, 0, 0], []), (172, .iadd, 1, [], []), (173, .istore 4, 2, [], []), (175, .iinc 7 1, 3, [], []), (178, .goto (-123), 3, [55], []), (181, .aload_n 0, 1, [], []), (182, .getfield 70, 3, [10, 12, 3, 0, 0, 543], []), (185, .aload_n 0, 1, [], []), (186, .getfield 19, 3, [10, 1, 4, 4, 0, 532], []), (189, .aload_n 0, 1, [], []), (190, .getfield 42, 3, [10, 5, 3, 7, 0, 536], []), (193, .invokevirtual 154, 3, [1, 1, 3, 827, 0, 0], []), (196, .iload_n 3, 1, [], []), (197, .ifCond .ne 8, 3, [205], []), (200, .iload 4, 2, [], []), (202, .goto 25, 3, [227], []), (205, .iload_n 3, 1, [], []), (206, .iconst 1, 1, [], []), (207, .if_icmp .ne 13, 3, [220], []), (210, .aload_n 0, 1, [], []), (211, .getfield 42, 3, [10, 5, 3, 7, 0, 536], []), (214, .getfield 202, 3, [7, 3, 0, 0, 0, 361], []), (217, .goto 10, 3, [227], []), (220, .aload_n 0, 1, [], []), (221, .getfield 70, 3, [10, 12, 3, 0, 0, 543], []), (224, .getfield 167, 3, [0, 6, 0, 0, 0, 407], []), (227, .ireturn, 1, [], [])]
def tb_X12_mark : ZT := [(0, .iload_n 1, 1, [], []), (1, .ifCond .lt 12, 3, [13], []), (4, .iload_n 1, 1, [], []), (5, .aload_n 0, 1, [], []), (6, .getfield 63, 3, [10, 11, 3, 47, 0, 542], []), (9, .arraylength, 1, [], []), (10, .if_icmp .lt 5, 3, [15], []), (13, .iconst 0, 1, [], []), (14, .ireturn, 1, [1], []), (15, .aload_n 0, 1, [], []), (16, .getfield 63, 3, [10, 11, 3, 47, 0, 542], []), (19, .iload_n 1, 1, [], []), (20, .aaload, 1, [], []), (21, .astore_n 3, 1, [], []), (22, .iload_n 2, 1, [], []), (23, .ifCond .ne 21, 3, [44], []), (26, .aload_n 3, 1, [], []), (27, .aload_n 0, 1, [], []), (28, .getfield 38, 3, [10, 4, 3, 7, 0, 535], []), (31, .aload_n 0, 1, [], []), (32, .getfield 54, 3, [10, 9, 3, 3, 0, 540], []), (35, .aload_n 0, 1, [], []), (36, .getfield 58, 3, [10, 10, 3, 3, 0, 541], []), (39, .invokevirtual 304, 3, [1, 12, 4, 1186, 0, 2], []), (42, .iconst 1, 1, [], []), (43, .ireturn, 1, [1], []), (44, .aload_n 3, 1, [], []), (45, .getfield 108, 3, [2, 3, 1, 0, 0, 486], []), (48, .ifCond .ne 5, 3, [53], []), (51, .iconst 0, 1, [], []), (52, .ireturn, 1, [1], []), (53, .aload_n 0, 1, [], []), (54, .getfield 38, 3, [10, 4, 3, 7, 0, 535], []), (57, .aload_n 3, 1, [], []), (58, .getfield 308, 3, [2, 0, 3, 7, 0, 480], []), (61, .invokevirtual 193, 3, [1, 75, 2, 931, 0, 7], []), (64, .aload_n 0, 1, [], []), (65, .getfield 54, 3, [10, 9, 3, 3, 0, 540], []), (68, .aload_n 3, 1, [], []), (69, .getfield 311, 3, [2, 1, 3, 3, 0, 482], []), (72, .invokevirtual 312, 3, [1, 17, 2, 1192, 0, 3], []), (75, .aload_n 0, 1, [], []), (76, .getfield 58, 3, [10, 10, 3, 3, 0, 541], []), (79, .aload_n 3, 1, [], []), (80, .getfield 315, 3, [2, 2, 3, 3, 0, 484], []), (83, .invokevirtual 312, 3, [1, 17, 2, 1192, 0, 3], []), (86, .aload_n 0, 1, [], []), (87, .invokevirtual 112, 3, [1, 139, 1, 764, 0, 10], []), (90, .aload_n 0, 1, [], []), (91, .invokevirtual 115, 3, [1, 140, 1, 768, 0, 10], []), (94, .iconst 1, 1, [], []), (95, .ireturn, 1, [1], [])]
def tb_X12_count : ZT := [(0, .iload_n 1, 1, [], []), (1, .tableswitch 210 0 12 #[67, 75, 83, 101, 119, 134, 157, 165, 173, 181, 189, 197, 202], 67, [211, 68, 76, 84, 102, 120, 135, 158, 166, 174, 182, 190, 198, 203], [0, 1, 2, 3, 4, 5, 6, 7, 8, 9, 10, 11, 12]), (68, .aload_n 0, 1, [], []), (69, .getfield 19, 3, [10, 1, 4, 4, 0, 532], []), (72, .getfield 234, 3, [4, 0, 0, 0, 0, 241], []), (75, .ireturn, 1, [], []), (76, .aload_n 0, 1, [], []), (77, .getfield 38, 3, [10, 4, 3, 7, 0, 535], []), (80, .getfield 273, 3, [7, 4, 0, 0, 0, 365], []), (83, .ireturn, 1, [], []), (84, .aload_n 0, 1, [], []), (85, .getfield 19, 3, [10, 1, 4, 4, 0, 532], []), (88, .getfield 270, 3, [4, 8, 3, 3, 0, 266], []), (91, .aload_n 0, 1, [], []), (92, .getfield 38, 3, [10, 4, 3, 7, 0, 535], []), (95, .getfield 273, 3, [7, 4, 0, 0, 0, 365], []), (98, .invokevirtual 276, 3, [1, 16, 2, 995, 0, 3], []), (101, .ireturn, 1, [], []), (102, .aload_n 0, 1, [], []), (103, .getfield 19, 3, [10, 1, 4, 4, 0, 532], []), (106, .getfield 316, 3, [4, 9, 3, 3, 0, 271], []), (109, .aload_n 0, 1, [], []), (110, .getfield 38, 3, [10, 4, 3, 7, 0, 535], []), (113, .getfield 273, 3, [7, 4, 0, 0, 0, 365], []), (116, .invokevirtual 276, 3, [1, 16, 2, 995, 0, 3], []), (119, .ireturn, 1, [], []), (120, .aload_n 0, 1, [], []), (121, .getfield 19, 3, [10, 1, 4, 4, 0, 532], []), (124, .aload_n 0, 1, [], []), (125, .getfield 38, 3, [10, 4, 3, 7, 0, 535], []), (128, .getfield 273, 3, [7, 4, 0, 0, 0, 365], []), (131, .invokevirtual 319, 3, [1, 23, 2, 1197, 0, 4], []), (134, .ireturn, 1, [], []), (135, .aload_n 0, 1, [], []), (136, .getfield 70, 3, [10, 12, 3, 0, 0, 543], []), (139, .aload_n 0, 1, [], []), (140, .getfield 19, 3, [10, 1, 4, 4, 0, 532], []), (143, .aload_n 0, 1, [], []), (144, .getfield 38, 3, [10, 4, 3, 7, 0, 535], []), (147, .invokevirtual 154, 3, [1, 1, 3, 827, 0, 0], []), (150, .aload_n 0, 1, [], []), (151, .getfield 70, 3, [10, 12, 3, 0, 0, 543], []), (154, .getfield 214, 3, [0, 5, 0, 0, 0, 405], []), (157, .ireturn, 1, [], []), (158, .aload_n 0, 1, [], []), (159, .getfield 38, 3, [10, 4, 3, 7, 0, 535], []), (162, .getfield 208, 3, [7, 5, 0, 0, 0, 368], []), (165, .ireturn, 1, [], []), (166, .aload_n 0, 1, [], []), (167, .getfield 38, 3, [10, 4, 3, 7, 0, 535], []), (170, .getfield 223, 3, [7, 2, 0, 0, 0, 359], []), (173, .ireturn, 1, [], []), (174, .aload_n 0, 1, [], []), (175, .getfield 38, 3, [10, 4, 3, 7, 0, 535], []), (178, .getfield 202, 3, [7, 3, 0, 0, 0, 361], []), (181, .ireturn, 1, [], []), (182, .aload_n 0, 1, [], []), (183, .getfield 54, 3, [10, 9, 3, 3, 0, 540], []), (186, .getfield 105, 3, [3, 1, 0, 0, 0, 198], []), (189, .ireturn, 1, [], []), (190, .aload_n 0, 1, [], []), (191, .getfield 58, 3, [10, 10, 3, 3, 0, 541], []), (194, .getfield 105, 3, [3, 1, 0, 0, 0, 198], []), (197, .ireturn, 1, [], []), (198, .aload_n 0, 1, [], []), (199, .getfield 181, 3, [10, 8, 0, 0, 0, 539], []), (202, .ireturn, 1, [], []), (203, .aload_n 0, 1, [], []), (204, .getfield 12, 3, [10, 0, 3, 8, 0, 531], []), (207, .getfield 97, 3, [8, 1, 0, 0, 0, 150], []), (210, .ireturn, 1, [], []), (211, .ldc 197, 2, [984], [(-1000000)]), (213, .ireturn, 1, [], [])]
def tb_X12_stands : ZT := [(0, .iload_n 1, 1, [], []), (1, .ifCond .lt 18, 3, [19], []), (4, .iload_n 1, 1, [], []), (5, .aload_n 0, 1, [], []), (6, .getfield 19, 3, [10, 1, 4, 4, 0, 532], []), (9, .getfield 234, 3, [4, 0, 0, 0, 0, 241], []), (12, .if_icmp .ge 7, 3, [19], []), (15, .iconst 1, 1, [], []), (16, .goto 4, 3, [20], []), (19, .iconst 0, 1, [], []), (20, .ireturn, 1, [1], [])]
def tb_X12_act : ZT := [(0, .aload_n 0, 1, [], []), (1, .getfield 38, 3, [10, 4, 3, 7, 0, 535], []), (4, .aload_n 0, 1, [], []), (5, .getfield 19, 3, [10, 1, 4, 4, 0, 532], []), (8, .iload_n 1, 1, [], []), (9, .iload_n 2, 1, [], []), (10, .invokevirtual 322, 3, [1, 80, 4, 919, 0, 7], []), (13, .ifCond .ne 5, 3, [18], []), (16, .iconst 0, 1, [], []), (17, .ireturn, 1, [1], []), (18, .aload_n 0, 1, [], []), (19, .invokevirtual 174, 3, [1, 138, 1, 927, 0, 10], []), (22, .aload_n 0, 1, [], []), (23, .getfield 38, 3, [10, 4, 3, 7, 0, 535], []), (26, .aload_n 0, 1, [], []), (27, .getfield 19, 3, [10, 1, 4, 4, 0, 532], []), (30, .iload_n 1, 1, [], []), (31, .iload_n 2, 1, [], []), (32, .iload_n 3, 1, [], []), (33, .invokevirtual 205, 3, [1, 81, 5, 937, 0, 7], []), (36, .ireturn, 1, [1], [])]
def tb_X12_remember : ZT := [(0, .aload_n 0, 1, [], []), (1, .getfield 45, 3, [10, 6, 3, 46, 0, 537], []), (4, .aload_n 0, 1, [], []), (5, .getfield 184, 3, [10, 7, 0, 0, 0, 538], []), (8, .aaload, 1, [], []), (9, .aload_n 0, 1, [], []), (10, .getfield 38, 3, [10, 4, 3, 7, 0, 535], []), (13, .invokevirtual 193, 3, [1, 75, 2, 931, 0, 7], []), (16, .aload_n 0, 1, [], []), (17, .aload_n 0, 1, [], []), (18, .getfield 184, 3, [10, 7, 0, 0, 0, 538], []), (21, .iconst 1, 1, [], []), (22, .iadd, 1, [], []), (23, .bipush 16, 2, [], []), (25, .irem, 1, [], []), (26, .putfield 184, 3, [10, 7, 0, 0, 0, 538], []), (29, .aload_n 0, 1, [], []), (30, .aload_n 0, 1, [], []), (31, .getfield 181, 3, [10, 8, 0, 0, 0, 539], []), (34, .iconst 1, 1, [], []), (35, .iadd, 1, [], []), (36, .bipush 16, 2, [], []), (38, .invokestatic 326, 3, [7, 0, 2, 936], []), (41, .putfield 181, 3, [10, 8, 0, 0, 0, 539], []), (44, .aload_n 0, 1, [], []), (45, .invokevirtual 115, 3, [1, 140, 1, 768, 0, 10], []), (48, .return_, 1, [], [])]
def tb_X12_forgetPast : ZT := [(0, .aload_n 0, 1, [], []), (1, .iconst 0, 1, [], []), (2, .putfield 184, 3, [10, 7, 0, 0, 0, 538], []), (5, .aload_n 0, 1, [], []), (6, .iconst 0, 1, [], []), (7, .putfield 181, 3, [10, 8, 0, 0, 0, 539], []), (10, .return_, 1, [], [])]
def tb_X12_forgetSearches : ZT := [(0, .iconst 0, 1, [], []), (1, .istore_n 1, 1, [], []), (2, .iload_n 1, 1, [], []), (3, .aload_n 0, 1, [], []), (4, .getfield 76, 3, [10, 13, 3, 48, 0, 544], []), (7, .arraylength, 1, [], []), (8, .if_icmp .ge 19, 3, [27], []), (11, .aload_n 0, 1, [], []), (12, .getfield 76, 3, [10, 13, 3, 48, 0, 544], []), (15, .iload_n 1, 1, [], []), (16, .aaload, 1, [], []), (17, .iconst 0, 1, [], []), (18, .putfield 329, 3, [6, 2, 1, 0, 0, 505], []), (21, .iinc 1 1, 3, [], []), (24, .goto (-22), 3, [2], []), (27, .return_, 1, [], [])]
def tb_X12_takenNow : ZT := [(0, .aload_n 0, 1, [], []), (1, .getfield 38, 3, [10, 4, 3, 7, 0, 535], []), (4, .iload_n 1, 1, [], []), (5, .invokevirtual 332, 3, [1, 79, 2, 994, 0, 7], []), (8, .ifCond .ne 5, 3, [13], []), (11, .iconst 0, 1, [], []), (12, .ireturn, 1, [], []), (13, .aload_n 0, 1, [], []), (14, .getfield 19, 3, [10, 1, 4, 4, 0, 532], []), (17, .iload_n 1, 1, [], []), (18, .aload_n 0, 1, [], []), (19, .getfield 38, 3, [10, 4, 3, 7, 0, 535], []), (22, .getfield 136, 3, [7, 0, 3, 40, 0, 353], []), (25, .iload_n 1, 1, [], []), (26, .iaload, 1, [], []), (27, .iload_n 2, 1, [], []), (28, .aload_n 0, 1, [], []), (29, .getfield 19, 3, [10, 1, 4, 4, 0, 532], []), (32, .getfield 316, 3, [4, 9, 3, 3, 0, 271], []), (35, .aload_n 0, 1, [], []), (36, .getfield 38, 3, [10, 4, 3, 7, 0, 535], []), (39, .getfield 273, 3, [7, 4, 0, 0, 0, 365], []), (42, .invokevirtual 276, 3, [1, 16, 2, 995, 0, 3], []), (45, .invokevirtual 335, 3, [1, 25, 5, 996, 0, 4], []), (48, .ireturn, 1, [], [])]
def tb_X12_searched : ZT := [(0, .aload_n 0, 1, [], []), (1, .getfield 76, 3, [10, 13, 3, 48, 0, 544], []), (4, .iload_n 1, 1, [], []), (5, .aaload, 1, [], []), (6, .astore_n 3, 1, [], []), (7, .aload_n 3, 1, [], []), (8, .getfield 329, 3, [6, 2, 1, 0, 0, 505], []), (11, .ifCond .ne 25, 3, [36], []), (14, .aload_n 3, 1, [], []), (15, .aload_n 0, 1, [], []), (16, .getfield 19, 3, [10, 1, 4, 4, 0, 532], []), (19, .aload_n 0, 1, [], []), (20, .getfield 38, 3, [10, 4, 3, 7, 0, 535], []), (23, .aload_n 0, 1, [], []), (24, .getfield 70, 3, [10, 12, 3, 0, 0, 543], []), (27, .iload_n 1, 1, [], []), (28, .invokevirtual 339, 3, [1, 61, 5, 1021, 0, 6], []), (31, .aload_n 3, 1, [], []), (32, .iconst 1, 1, [], []), (33, .putfield 329, 3, [6, 2, 1, 0, 0, 505], []), (36, .iload_n 2, 1, [], []), (37, .iconst (-1), 1, [], []), (38, .if_icmp .ne 10, 3, [48], []), (41, .aload_n 3, 1, [], []), (42, .getfield 343, 3, [6, 1, 0, 0, 0, 504], []), (45, .goto 9, 3, [54], []), (48, .aload_n 3, 1, [], []), (49, .getfield 346, 3, [6, 0, 3, 33, 0, 502], []), (52, .iload_n 2, 1, [], []), (53, .iaload, 1, [], []), (54, .ireturn, 1, [], [])]
def tb_X12_ownWind : ZT := [(0, .aload_n 0, 1, [], []), (1, .getfield 70, 3, [10, 12, 3, 0, 0, 543], []), (4, .aload_n 0, 1, [], []), (5, .getfield 19, 3, [10, 1, 4, 4, 0, 532], []), (8, .aload_n 1, 1, [], []), (9, .invokevirtual 154, 3, [1, 1, 3, 827, 0, 0], []), (12, .iconst 0, 1, [], []), (13, .istore_n 3, 1, [], []), (14, .iconst 0, 1, [], []), (15, .istore 4, 2, [], []), (17, .iload 4, 2, [], []), (19, .aload_n 0, 1, [], []), (20, .getfield 19, 3, [10, 1, 4, 4, 0, 532], []), (23, .getfield 234, 3, [4, 0, 0, 0, 0, 241], []), (26, .if_icmp .ge 45, 3, [71], []), (29, .aload_n 0, 1, [], []), (30, .getfield 19, 3, [10, 1, 4, 4, 0, 532], []), (33, .getfield 130, 3, [4, 3, 3, 29, 0, 248], []), (36, .iload 4, 2, [], []), (38, .iaload, 1, [], []), (39, .iload_n 2, 1, [], []), (40, .if_icmp .ne 25, 3, [65], []), (43, .aload_n 1, 1, [], []), (44, .iload 4, 2, [], []), (46, .invokevirtual 332, 3, [1, 79, 2, 994, 0, 7], []), (49, .ifCond .eq 16, 3, [65], []), (52, .iload_n 3, 1, [], []), (53, .aload_n 0, 1, [], []), (54, .getfield 70, 3, [10, 12, 3, 0, 0, 543], []), (57, .getfield 158, 3, [0, 1, 3, 21, 0, 396], []), (60, .iload 4, 2, [], []), (62, .iaload, 1, [], []), (63, .iadd, 1, [], []), (64, .istore_n 3, 1, [], []), (65, .iinc 4 1, 3, [], []), (68, .goto (-51), 3, [17], []), (71, .iload_n 3, 1, [], []), (72, .ireturn, 1, [], [])]
def tb_X12_isDigit : ZT := [(0, .iload_n 0, 1, [], []), (1, .ifCond .lt 13, 3, [14], []), (4, .iload_n 0, 1, [], []), (5, .bipush 9, 2, [], []), (7, .if_icmp .gt 7, 3, [14], []), (10, .iconst 1, 1, [], []), (11, .goto 4, 3, [15], []), (14, .iconst 0, 1, [], []), (15, .ireturn, 1, [1], [])]
def tb_X12_keeps : ZT := [(0, .iload_n 0, 1, [], []), (1, .iload_n 1, 1, [], []), (2, .iload_n 2, 1, [], []), (3, .iload_n 3, 1, [], []), (4, .iload 4, 2, [], []), (6, .invokestatic 349, 3, [0, 146, 5, 1273, 0], []), (9, .iconst 1, 1, [], []), (10, .iload_n 0, 1, [], []), (11, .isub, 1, [], []), (12, .iload_n 1, 1, [], []), (13, .iload_n 2, 1, [], []), (14, .iload_n 3, 1, [], []), (15, .iload 4, 2, [], []), (17, .invokestatic 349, 3, [0, 146, 5, 1273, 0], []), (20, .if_icmp .lt 7, 3, [27], []), (23, .iconst 1, 1, [], []), (24, .goto 4, 3, [28], []), (27, .iconst 0, 1, [], []), (28, .ireturn, 1, [1], [])]
def tb_X12_gain : ZT := [(0, .iload_n 0, 1, [], []), (1, .iconst 1, 1, [], []), (2, .if_icmp .ne 15, 3, [17], []), (5, .iload_n 1, 1, [], []), (6, .iconst 1, 1, [], []), (7, .if_icmp .ne 8, 3, [15], []), (10, .iload_n 2, 1, [], []), (11, .ineg, 1, [], []), (12, .goto 4, 3, [16], []), (15, .iload_n 3, 1, [], []), (16, .ireturn, 1, [], []), (17, .iload_n 1, 1, [], []), (18, .iconst 1, 1, [], []), (19, .if_icmp .ne 8, 3, [27], []), (22, .iload 4, 2, [], []), (24, .goto 4, 3, [28], []), (27, .iconst 0, 1, [], []), (28, .ireturn, 1, [], [])]
def tb_X12_drawn : ZT := [(0, .lload_n 0, 1, [], []), (1, .ldc2_w 353, 3, [1175], [1103515245]), (4, .lmul, 1, [], []), (5, .ldc2_w 355, 3, [1176], [12345]), (8, .ladd, 1, [], []), (9, .ldc2_w 357, 3, [1177], [2147483648]), (12, .lrem, 1, [], []), (13, .lreturn, 1, [], [])]
def tb_X12_below : ZT := [(0, .iload_n 2, 1, [], []), (1, .ifCond .le 15, 3, [16], []), (4, .lload_n 0, 1, [], []), (5, .ldc2_w 359, 3, [1181], [65536]), (8, .ldiv, 1, [], []), (9, .iload_n 2, 1, [], []), (10, .i2l, 1, [], []), (11, .lrem, 1, [], []), (12, .l2i, 1, [], []), (13, .goto 4, 3, [17], []), (16, .iconst 0, 1, [], []), (17, .ireturn, 1, [], [])]
def tb_X13_init : ZT := [(0, .aload_n 0, 1, [], []), (1, .invokespecial 1, 3, [2, 0, 1, 1281], []), (4, .aload_n 0, 1, [], []), (5, .sipush 1000, 3, [], []), (8, .newarray .int, 2, [50], []), (10, .putfield 7, 3, [11, 2, 3, 50, 0, 1292], []), (13, .aload_n 0, 1, [], []), (14, .bipush 18, 2, [], []), (16, .newarray .int, 2, [51], []), (18, .putfield 13, 3, [11, 10, 3, 51, 0, 1300], []), (21, .aload_n 0, 1, [], []), (22, .bipush 12, 2, [], []), (24, .newarray .long, 2, [52], []), (26, .putfield 16, 3, [11, 11, 3, 52, 0, 1301], []), (29, .aload_n 0, 1, [], []), (30, .bipush 12, 2, [], []), (32, .newarray .int, 2, [53], []), (34, .putfield 20, 3, [11, 12, 3, 53, 0, 1302], []), (37, .aload_n 0, 1, [], []), (38, .bipush 12, 2, [], []), (40, .newarray .int, 2, [54], []), (42, .putfield 23, 3, [11, 13, 3, 54, 0, 1303], []), (45, .aload_n 0, 1, [], []), (46, .bipush 12, 2, [], []), (48, .newarray .int, 2, [55], []), (50, .putfield 26, 3, [11, 14, 3, 55, 0, 1304], []), (53, .aload_n 0, 1, [], []), (54, .bipush 12, 2, [], []), (56, .newarray .int, 2, [56], []), (58, .putfield 29, 3, [11, 15, 3, 56, 0, 1305], []), (61, .aload_n 0, 1, [], []), (62, .bipush 12, 2, [], []), (64, .newarray .int, 2, [57], []), (66, .putfield 32, 3, [11, 16, 3, 57, 0, 1306], []), (69, .aload_n 0, 1, [], []), (70, .bipush 48, 2, [], []), (72, .newarray .int, 2, [58], []), (74, .putfield 35, 3, [11, 17, 3, 58, 0, 1307], []), (77, .aload_n 0, 1, [], []), (78, .iconst 2, 1, [], []), (79, .newarray .int, 2, [59], []), (81, .putfield 38, 3, [11, 18, 3, 59, 0, 1308], []), (84, .aload_n 0, 1, [], []), (85, .iconst 2, 1, [], []), (86, .newarray .int, 2, [60], []), (88, .putfield 41, 3, [11, 19, 3, 60, 0, 1309], []), (91, .aload_n 0, 1, [], []), (92, .sipush 2000, 3, [], []), (95, .newarray .int, 2, [61], []), (97, .putfield 44, 3, [11, 20, 3, 61, 0, 1310], []), (100, .aload_n 0, 1, [], []), (101, .bipush 7, 2, [], []), (103, .newarray .int, 2, [62], []), (105, .putfield 47, 3, [11, 23, 3, 62, 0, 1313], []), (108, .aload_n 0, 1, [], []), (109, .bipush 7, 2, [], []), (111, .newarray .boolean, 2, [63], []), (113, .putfield 50, 3, [11, 24, 3, 63, 0, 1314], []), (116, .aload_n 0, 1, [], []), (117, .bipush 7, 2, [], []), (119, .newarray .int, 2, [64], []), (121, .putfield 54, 3, [11, 25, 3, 64, 0, 1315], []), (124, .aload_n 0, 1, [], []), (125, .bipush 7, 2, [], []), (127, .newarray .int, 2, [65], []), (129, .putfield 57, 3, [11, 26, 3, 65, 0, 1316], []), (132, .aload_n 0, 1, [], []), (133, .bipush 7, 2, [], []), (135, .newarray .int, 2, [66], []), (137, .putfield 60, 3, [11, 27, 3, 66, 0, 1317], []), (140, .aload_n 0, 1, [], []), (141, .bipush 7, 2, [], []), (143, .newarray .int, 2, [67], []), (145, .putfield 63, 3, [11, 28, 3, 67, 0, 1318], []), (148, .aload_n 0, 1, [], []), (149, .bipush 7, 2, [], []), (151, .newarray .int, 2, [68], []), (153, .putfield 66, 3, [11, 29, 3, 68, 0, 1319], []), (156, .aload_n 0, 1, [], []), (157, .bipush 7, 2, [], []), (159, .newarray .int, 2, [69], []), (161, .putfield 69, 3, [11, 30, 3, 69, 0, 1320], []), (164, .aload_n 0, 1, [], []), (165, .bipush 7, 2, [], []), (167, .newarray .int, 2, [70], []), (169, .putfield 72, 3, [11, 31, 3, 70, 0, 1321], []), (172, .aload_n 0, 1, [], []), (173, .bipush 7, 2, [], []), (175, .newarray .int, 2, [71], []), (177, .putfield 75, 3, [11, 32, 3, 71, 0, 1322], []), (180, .aload_n 0, 1, [], []), (181, .bipush 7, 2, [], []), (183, .newarray .int, 2, [72], []), (185, .putfield 78, 3, [11, 33, 3, 72, 0, 1323], []), (188, .aload_n 0, 1, [], []), (189, .bipush 20, 2, [], []), (191, .newarray .int, 2, [73], []), (193, .putfield 81, 3, [11, 34, 3, 73, 0, 1324], []), (196, .aload_n 0, 1, [], []), (197, .bipush 6, 2, [], []), (199, .newarray .int, 2, [74], []), (201, .putfield 84, 3, [11, 36, 3, 74, 0, 1326], []), (204, .aload_n 0, 1, [], []), (205, .sipush 240, 3, [], []), (208, .newarray .int, 2, [75], []), (210, .putfield 87, 3, [11, 37, 3, 75, 0, 1327], []), (213, .aload_n 0, 1, [], []), (214, .sipush 240, 3, [], []), (217, .newarray .int, 2, [76], []), (219, .putfield 90, 3, [11, 38, 3, 76, 0, 1328], []), (222, .aload_n 0, 1, [], []), (223, .sipush 240, 3, [], []), (226, .newarray .int, 2, [77], []), (228, .putfield 93, 3, [11, 39, 3, 77, 0, 1329], []), (231, .aload_n 0, 1, [], []), (232, .iconst 5, 1, [], []), (233, .newarray .int, 2, [78], []), (235, .putfield 96, 3, [11, 40, 3, 78, 0, 1330], []), (238, .aload_n 0, 1, [], []), (239, .bipush 40, 2, [], []), (241, .newarray .int, 2, [79], []), (243, .putfield 99, 3, [11, 41, 3, 79, 0, 1331], []), (246, .aload_n 0, 1, [], []), (247, .bipush 40, 2, [], []), (249, .newarray .int, 2, [80], []), (251, .putfield 102, 3, [11, 42, 3, 80, 0, 1332], []), (254, .aload_n 0, 1, [], []), (255, .bipush 16, 2, [], []), (257, .newarray .int, 2, [81], []), (259, .putfield 105, 3, [11, 43, 3, 81, 0, 1333], []), (262, .aload_n 0, 1, [], []), (263, .bipush 16, 2, [], []), (265, .newarray .int, 2, [82], []), (267, .putfield 108, 3, [11, 44, 3, 82, 0, 1334], []), (270, .aload_n 0, 1, [], []), (271, .bipush 16, 2, [], []), (273, .newarray .int, 2, [83], []), (275, .putfield 111, 3, [11, 45, 3, 83, 0, 1335], []), (278, .aload_n 0, 1, [], []), (279, .bipush 64, 2, [], []), (281, .newarray .int, 2, [84], []), (283, .putfield 114, 3, [11, 46, 3, 84, 0, 1336], []), (286, .aload_n 0, 1, [], []), (287, .sipush 256, 3, [], []), (290, .newarray .int, 2, [85], []), (292, .putfield 117, 3, [11, 47, 3, 85, 0, 1337], []), (295, .aload_n 0, 1, [], []), (296, .iconst 4, 1, [], []), (297, .newarray .boolean, 2, [86], []), (299, .putfield 120, 3, [11, 48, 3, 86, 0, 1338], []), (302, .aload_n 0, 1, [], []), (303, .bipush 6, 2, [], []), (305, .newarray .int, 2, [87], []), (307, .putfield 123, 3, [11, 52, 3, 87, 0, 1342], []), (310, .aload_n 0, 1, [], []), (311, .bipush 6, 2, [], []), (313, .newarray .int, 2, [88], []), (315, .putfield 126, 3, [11, 53, 3, 88, 0, 1343], []), (318, .aload_n 0, 1, [], []), (319, .sipush 744, 3, [], []), (322, .newarray .int, 2, [89], []), (324, .putfield 129, 3, [11, 56, 3, 89, 0, 1346], []), (327, .aload_n 0, 1, [], []), (328, .bipush 124, 2, [], []), (330, .newarray .boolean, 2, [90], []), (332, .putfield 132, 3, [11, 57, 3, 90, 0, 1347], []), (335, .aload_n 0, 1, [], []), (336, .bipush 100, 2, [], []), (338, .newarray .int, 2, [91], []), (340, .putfield 135, 3, [11, 58, 3, 91, 0, 1348], []), (343, .aload_n 0, 1, [], []), (344, .iconst 0, 1, [], []), (345, .invokevirtual 138, 3, [1, 159, 2, 1282, 0, 11], []), (348, .aload_n 0, 1, [], []), (349, .invokevirtual 142, 3, [1, 190, 1, 1286, 0, 11], []), (352, .return_, 1, [], [])]
def tb_X13_thrown : ZT := [(0, .aload_n 0, 1, [], []), (1, .getfield 145, 3, [11, 0, 0, 0, 0, 1290], []), (4, .ireturn, 1, [], [])]
def tb_X13_within : ZT := [(0, .iload_n 0, 1, [], []), (1, .iload_n 1, 1, [], []), (2, .if_icmp .lt 12, 3, [14], []), (5, .iload_n 0, 1, [], []), (6, .iload_n 2, 1, [], []), (7, .if_icmp .gt 7, 3, [14], []), (10, .iconst 1, 1, [], []), (11, .goto 4, 3, [15], []), (14, .iconst 0, 1, [], []), (15, .ireturn, 1, [1], [])]
def tb_X13_between : ZT := [(0, .iload_n 0, 1, [], []), (1, .iload_n 1, 1, [], []), (2, .if_icmp .ge 7, 3, [9], []), (5, .iload_n 1, 1, [], []), (6, .goto 13, 3, [19], []), (9, .iload_n 0, 1, [], []), (10, .iload_n 2, 1, [], []), (11, .if_icmp .le 7, 3, [18], []), (14, .iload_n 2, 1, [], []), (15, .goto 4, 3, [19], []), (18, .iload_n 0, 1, [], []), (19, .ireturn, 1, [], [])]
def tb_X13_feed : ZT := [(0, .aload_n 0, 1, [], []), (1, .iconst 0, 1, [], []), (2, .putfield 145, 3, [11, 0, 0, 0, 0, 1290], []), (5, .iconst 0, 1, [], []), (6, .istore 7, 2, [], []), (8, .iload 7, 2, [], []), (10, .bipush 24, 2, [], []), (12, .if_icmp .ge 108, 3, [120], []), (15, .iload 7, 2, [], []), (17, .bipush 8, 2, [], []), (19, .if_icmp .ge 7, 3, [26], []), (22, .lload_n 1, 1, [], []), (23, .goto 16, 3, [39], []), (26, .iload 7, 2, [], []), (28, .bipush 16, 2, [], []), (30, .if_icmp .ge 7, 3, [37], []), (33, .lload_n 3, 1, [], []), (34, .goto 5, 3, [39], []), (37, .lload 5, 2, [], []), (39, .lstore 8, 2, [], []), (41, .lload 8, 2, [], []), (43, .bipush 56, 2, [], []), (45, .bipush 8, 2, [], []), (47, .iload 7, 2, [], []), (49, .bipush 7, 2, [], []), (51, .iand, 1, [], []), (52, .imul, 1, [], []), (53, .isub, 1, [], []), (54, .lushr, 1, [], []), (55, .ldc2_w 149, 3, [1479], [255]), (58, .land, 1, [], []), (59, .l2i, 1, [], []), (60, .istore 10, 2, [], []), (62, .aload_n 0, 1, [], []), (63, .getfield 151, 3, [11, 1, 0, 0, 0, 1291], []), (66, .sipush 1000, 3, [], []), (69, .if_icmp .ge 45, 3, [114], []), (72, .iload 10, 2, [], []), (74, .bipush 10, 2, [], []), (76, .if_icmp .eq 17, 3, [93], []), (79, .iload 10, 2, [], []), (81, .bipush 32, 2, [], []), (83, .if_icmp .lt 31, 3, [114], []), (86, .iload 10, 2, [], []), (88, .bipush 126, 2, [], []), (90, .if_icmp .gt 24, 3, [114], []), (93, .aload_n 0, 1, [], []), (94, .getfield 7, 3, [11, 2, 3, 50, 0, 1292], []), (97, .aload_n 0, 1, [], []), (98, .getfield 151, 3, [11, 1, 0, 0, 0, 1291], []), (101, .iload 10, 2, [], []), (103, .iastore, 1, [], []), (104, .aload_n 0, 1, [], []), (105, .dup, 1, [], []), (106, .getfield 151, 3, [11, 1, 0, 0, 0, 1291], []), (109, .iconst 1, 1, [], []), (110, .iadd, 1, [], []), (111, .putfield 151, 3, [11, 1, 0, 0, 0, 1291], []), (114, .iinc 7 1, 3, [], []), (117, .goto (-109), 3, [8], []), (120, .aload_n 0, 1, [], []), (121, .getfield 151, 3, [11, 1, 0, 0, 0, 1291], []), (124, .ireturn, 1, [], [])]
def tb_X13_signAt : ZT := [(0, .iload_n 1, 1, [], []), (1, .aload_n 0, 1, [], []), (2, .getfield 154, 3, [11, 3, 0, 0, 0, 1293], []), (5, .if_icmp .ge 12, 3, [17], []), (8, .aload_n 0, 1, [], []), (9, .getfield 7, 3, [11, 2, 3, 50, 0, 1292], []), (12, .iload_n 1, 1, [], []), (13, .iaload, 1, [], []), (14, .goto 4, 3, [18], []), (17, .iconst 0, 1, [], []), (18, .ireturn, 1, [], [])]
def tb_X13_nextToken : ZT := [(0, .aload_n 0, 1, [], []), (1, .getfield 157, 3, [11, 4, 0, 0, 0, 1294], []), (4, .aload_n 0, 1, [], []), (5, .getfield 154, 3, [11, 3, 0, 0, 0, 1293], []), (8, .if_icmp .ge 44, 3, [52], []), (11, .aload_n 0, 1, [], []), (12, .getfield 7, 3, [11, 2, 3, 50, 0, 1292], []), (15, .aload_n 0, 1, [], []), (16, .getfield 157, 3, [11, 4, 0, 0, 0, 1294], []), (19, .iaload, 1, [], []), (20, .bipush 32, 2, [], []), (22, .if_icmp .eq 17, 3, [39], []), (25, .aload_n 0, 1, [], []), (26, .getfield 7, 3, [11, 2, 3, 50, 0, 1292], []), (29, .aload_n 0, 1, [], []), (30, .getfield 157, 3, [11, 4, 0, 0, 0, 1294], []), (33, .iaload, 1, [], []), (34, .bipush 10, 2, [], []), (36, .if_icmp .ne 16, 3, [52], []), (39, .aload_n 0, 1, [], []), (40, .dup, 1, [], []), (41, .getfield 157, 3, [11, 4, 0, 0, 0, 1294], []), (44, .iconst 1, 1, [], []), (45, .iadd, 1, [], []), (46, .putfield 157, 3, [11, 4, 0, 0, 0, 1294], []), (49, .goto (-49), 3, [0], []), (52, .aload_n 0, 1, [], []), (53, .aload_n 0, 1, [], []), (54, .getfield 157, 3, [11, 4, 0, 0, 0, 1294], []), (57, .putfield 160, 3, [11, 5, 0, 0, 0, 1295], []), (60, .aload_n 0, 1, [], []), (61, .lconst 0, 1, [], []), (62, .putfield 163, 3, [11, 7, 2, 0, 0, 1297], []), (65, .aload_n 0, 1, [], []), (66, .iconst 0, 1, [], []), (67, .putfield 167, 3, [11, 8, 0, 0, 0, 1298], []), (70, .aload_n 0, 1, [], []), (71, .getfield 157, 3, [11, 4, 0, 0, 0, 1294], []), (74, .aload_n 0, 1, [], []), (75, .getfield 154, 3, [11, 3, 0, 0, 0, 1293], []), (78, .if_icmp .ne 9, 3, [87], []), (81, .aload_n 0, 1, [], []), (82, .iconst 0, 1, [], []), (83, .putfield 170, 3, [11, 6, 0, 0, 0, 1296], []), (86, .return_, 1, [], []), (87, .aload_n 0, 1, [], []), (88, .getfield 7, 3, [11, 2, 3, 50, 0, 1292], []), (91, .aload_n 0, 1, [], []), (92, .getfield 157, 3, [11, 4, 0, 0, 0, 1294], []), (95, .iaload, 1, [], []), (96, .istore_n 1, 1, [], []), (97, .iload_n 1, 1, [], []), (98, .bipush 97, 2, [], []), (100, .if_icmp .lt 112, 3, [212], []), (103, .iload_n 1, 1, [], []), (104, .bipush 122, 2, [], []), (106, .if_icmp .gt 106, 3, [212], []), (109, .aload_n 0, 1, [], []), (110, .aload_n 0, 1, [], []), (111, .getfield 157, 3, [11, 4, 0, 0, 0, 1294], []), (114, .invokevirtual 173, 3, [1, 154, 2, 1496, 0, 11], []), (117, .bipush 97, 2, [], []), (119, .if_icmp .lt 69, 3, [188], []), (122, .aload_n 0, 1, [], []), (123, .aload_n 0, 1, [], []), (124, .getfield 157, 3, [11, 4, 0, 0, 0, 1294], []), (127, .invokevirtual 173, 3, [1, 154, 2, 1496, 0, 11], []), (130, .bipush 122, 2, [], []), (132, .if_icmp .gt 56, 3, [188], []), (135, .aload_n 0, 1, [], []), (136, .getfield 157, 3, [11, 4, 0, 0, 0, 1294], []), (139, .aload_n 0, 1, [], []), (140, .getfield 160, 3, [11, 5, 0, 0, 0, 1295], []), (143, .isub, 1, [], []), (144, .bipush 8, 2, [], []), (146, .if_icmp .ge 29, 3, [175], []), (149, .aload_n 0, 1, [], []), (150, .aload_n 0, 1, [], []), (151, .getfield 163, 3, [11, 7, 2, 0, 0, 1297], []), (154, .ldc2_w 177, 3, [1500], [27]), (157, .lmul, 1, [], []), (158, .aload_n 0, 1, [], []), (159, .aload_n 0, 1, [], []), (160, .getfield 157, 3, [11, 4, 0, 0, 0, 1294], []), (163, .invokevirtual 173, 3, [1, 154, 2, 1496, 0, 11], []), (166, .i2l, 1, [], []), (167, .ladd, 1, [], []), (168, .ldc2_w 179, 3, [1501], [96]), (171, .lsub, 1, [], []), (172, .putfield 163, 3, [11, 7, 2, 0, 0, 1297], []), (175, .aload_n 0, 1, [], []), (176, .dup, 1, [], []), (177, .getfield 157, 3, [11, 4, 0, 0, 0, 1294], []), (180, .iconst 1, 1, [], []), (181, .iadd, 1, [], []), (182, .putfield 157, 3, [11, 4, 0, 0, 0, 1294], []), (185, .goto (-76), 3, [109], []), (188, .aload_n 0, 1, [], []), (189, .aload_n 0, 1, [], []), (190, .getfield 157, 3, [11, 4, 0, 0, 0, 1294], []), (193, .aload_n 0, 1, [], []), (194, .getfield 160, 3, [11, 5, 0, 0, 0, 1295], []), (197, .isub, 1, [], []), (198, .bipush 8, 2, [], []), (200, .if_icmp .le 7, 3, [207], []), (203, .iconst 4, 1, [], []), (204, .goto 4, 3, [208], []), (207, .iconst 1, 1, [], []), (208, .putfield 170, 3, [11, 6, 0, 0, 0, 1296], []), (211, .return_, 1, [], []), (212, .iload_n 1, 1, [], []), (213, .bipush 48, 2, [], []), (215, .if_icmp .lt 107, 3, [322], []), (218, .iload_n 1, 1, [], []), (219, .bipush 57, 2, [], []), (221, .if_icmp .gt 101, 3, [322], []), (224, .aload_n 0, 1, [], []), (225, .aload_n 0, 1, [], []), (226, .getfield 157, 3, [11, 4, 0, 0, 0, 1294], []), (229, .invokevirtual 173, 3, [1, 154, 2, 1496, 0, 11], []), (232, .bipush 48, 2, [], []), (234, .if_icmp .lt 65, 3, [299], []), (237, .aload_n 0, 1, [], []), (238, .aload_n 0, 1, [], []), (239, .getfield 157, 3, [11, 4, 0, 0, 0, 1294], []), (242, .invokevirtual 173, 3, [1, 154, 2, 1496, 0, 11], []), (245, .bipush 57, 2, [], []), (247, .if_icmp .gt 52, 3, [299], []), (250, .aload_n 0, 1, [], []), (251, .getfield 157, 3, [11, 4, 0, 0, 0, 1294], []), (254, .aload_n 0, 1, [], []), (255, .getfield 160, 3, [11, 5, 0, 0, 0, 1295], []), (258, .isub, 1, [], []), (259, .iconst 4, 1, [], []), (260, .if_icmp .ge 26, 3, [286], []), (263, .aload_n 0, 1, [], []), (264, .aload_n 0, 1, [], []), (265, .getfield 167, 3, [11, 8, 0, 0, 0, 1298], []), (268, .bipush 10, 2, [], []), (270, .imul, 1, [], []), (271, .aload_n 0, 1, [], []), (272, .aload_n 0, 1, [], []), (273, .getfield 157, 3, [11, 4, 0, 0, 0, 1294], []), (276, .invokevirtual 173, 3, [1, 154, 2, 1496, 0, 11], []), (279, .iadd, 1, [], []), (280, .bipush 48, 2, [], []), (282, .isub, 1, [], []), (283, .putfield 167, 3, [11, 8, 0, 0, 0, 1298], []), (286, .aload_n 0, 1, [], []), (287, .dup, 1, [], []), (288, .getfield 157, 3, [11, 4, 0, 0, 0, 1294], []), (291, .iconst 1, 1, [], []), (292, .iadd, 1, [], []), (293, .putfield 157, 3, [11, 4, 0, 0, 0, 1294], []), (296, .goto (-72), 3, [224], []), (299, .aload_n 0, 1, [], []), (300, .aload_n 0, 1, [], []), (301, .getfield 157, 3, [11, 4, 0, 0, 0, 1294], []), (304, .aload_n 0, 1, [], []), (305, .getfield 160, 3, [11, 5, 0, 0, 0, 1295], []), (308, .isub, 1, [], []), (309, .iconst 4, 1, [], []), (310, .if_icmp .le 7, 3, [317], []), (313, .iconst 4, 1, [], []), (314, .goto 4, 3, [318], []), (317, .iconst 2, 1, [], []), (318, .putfield 170, 3, [11, 6, 0, 0, 0, 1296], []), (321, .return_, 1, [], []), (322, .aload_n 0, 1, [], []), (323, .dup, 1, [], []), (324, .getfield 157, 3, [11, 4, 0, 0, 0, 1294], []), (327, .iconst 1, 1, [], []), (328, .iadd, 1, [], []), (329, .putfield 157, 3, [11, 4, 0, 0, 0, 1294], []), (332, .aload_n 0, 1, [], []), (333, .iload_n 1, 1, [], []), (334, .bipush 40, 2, [], []), (336, .if_icmp .lt 9, 3, [345], []), (339, .iload_n 1, 1, [], []), (340, .bipush 43, 2, [], []), (342, .if_icmp .le 21, 3, [363], []), (345, .iload_n 1, 1, [], []), (346, .bipush 45, 2, [], []), (348, .if_icmp .eq 15, 3, [363], []), (351, .iload_n 1, 1, [], []), (352, .bipush 59, 2, [], []), (354, .if_icmp .lt 13, 3, [367], []), (357, .iload_n 1, 1, [], []), (358, .bipush 61, 2, [], []), (360, .if_icmp .gt 7, 3, [367], []), (363, .iconst 3, 1, [], []), (364, .goto 4, 3, [368], []), (367, .iconst 4, 1, [], []), (368, .putfield 170, 3, [11, 6, 0, 0, 0, 1296], []), (371, .return_, 1, [], [])]
def tb_X13_isWord : ZT := [(0, .aload_n 0, 1, [], []), (1, .getfield 170, 3, [11, 6, 0, 0, 0, 1296], []), (4, .iconst 1, 1, [], []), (5, .if_icmp .ne 16, 3, [21], []), (8, .aload_n 0, 1, [], []), (9, .getfield 163, 3, [11, 7, 2, 0, 0, 1297], []), (12, .lload_n 1, 1, [], []), (13, .lcmp, 1, [], []), (14, .ifCond .ne 7, 3, [21], []), (17, .iconst 1, 1, [], []), (18, .goto 4, 3, [22], []), (21, .iconst 0, 1, [], []), (22, .ireturn, 1, [1], [])]
def tb_X13_isSign : ZT := [(0, .aload_n 0, 1, [], []), (1, .getfield 170, 3, [11, 6, 0, 0, 0, 1296], []), (4, .iconst 3, 1, [], []), (5, .if_icmp .ne 20, 3, [25], []), (8, .aload_n 0, 1, [], []), (9, .getfield 7, 3, [11, 2, 3, 50, 0, 1292], []), (12, .aload_n 0, 1, [], []), (13, .getfield 160, 3, [11, 5, 0, 0, 0, 1295], []), (16, .iaload, 1, [], []), (17, .iload_n 1, 1, [], []), (18, .if_icmp .ne 7, 3, [25], []), (21, .iconst 1, 1, [], []), (22, .goto 4, 3, [26], []), (25, .iconst 0, 1, [], []), (26, .ireturn, 1, [1], [])]
def tb_X13_fails : ZT := [(0, .aload_n 0, 1, [], []), (1, .iload_n 1, 1, [], []), (2, .bipush 16, 2, [], []), (4, .aload_n 0, 1, [], []), (5, .getfield 160, 3, [11, 5, 0, 0, 0, 1295], []), (8, .imul, 1, [], []), (9, .iadd, 1, [], []), (10, .putfield 181, 3, [11, 9, 0, 0, 0, 1299], []), (13, .iconst 0, 1, [], []), (14, .ireturn, 1, [1], [])]
def tb_X13_usual : ZT := [(0, .iconst 0, 1, [], []), (1, .istore_n 2, 1, [], []), (2, .iload_n 2, 1, [], []), (3, .bipush 9, 2, [], []), (5, .if_icmp .ge 21, 3, [26], []), (8, .aload_n 0, 1, [], []), (9, .getfield 13, 3, [11, 10, 3, 51, 0, 1300], []), (12, .bipush 9, 2, [], []), (14, .iload_n 1, 1, [], []), (15, .imul, 1, [], []), (16, .iload_n 2, 1, [], []), (17, .iadd, 1, [], []), (18, .iconst 0, 1, [], []), (19, .iastore, 1, [], []), (20, .iinc 2 1, 3, [], []), (23, .goto (-21), 3, [2], []), (26, .aload_n 0, 1, [], []), (27, .getfield 13, 3, [11, 10, 3, 51, 0, 1300], []), (30, .bipush 9, 2, [], []), (32, .iload_n 1, 1, [], []), (33, .imul, 1, [], []), (34, .iconst 4, 1, [], []), (35, .iadd, 1, [], []), (36, .bipush 20, 2, [], []), (38, .iastore, 1, [], []), (39, .aload_n 0, 1, [], []), (40, .getfield 13, 3, [11, 10, 3, 51, 0, 1300], []), (43, .bipush 9, 2, [], []), (45, .iload_n 1, 1, [], []), (46, .imul, 1, [], []), (47, .iconst 5, 1, [], []), (48, .iadd, 1, [], []), (49, .bipush 6, 2, [], []), (51, .iastore, 1, [], []), (52, .aload_n 0, 1, [], []), (53, .getfield 13, 3, [11, 10, 3, 51, 0, 1300], []), (56, .bipush 9, 2, [], []), (58, .iload_n 1, 1, [], []), (59, .imul, 1, [], []), (60, .bipush 6, 2, [], []), (62, .iadd, 1, [], []), (63, .iconst 5, 1, [], []), (64, .iastore, 1, [], []), (65, .aload_n 0, 1, [], []), (66, .getfield 13, 3, [11, 10, 3, 51, 0, 1300], []), (69, .bipush 9, 2, [], []), (71, .iload_n 1, 1, [], []), (72, .imul, 1, [], []), (73, .bipush 6, 2, [], []), (75, .iadd, 1, [], []), (76, .iconst 1, 1, [], []), (77, .iadd, 1, [], []), (78, .iconst 3, 1, [], []), (79, .iastore, 1, [], []), (80, .aload_n 0, 1, [], []), (81, .getfield 13, 3, [11, 10, 3, 51, 0, 1300], []), (84, .bipush 9, 2, [], []), (86, .iload_n 1, 1, [], []), (87, .imul, 1, [], []), (88, .bipush 6, 2, [], []), (90, .iadd, 1, [], []), (91, .iconst 2, 1, [], []), (92, .iadd, 1, [], []), (93, .iconst 1, 1, [], []), (94, .iastore, 1, [], []), (95, .return_, 1, [], [])]
def tb_X13_puts : ZT := [(0, .aload_n 0, 1, [], []), (1, .getfield 44, 3, [11, 20, 3, 61, 0, 1310], []), (4, .aload_n 0, 1, [], []), (5, .getfield 184, 3, [11, 21, 0, 0, 0, 1311], []), (8, .iload_n 1, 1, [], []), (9, .iastore, 1, [], []), (10, .aload_n 0, 1, [], []), (11, .dup, 1, [], []), (12, .getfield 184, 3, [11, 21, 0, 0, 0, 1311], []), (15, .iconst 1, 1, [], []), (16, .iadd, 1, [], []), (17, .putfield 184, 3, [11, 21, 0, 0, 0, 1311], []), (20, .return_, 1, [], [])]
def tb_X13_fact : ZT := [(0, .aload_n 0, 1, [], []), (1, .getfield 170, 3, [11, 6, 0, 0, 0, 1296], []), (4, .iconst 1, 1, [], []), (5, .if_icmp .eq 5, 3, [10], []), (8, .iconst 0, 1, [], []), (9, .ireturn, 1, [], []), (10, .aload_n 0, 1, [], []), (11, .getfield 163, 3, [11, 7, 2, 0, 0, 1297], []), (14, .ldc2_w 187, 3, [1611], [459652]), (17, .lcmp, 1, [], []), (18, .ifCond .ne 5, 3, [23], []), (21, .iconst 1, 1, [], []), (22, .ireturn, 1, [], []), (23, .aload_n 0, 1, [], []), (24, .getfield 163, 3, [11, 7, 2, 0, 0, 1297], []), (27, .ldc2_w 189, 3, [1612], [464144]), (30, .lcmp, 1, [], []), (31, .ifCond .ne 5, 3, [36], []), (34, .iconst 2, 1, [], []), (35, .ireturn, 1, [], []), (36, .aload_n 0, 1, [], []), (37, .getfield 163, 3, [11, 7, 2, 0, 0, 1297], []), (40, .ldc2_w 191, 3, [1613], [812435]), (43, .lcmp, 1, [], []), (44, .ifCond .ne 7, 3, [51], []), (47, .iconst 3, 1, [], []), (48, .goto 19, 3, [67], []), (51, .aload_n 0, 1, [], []), (52, .getfield 163, 3, [11, 7, 2, 0, 0, 1297], []), (55, .ldc2_w 193, 3, [1614], [7622660]), (58, .lcmp, 1, [], []), (59, .ifCond .ne 7, 3, [66], []), (62, .iconst 4, 1, [], []), (63, .goto 4, 3, [67], []), (66, .iconst 0, 1, [], []), (67, .ireturn, 1, [], [])]
def tb_X13_reads : ZT := [(0, .iconst 0, 1, [], []), (1, .istore_n 1, 1, [], []), (2, .iconst 1, 1, [], []), (3, .istore_n 2, 1, [], []), (4, .aload_n 0, 1, [], []), (5, .getfield 50, 3, [11, 24, 3, 63, 0, 1314], []), (8, .iconst 0, 1, [], []), (9, .iconst 0, 1, [], []), (10, .bastore, 1, [], []), (11, .iload_n 2, 1, [], []), (12, .ifCond .eq 167, 3, [179], []), (15, .aload_n 0, 1, [], []), (16, .invokevirtual 195, 3, [1, 161, 1, 1607, 0, 11], []), (19, .istore_n 3, 1, [], []), (20, .aload_n 0, 1, [], []), (21, .ldc2_w 199, 3, [1545], [10631]), (24, .invokevirtual 201, 3, [1, 156, 2, 1507, 0, 11], []), (27, .istore 4, 2, [], []), (29, .aload_n 0, 1, [], []), (30, .bipush 40, 2, [], []), (32, .invokevirtual 205, 3, [1, 157, 2, 1571, 0, 11], []), (35, .istore 5, 2, [], []), (37, .iload_n 3, 1, [], []), (38, .ifCond .ne 27, 3, [65], []), (41, .iload 4, 2, [], []), (43, .ifCond .ne 22, 3, [65], []), (46, .iload 5, 2, [], []), (48, .ifCond .ne 17, 3, [65], []), (51, .aload_n 0, 1, [], []), (52, .getfield 170, 3, [11, 6, 0, 0, 0, 1296], []), (55, .iconst 2, 1, [], []), (56, .if_icmp .eq 9, 3, [65], []), (59, .aload_n 0, 1, [], []), (60, .iconst 1, 1, [], []), (61, .invokevirtual 209, 3, [1, 158, 2, 1515, 0, 11], []), (64, .ireturn, 1, [1], []), (65, .iload_n 1, 1, [], []), (66, .iconst 5, 1, [], []), (67, .if_icmp .ne 9, 3, [76], []), (70, .aload_n 0, 1, [], []), (71, .iconst 5, 1, [], []), (72, .invokevirtual 209, 3, [1, 158, 2, 1515, 0, 11], []), (75, .ireturn, 1, [1], []), (76, .iload 4, 2, [], []), (78, .ifCond .ne 8, 3, [86], []), (81, .iload 5, 2, [], []), (83, .ifCond .eq 48, 3, [131], []), (86, .aload_n 0, 1, [], []), (87, .iload 4, 2, [], []), (89, .ifCond .eq 8, 3, [97], []), (92, .bipush 30, 2, [], []), (94, .goto 5, 3, [99], []), (97, .bipush 28, 2, [], []), (99, .invokevirtual 212, 3, [1, 160, 2, 1615, 0, 11], []), (102, .iinc 1 1, 3, [], []), (105, .aload_n 0, 1, [], []), (106, .getfield 47, 3, [11, 23, 3, 62, 0, 1313], []), (109, .iload_n 1, 1, [], []), (110, .iload 4, 2, [], []), (112, .ifCond .eq 7, 3, [119], []), (115, .iconst 1, 1, [], []), (116, .goto 4, 3, [120], []), (119, .iconst 2, 1, [], []), (120, .iastore, 1, [], []), (121, .aload_n 0, 1, [], []), (122, .getfield 50, 3, [11, 24, 3, 63, 0, 1314], []), (125, .iload_n 1, 1, [], []), (126, .iconst 0, 1, [], []), (127, .bastore, 1, [], []), (128, .goto 44, 3, [172], []), (131, .aload_n 0, 1, [], []), (132, .iload_n 3, 1, [], []), (133, .ifCond .le 7, 3, [140], []), (136, .iload_n 3, 1, [], []), (137, .goto 10, 3, [147], []), (140, .bipush 100, 2, [], []), (142, .aload_n 0, 1, [], []), (143, .getfield 167, 3, [11, 8, 0, 0, 0, 1298], []), (146, .iadd, 1, [], []), (147, .invokevirtual 212, 3, [1, 160, 2, 1615, 0, 11], []), (150, .iconst 0, 1, [], []), (151, .istore_n 2, 1, [], []), (152, .iload_n 1, 1, [], []), (153, .ifCond .le 19, 3, [172], []), (156, .aload_n 0, 1, [], []), (157, .getfield 47, 3, [11, 23, 3, 62, 0, 1313], []), (160, .iload_n 1, 1, [], []), (161, .iaload, 1, [], []), (162, .iconst 1, 1, [], []), (163, .if_icmp .ne 9, 3, [172], []), (166, .iinc 1 (-1), 3, [], []), (169, .goto (-17), 3, [152], []), (172, .aload_n 0, 1, [], []), (173, .invokevirtual 215, 3, [1, 155, 1, 1492, 0, 11], []), (176, .goto (-165), 3, [11], []), (179, .aload_n 0, 1, [], []), (180, .bipush 43, 2, [], []), (182, .invokevirtual 205, 3, [1, 157, 2, 1571, 0, 11], []), (185, .ifCond .ne 21, 3, [206], []), (188, .aload_n 0, 1, [], []), (189, .bipush 45, 2, [], []), (191, .invokevirtual 205, 3, [1, 157, 2, 1571, 0, 11], []), (194, .ifCond .ne 12, 3, [206], []), (197, .aload_n 0, 1, [], []), (198, .bipush 42, 2, [], []), (200, .invokevirtual 205, 3, [1, 157, 2, 1571, 0, 11], []), (203, .ifCond .eq 42, 3, [245], []), (206, .aload_n 0, 1, [], []), (207, .aload_n 0, 1, [], []), (208, .bipush 43, 2, [], []), (210, .invokevirtual 205, 3, [1, 157, 2, 1571, 0, 11], []), (213, .ifCond .eq 8, 3, [221], []), (216, .bipush 20, 2, [], []), (218, .goto 19, 3, [237], []), (221, .aload_n 0, 1, [], []), (222, .bipush 45, 2, [], []), (224, .invokevirtual 205, 3, [1, 157, 2, 1571, 0, 11], []), (227, .ifCond .eq 8, 3, [235], []), (230, .bipush 21, 2, [], []), (232, .goto 5, 3, [237], []), (235, .bipush 22, 2, [], []), (237, .invokevirtual 212, 3, [1, 160, 2, 1615, 0, 11], []), (240, .iconst 1, 1, [], []), (241, .istore_n 2, 1, [], []), (242, .goto 182, 3, [424], []), (245, .aload_n 0, 1, [], []), (246, .bipush 60, 2, [], []), (248, .invokevirtual 205, 3, [1, 157, 2, 1571, 0, 11], []), (251, .ifCond .ne 12, 3, [263], []), (254, .aload_n 0, 1, [], []), (255, .bipush 61, 2, [], []), (257, .invokevirtual 205, 3, [1, 157, 2, 1571, 0, 11], []), (260, .ifCond .eq 44, 3, [304], []), (263, .aload_n 0, 1, [], []), (264, .getfield 50, 3, [11, 24, 3, 63, 0, 1314], []), (267, .iload_n 1, 1, [], []), (268, .baload, 1, [], []), (269, .ifCond .ne 35, 3, [304], []), (272, .aload_n 0, 1, [], []), (273, .aload_n 0, 1, [], []), (274, .bipush 60, 2, [], []), (276, .invokevirtual 205, 3, [1, 157, 2, 1571, 0, 11], []), (279, .ifCond .eq 8, 3, [287], []), (282, .bipush 24, 2, [], []), (284, .goto 5, 3, [289], []), (287, .bipush 25, 2, [], []), (289, .invokevirtual 212, 3, [1, 160, 2, 1615, 0, 11], []), (292, .aload_n 0, 1, [], []), (293, .getfield 50, 3, [11, 24, 3, 63, 0, 1314], []), (296, .iload_n 1, 1, [], []), (297, .iconst 1, 1, [], []), (298, .bastore, 1, [], []), (299, .iconst 1, 1, [], []), (300, .istore_n 2, 1, [], []), (301, .goto 123, 3, [424], []), (304, .aload_n 0, 1, [], []), (305, .ldc2_w 218, 3, [1546], [1111]), (308, .invokevirtual 201, 3, [1, 156, 2, 1507, 0, 11], []), (311, .ifCond .ne 13, 3, [324], []), (314, .aload_n 0, 1, [], []), (315, .ldc2_w 220, 3, [1547], [423]), (318, .invokevirtual 201, 3, [1, 156, 2, 1507, 0, 11], []), (321, .ifCond .eq 36, 3, [357], []), (324, .aload_n 0, 1, [], []), (325, .aload_n 0, 1, [], []), (326, .ldc2_w 218, 3, [1546], [1111]), (329, .invokevirtual 201, 3, [1, 156, 2, 1507, 0, 11], []), (332, .ifCond .eq 8, 3, [340], []), (335, .bipush 26, 2, [], []), (337, .goto 5, 3, [342], []), (340, .bipush 27, 2, [], []), (342, .invokevirtual 212, 3, [1, 160, 2, 1615, 0, 11], []), (345, .aload_n 0, 1, [], []), (346, .getfield 50, 3, [11, 24, 3, 63, 0, 1314], []), (349, .iload_n 1, 1, [], []), (350, .iconst 0, 1, [], []), (351, .bastore, 1, [], []), (352, .iconst 1, 1, [], []), (353, .istore_n 2, 1, [], []), (354, .goto 70, 3, [424], []), (357, .aload_n 0, 1, [], []), (358, .bipush 41, 2, [], []), (360, .invokevirtual 205, 3, [1, 157, 2, 1571, 0, 11], []), (363, .ifCond .eq 36, 3, [399], []), (366, .iload_n 1, 1, [], []), (367, .ifCond .le 32, 3, [399], []), (370, .aload_n 0, 1, [], []), (371, .bipush 29, 2, [], []), (373, .invokevirtual 212, 3, [1, 160, 2, 1615, 0, 11], []), (376, .iinc 1 (-1), 3, [], []), (379, .iload_n 1, 1, [], []), (380, .ifCond .le 44, 3, [424], []), (383, .aload_n 0, 1, [], []), (384, .getfield 47, 3, [11, 23, 3, 62, 0, 1313], []), (387, .iload_n 1, 1, [], []), (388, .iaload, 1, [], []), (389, .iconst 1, 1, [], []), (390, .if_icmp .ne 34, 3, [424], []), (393, .iinc 1 (-1), 3, [], []), (396, .goto (-17), 3, [379], []), (399, .iload_n 1, 1, [], []), (400, .ifCond .ne 18, 3, [418], []), (403, .aload_n 0, 1, [], []), (404, .bipush 59, 2, [], []), (406, .invokevirtual 205, 3, [1, 157, 2, 1571, 0, 11], []), (409, .ifCond .eq 9, 3, [418], []), (412, .aload_n 0, 1, [], []), (413, .invokevirtual 215, 3, [1, 155, 1, 1492, 0, 11], []), (416, .iconst 1, 1, [], []), (417, .ireturn, 1, [1], []), (418, .aload_n 0, 1, [], []), (419, .iconst 1, 1, [], []), (420, .invokevirtual 209, 3, [1, 158, 2, 1515, 0, 11], []), (423, .ireturn, 1, [1], []), (424, .aload_n 0, 1, [], []), (425, .invokevirtual 215, 3, [1, 155, 1, 1492, 0, 11], []), (428, .goto (-417), 3, [11], [])]
def tb_X13_opens : ZT := [(0, .aload_n 0, 1, [], []), (1, .getfield 57, 3, [11, 26, 3, 65, 0, 1316], []), (4, .iload_n 1, 1, [], []), (5, .iconst 0, 1, [], []), (6, .iastore, 1, [], []), (7, .aload_n 0, 1, [], []), (8, .getfield 63, 3, [11, 28, 3, 67, 0, 1318], []), (11, .iload_n 1, 1, [], []), (12, .iconst 0, 1, [], []), (13, .iastore, 1, [], []), (14, .aload_n 0, 1, [], []), (15, .getfield 66, 3, [11, 29, 3, 68, 0, 1319], []), (18, .iload_n 1, 1, [], []), (19, .iconst 0, 1, [], []), (20, .iastore, 1, [], []), (21, .aload_n 0, 1, [], []), (22, .getfield 69, 3, [11, 30, 3, 69, 0, 1320], []), (25, .iload_n 1, 1, [], []), (26, .bipush 20, 2, [], []), (28, .iastore, 1, [], []), (29, .aload_n 0, 1, [], []), (30, .getfield 75, 3, [11, 32, 3, 71, 0, 1322], []), (33, .iload_n 1, 1, [], []), (34, .iconst 0, 1, [], []), (35, .iastore, 1, [], []), (36, .return_, 1, [], [])]
def tb_X13_sums : ZT := [(0, .aload_n 0, 1, [], []), (1, .getfield 66, 3, [11, 29, 3, 68, 0, 1319], []), (4, .iload_n 1, 1, [], []), (5, .aload_n 0, 1, [], []), (6, .getfield 69, 3, [11, 30, 3, 69, 0, 1320], []), (9, .iload_n 1, 1, [], []), (10, .iaload, 1, [], []), (11, .bipush 21, 2, [], []), (13, .if_icmp .ne 19, 3, [32], []), (16, .aload_n 0, 1, [], []), (17, .getfield 66, 3, [11, 29, 3, 68, 0, 1319], []), (20, .iload_n 1, 1, [], []), (21, .iaload, 1, [], []), (22, .aload_n 0, 1, [], []), (23, .getfield 72, 3, [11, 31, 3, 70, 0, 1321], []), (26, .iload_n 1, 1, [], []), (27, .iaload, 1, [], []), (28, .isub, 1, [], []), (29, .goto 16, 3, [45], []), (32, .aload_n 0, 1, [], []), (33, .getfield 66, 3, [11, 29, 3, 68, 0, 1319], []), (36, .iload_n 1, 1, [], []), (37, .iaload, 1, [], []), (38, .aload_n 0, 1, [], []), (39, .getfield 72, 3, [11, 31, 3, 70, 0, 1321], []), (42, .iload_n 1, 1, [], []), (43, .iaload, 1, [], []), (44, .iadd, 1, [], []), (45, .iastore, 1, [], []), (46, .aload_n 0, 1, [], []), (47, .getfield 75, 3, [11, 32, 3, 71, 0, 1322], []), (50, .iload_n 1, 1, [], []), (51, .iconst 0, 1, [], []), (52, .iastore, 1, [], []), (53, .return_, 1, [], [])]
def tb_X13_tests : ZT := [(0, .aload_n 0, 1, [], []), (1, .iload_n 1, 1, [], []), (2, .invokevirtual 222, 3, [1, 164, 2, 1709, 0, 11], []), (5, .aload_n 0, 1, [], []), (6, .getfield 66, 3, [11, 29, 3, 68, 0, 1319], []), (9, .iload_n 1, 1, [], []), (10, .iaload, 1, [], []), (11, .istore_n 2, 1, [], []), (12, .aload_n 0, 1, [], []), (13, .getfield 63, 3, [11, 28, 3, 67, 0, 1318], []), (16, .iload_n 1, 1, [], []), (17, .iaload, 1, [], []), (18, .bipush 24, 2, [], []), (20, .if_icmp .ne 24, 3, [44], []), (23, .aload_n 0, 1, [], []), (24, .getfield 60, 3, [11, 27, 3, 66, 0, 1317], []), (27, .iload_n 1, 1, [], []), (28, .iaload, 1, [], []), (29, .aload_n 0, 1, [], []), (30, .getfield 66, 3, [11, 29, 3, 68, 0, 1319], []), (33, .iload_n 1, 1, [], []), (34, .iaload, 1, [], []), (35, .if_icmp .ge 7, 3, [42], []), (38, .iconst 1, 1, [], []), (39, .goto 4, 3, [43], []), (42, .iconst 0, 1, [], []), (43, .istore_n 2, 1, [], []), (44, .aload_n 0, 1, [], []), (45, .getfield 63, 3, [11, 28, 3, 67, 0, 1318], []), (48, .iload_n 1, 1, [], []), (49, .iaload, 1, [], []), (50, .bipush 25, 2, [], []), (52, .if_icmp .ne 24, 3, [76], []), (55, .aload_n 0, 1, [], []), (56, .getfield 60, 3, [11, 27, 3, 66, 0, 1317], []), (59, .iload_n 1, 1, [], []), (60, .iaload, 1, [], []), (61, .aload_n 0, 1, [], []), (62, .getfield 66, 3, [11, 29, 3, 68, 0, 1319], []), (65, .iload_n 1, 1, [], []), (66, .iaload, 1, [], []), (67, .if_icmp .ne 7, 3, [74], []), (70, .iconst 1, 1, [], []), (71, .goto 4, 3, [75], []), (74, .iconst 0, 1, [], []), (75, .istore_n 2, 1, [], []), (76, .aload_n 0, 1, [], []), (77, .getfield 57, 3, [11, 26, 3, 65, 0, 1316], []), (80, .iload_n 1, 1, [], []), (81, .iaload, 1, [], []), (82, .bipush 26, 2, [], []), (84, .if_icmp .ne 22, 3, [106], []), (87, .aload_n 0, 1, [], []), (88, .getfield 54, 3, [11, 25, 3, 64, 0, 1315], []), (91, .iload_n 1, 1, [], []), (92, .iaload, 1, [], []), (93, .ifCond .eq 11, 3, [104], []), (96, .iload_n 2, 1, [], []), (97, .ifCond .eq 7, 3, [104], []), (100, .iconst 1, 1, [], []), (101, .goto 4, 3, [105], []), (104, .iconst 0, 1, [], []), (105, .istore_n 2, 1, [], []), (106, .aload_n 0, 1, [], []), (107, .getfield 57, 3, [11, 26, 3, 65, 0, 1316], []), (110, .iload_n 1, 1, [], []), (111, .iaload, 1, [], []), (112, .bipush 27, 2, [], []), (114, .if_icmp .ne 22, 3, [136], []), (117, .aload_n 0, 1, [], []), (118, .getfield 54, 3, [11, 25, 3, 64, 0, 1315], []), (121, .iload_n 1, 1, [], []), (122, .iaload, 1, [], []), (123, .ifCond .ne 7, 3, [130], []), (126, .iload_n 2, 1, [], []), (127, .ifCond .eq 7, 3, [134], []), (130, .iconst 1, 1, [], []), (131, .goto 4, 3, [135], []), (134, .iconst 0, 1, [], []), (135, .istore_n 2, 1, [], []), (136, .aload_n 0, 1, [], []), (137, .getfield 54, 3, [11, 25, 3, 64, 0, 1315], []), (140, .iload_n 1, 1, [], []), (141, .iload_n 2, 1, [], []), (142, .iastore, 1, [], []), (143, .aload_n 0, 1, [], []), (144, .getfield 63, 3, [11, 28, 3, 67, 0, 1318], []), (147, .iload_n 1, 1, [], []), (148, .iconst 0, 1, [], []), (149, .iastore, 1, [], []), (150, .aload_n 0, 1, [], []), (151, .getfield 66, 3, [11, 29, 3, 68, 0, 1319], []), (154, .iload_n 1, 1, [], []), (155, .iconst 0, 1, [], []), (156, .iastore, 1, [], []), (157, .aload_n 0, 1, [], []), (158, .getfield 69, 3, [11, 30, 3, 69, 0, 1320], []), (161, .iload_n 1, 1, [], []), (162, .bipush 20, 2, [], []), (164, .iastore, 1, [], []), (165, .return_, 1, [], [])]
def tb_X13_worked : ZT := [(0, .iconst 0, 1, [], []), (1, .istore_n 2, 1, [], []), (2, .aload_n 0, 1, [], []), (3, .iconst 0, 1, [], []), (4, .invokevirtual 225, 3, [1, 163, 2, 1705, 0, 11], []), (7, .aload_n 0, 1, [], []), (8, .getfield 38, 3, [11, 18, 3, 59, 0, 1308], []), (11, .iload_n 1, 1, [], []), (12, .iaload, 1, [], []), (13, .istore_n 3, 1, [], []), (14, .iload_n 3, 1, [], []), (15, .aload_n 0, 1, [], []), (16, .getfield 41, 3, [11, 19, 3, 60, 0, 1309], []), (19, .iload_n 1, 1, [], []), (20, .iaload, 1, [], []), (21, .if_icmp .ge 314, 3, [335], []), (24, .aload_n 0, 1, [], []), (25, .getfield 44, 3, [11, 20, 3, 61, 0, 1310], []), (28, .iload_n 3, 1, [], []), (29, .iaload, 1, [], []), (30, .istore 4, 2, [], []), (32, .iload 4, 2, [], []), (34, .bipush 28, 2, [], []), (36, .if_icmp .eq 10, 3, [46], []), (39, .iload 4, 2, [], []), (41, .bipush 30, 2, [], []), (43, .if_icmp .ne 32, 3, [75], []), (46, .iinc 2 1, 3, [], []), (49, .aload_n 0, 1, [], []), (50, .getfield 78, 3, [11, 33, 3, 72, 0, 1323], []), (53, .iload_n 2, 1, [], []), (54, .iload 4, 2, [], []), (56, .bipush 30, 2, [], []), (58, .if_icmp .ne 7, 3, [65], []), (61, .iconst 1, 1, [], []), (62, .goto 4, 3, [66], []), (65, .iconst 0, 1, [], []), (66, .iastore, 1, [], []), (67, .aload_n 0, 1, [], []), (68, .iload_n 2, 1, [], []), (69, .invokevirtual 225, 3, [1, 163, 2, 1705, 0, 11], []), (72, .goto 257, 3, [329], []), (75, .iload 4, 2, [], []), (77, .bipush 20, 2, [], []), (79, .if_icmp .eq 10, 3, [89], []), (82, .iload 4, 2, [], []), (84, .bipush 21, 2, [], []), (86, .if_icmp .ne 19, 3, [105], []), (89, .aload_n 0, 1, [], []), (90, .iload_n 2, 1, [], []), (91, .invokevirtual 222, 3, [1, 164, 2, 1709, 0, 11], []), (94, .aload_n 0, 1, [], []), (95, .getfield 69, 3, [11, 30, 3, 69, 0, 1320], []), (98, .iload_n 2, 1, [], []), (99, .iload 4, 2, [], []), (101, .iastore, 1, [], []), (102, .goto 227, 3, [329], []), (105, .iload 4, 2, [], []), (107, .bipush 22, 2, [], []), (109, .if_icmp .ne 14, 3, [123], []), (112, .aload_n 0, 1, [], []), (113, .getfield 75, 3, [11, 32, 3, 71, 0, 1322], []), (116, .iload_n 2, 1, [], []), (117, .iload 4, 2, [], []), (119, .iastore, 1, [], []), (120, .goto 209, 3, [329], []), (123, .iload 4, 2, [], []), (125, .bipush 24, 2, [], []), (127, .if_icmp .eq 10, 3, [137], []), (130, .iload 4, 2, [], []), (132, .bipush 25, 2, [], []), (134, .if_icmp .ne 46, 3, [180], []), (137, .aload_n 0, 1, [], []), (138, .iload_n 2, 1, [], []), (139, .invokevirtual 222, 3, [1, 164, 2, 1709, 0, 11], []), (142, .aload_n 0, 1, [], []), (143, .getfield 60, 3, [11, 27, 3, 66, 0, 1317], []), (146, .iload_n 2, 1, [], []), (147, .aload_n 0, 1, [], []), (148, .getfield 66, 3, [11, 29, 3, 68, 0, 1319], []), (151, .iload_n 2, 1, [], []), (152, .iaload, 1, [], []), (153, .iastore, 1, [], []), (154, .aload_n 0, 1, [], []), (155, .getfield 63, 3, [11, 28, 3, 67, 0, 1318], []), (158, .iload_n 2, 1, [], []), (159, .iload 4, 2, [], []), (161, .iastore, 1, [], []), (162, .aload_n 0, 1, [], []), (163, .getfield 66, 3, [11, 29, 3, 68, 0, 1319], []), (166, .iload_n 2, 1, [], []), (167, .iconst 0, 1, [], []), (168, .iastore, 1, [], []), (169, .aload_n 0, 1, [], []), (170, .getfield 69, 3, [11, 30, 3, 69, 0, 1320], []), (173, .iload_n 2, 1, [], []), (174, .bipush 20, 2, [], []), (176, .iastore, 1, [], []), (177, .goto 152, 3, [329], []), (180, .iload 4, 2, [], []), (182, .bipush 26, 2, [], []), (184, .if_icmp .eq 10, 3, [194], []), (187, .iload 4, 2, [], []), (189, .bipush 27, 2, [], []), (191, .if_icmp .ne 19, 3, [210], []), (194, .aload_n 0, 1, [], []), (195, .iload_n 2, 1, [], []), (196, .invokevirtual 228, 3, [1, 165, 2, 1713, 0, 11], []), (199, .aload_n 0, 1, [], []), (200, .getfield 57, 3, [11, 26, 3, 65, 0, 1316], []), (203, .iload_n 2, 1, [], []), (204, .iload 4, 2, [], []), (206, .iastore, 1, [], []), (207, .goto 122, 3, [329], []), (210, .iload 4, 2, [], []), (212, .bipush 100, 2, [], []), (214, .if_icmp .lt 11, 3, [225], []), (217, .iload 4, 2, [], []), (219, .bipush 100, 2, [], []), (221, .isub, 1, [], []), (222, .goto 21, 3, [243], []), (225, .iload 4, 2, [], []), (227, .bipush 20, 2, [], []), (229, .if_icmp .ge 13, 3, [242], []), (232, .aload_n 0, 1, [], []), (233, .getfield 81, 3, [11, 34, 3, 73, 0, 1324], []), (236, .iload 4, 2, [], []), (238, .iaload, 1, [], []), (239, .goto 4, 3, [243], []), (242, .iconst 0, 1, [], []), (243, .istore 5, 2, [], []), (245, .iload 4, 2, [], []), (247, .bipush 29, 2, [], []), (249, .if_icmp .ne 19, 3, [268], []), (252, .aload_n 0, 1, [], []), (253, .iload_n 2, 1, [], []), (254, .invokevirtual 228, 3, [1, 165, 2, 1713, 0, 11], []), (257, .aload_n 0, 1, [], []), (258, .getfield 54, 3, [11, 25, 3, 64, 0, 1315], []), (261, .iload_n 2, 1, [], []), (262, .iaload, 1, [], []), (263, .istore 5, 2, [], []), (265, .iinc 2 (-1), 3, [], []), (268, .iload_n 2, 1, [], []), (269, .ifCond .le 31, 3, [300], []), (272, .aload_n 0, 1, [], []), (273, .getfield 78, 3, [11, 33, 3, 72, 0, 1323], []), (276, .iload_n 2, 1, [], []), (277, .iaload, 1, [], []), (278, .iconst 1, 1, [], []), (279, .if_icmp .ne 21, 3, [300], []), (282, .iload 5, 2, [], []), (284, .ifCond .ne 7, 3, [291], []), (287, .iconst 1, 1, [], []), (288, .goto 4, 3, [292], []), (291, .iconst 0, 1, [], []), (292, .istore 5, 2, [], []), (294, .iinc 2 (-1), 3, [], []), (297, .goto (-29), 3, [268], []), (300, .aload_n 0, 1, [], []), (301, .getfield 72, 3, [11, 31, 3, 70, 0, 1321], []), (304, .iload_n 2, 1, [], []), (305, .aload_n 0, 1, [], []), (306, .getfield 75, 3, [11, 32, 3, 71, 0, 1322], []), (309, .iload_n 2, 1, [], []), (310, .iaload, 1, [], []), (311, .ifCond .ne 8, 3, [319], []), (314, .iload 5, 2, [], []), (316, .goto 12, 3, [328], []), (319, .aload_n 0, 1, [], []), (320, .getfield 72, 3, [11, 31, 3, 70, 0, 1321], []), (323, .iload_n 2, 1, [], []), (324, .iaload, 1, [], []), (325, .iload 5, 2, [], []), (327, .imul, 1, [], []), (328, .iastore, 1, [], []), (329, .iinc 3 1, 3, [], []), (332, .goto (-318), 3, [14], []), (335, .aload_n 0, 1, [], []), (336, .iconst 0, 1, [], []), (337, .invokevirtual 228, 3, [1, 165, 2, 1713, 0, 11], []), (340, .aload_n 0, 1, [], []), (341, .getfield 54, 3, [11, 25, 3, 64, 0, 1315], []), (344, .iconst 0, 1, [], []), (345, .iaload, 1, [], []), (346, .ireturn, 1, [], [])]
def tb_X13_isKept : ZT := [(0, .aload_n 0, 1, [], []), (1, .getfield 170, 3, [11, 6, 0, 0, 0, 1296], []), (4, .iconst 1, 1, [], []), (5, .if_icmp .eq 5, 3, [10], []), (8, .iconst 1, 1, [], []), (9, .ireturn, 1, [1], []), (10, .aload_n 0, 1, [], []), (11, .getfield 163, 3, [11, 7, 2, 0, 0, 1297], []), (14, .ldc2_w 231, 3, [1506], [8059349075]), (17, .lcmp, 1, [], []), (18, .ifCond .eq 278, 3, [296], []), (21, .aload_n 0, 1, [], []), (22, .getfield 163, 3, [11, 7, 2, 0, 0, 1297], []), (25, .ldc2_w 233, 3, [1523], [411]), (28, .lcmp, 1, [], []), (29, .ifCond .eq 267, 3, [296], []), (32, .aload_n 0, 1, [], []), (33, .getfield 163, 3, [11, 7, 2, 0, 0, 1297], []), (36, .ldc2_w 235, 3, [1524], [47]), (39, .lcmp, 1, [], []), (40, .ifCond .eq 256, 3, [296], []), (43, .aload_n 0, 1, [], []), (44, .getfield 163, 3, [11, 7, 2, 0, 0, 1297], []), (47, .ldc2_w 237, 3, [1525], [1615793]), (50, .lcmp, 1, [], []), (51, .ifCond .eq 245, 3, [296], []), (54, .aload_n 0, 1, [], []), (55, .getfield 163, 3, [11, 7, 2, 0, 0, 1297], []), (58, .ldc2_w 239, 3, [1526], [555]), (61, .lcmp, 1, [], []), (62, .ifCond .eq 234, 3, [296], []), (65, .aload_n 0, 1, [], []), (66, .getfield 163, 3, [11, 7, 2, 0, 0, 1297], []), (69, .ldc2_w 241, 3, [1527], [168755]), (72, .lcmp, 1, [], []), (73, .ifCond .eq 223, 3, [296], []), (76, .aload_n 0, 1, [], []), (77, .getfield 163, 3, [11, 7, 2, 0, 0, 1297], []), (80, .ldc2_w 243, 3, [1528], [4555648]), (83, .lcmp, 1, [], []), (84, .ifCond .eq 212, 3, [296], []), (87, .aload_n 0, 1, [], []), (88, .getfield 163, 3, [11, 7, 2, 0, 0, 1297], []), (91, .ldc2_w 245, 3, [1529], [1310653]), (94, .lcmp, 1, [], []), (95, .ifCond .eq 201, 3, [296], []), (98, .aload_n 0, 1, [], []), (99, .getfield 163, 3, [11, 7, 2, 0, 0, 1297], []), (102, .ldc2_w 247, 3, [1530], [131638]), (105, .lcmp, 1, [], []), (106, .ifCond .eq 190, 3, [296], []), (109, .aload_n 0, 1, [], []), (110, .getfield 163, 3, [11, 7, 2, 0, 0, 1297], []), (113, .ldc2_w 249, 3, [1531], [8863997]), (116, .lcmp, 1, [], []), (117, .ifCond .eq 179, 3, [296], []), (120, .aload_n 0, 1, [], []), (121, .getfield 163, 3, [11, 7, 2, 0, 0, 1297], []), (124, .ldc2_w 251, 3, [1532], [12250999]), (127, .lcmp, 1, [], []), (128, .ifCond .eq 168, 3, [296], []), (131, .aload_n 0, 1, [], []), (132, .getfield 163, 3, [11, 7, 2, 0, 0, 1297], []), (135, .ldc2_w 253, 3, [1533], [12322792]), (138, .lcmp, 1, [], []), (139, .ifCond .eq 157, 3, [296], []), (142, .aload_n 0, 1, [], []), (143, .getfield 163, 3, [11, 7, 2, 0, 0, 1297], []), (146, .ldc2_w 255, 3, [1534], [10334396]), (149, .lcmp, 1, [], []), (150, .ifCond .eq 146, 3, [296], []), (153, .aload_n 0, 1, [], []), (154, .getfield 163, 3, [11, 7, 2, 0, 0, 1297], []), (157, .ldc2_w 257, 3, [1535], [3913426]), (160, .lcmp, 1, [], []), (161, .ifCond .eq 135, 3, [296], []), (164, .aload_n 0, 1, [], []), (165, .getfield 163, 3, [11, 7, 2, 0, 0, 1297], []), (168, .ldc2_w 259, 3, [1536], [409469]), (171, .lcmp, 1, [], []), (172, .ifCond .eq 124, 3, [296], []), (175, .aload_n 0, 1, [], []), (176, .getfield 163, 3, [11, 7, 2, 0, 0, 1297], []), (179, .ldc2_w 261, 3, [1537], [380396]), (182, .lcmp, 1, [], []), (183, .ifCond .eq 113, 3, [296], []), (186, .aload_n 0, 1, [], []), (187, .getfield 163, 3, [11, 7, 2, 0, 0, 1297], []), (190, .ldc2_w 263, 3, [1538], [307058]), (193, .lcmp, 1, [], []), (194, .ifCond .eq 102, 3, [296], []), (197, .aload_n 0, 1, [], []), (198, .getfield 163, 3, [11, 7, 2, 0, 0, 1297], []), (201, .ldc2_w 265, 3, [1539], [259906]), (204, .lcmp, 1, [], []), (205, .ifCond .eq 91, 3, [296], []), (208, .aload_n 0, 1, [], []), (209, .getfield 163, 3, [11, 7, 2, 0, 0, 1297], []), (212, .ldc2_w 267, 3, [1540], [388708]), (215, .lcmp, 1, [], []), (216, .ifCond .eq 80, 3, [296], []), (219, .aload_n 0, 1, [], []), (220, .getfield 163, 3, [11, 7, 2, 0, 0, 1297], []), (223, .ldc2_w 269, 3, [1541], [8740238]), (226, .lcmp, 1, [], []), (227, .ifCond .eq 69, 3, [296], []), (230, .aload_n 0, 1, [], []), (231, .getfield 163, 3, [11, 7, 2, 0, 0, 1297], []), (234, .ldc2_w 271, 3, [1542], [394725]), (237, .lcmp, 1, [], []), (238, .ifCond .eq 58, 3, [296], []), (241, .aload_n 0, 1, [], []), (242, .getfield 163, 3, [11, 7, 2, 0, 0, 1297], []), (245, .ldc2_w 273, 3, [1543], [11263]), (248, .lcmp, 1, [], []), (249, .ifCond .eq 47, 3, [296], []), (252, .aload_n 0, 1, [], []), (253, .getfield 163, 3, [11, 7, 2, 0, 0, 1297], []), (256, .ldc2_w 275, 3, [1544], [10354323]), (259, .lcmp, 1, [], []), (260, .ifCond .eq 36, 3, [296], []), (263, .aload_n 0, 1, [], []), (264, .getfield 163, 3, [11, 7, 2, 0, 0, 1297], []), (267, .ldc2_w 199, 3, [1545], [10631]), (270, .lcmp, 1, [], []), (271, .ifCond .eq 25, 3, [296], []), (274, .aload_n 0, 1, [], []), (275, .getfield 163, 3, [11, 7, 2, 0, 0, 1297], []), (278, .ldc2_w 218, 3, [1546], [1111]), (281, .lcmp, 1, [], []), (282, .ifCond .eq 14, 3, [296], []), (285, .aload_n 0, 1, [], []), (286, .getfield 163, 3, [11, 7, 2, 0, 0, 1297], []), (289, .ldc2_w 220, 3, [1547], [423]), (292, .lcmp, 1, [], []), (293, .ifCond .ne 7, 3, [300], []), (296, .iconst 1, 1, [], []), (297, .goto 4, 3, [301], []), (300, .iconst 0, 1, [], []), (301, .ireturn, 1, [1], [])]
def tb_X13_turbineNamed : ZT := [(0, .bipush 6, 2, [], []), (2, .iload_n 1, 1, [], []), (3, .imul, 1, [], []), (4, .istore_n 2, 1, [], []), (5, .iload_n 2, 1, [], []), (6, .bipush 6, 2, [], []), (8, .iload_n 1, 1, [], []), (9, .imul, 1, [], []), (10, .aload_n 0, 1, [], []), (11, .getfield 13, 3, [11, 10, 3, 51, 0, 1300], []), (14, .bipush 9, 2, [], []), (16, .iload_n 1, 1, [], []), (17, .imul, 1, [], []), (18, .iconst 0, 1, [], []), (19, .iadd, 1, [], []), (20, .iaload, 1, [], []), (21, .iadd, 1, [], []), (22, .if_icmp .ge 30, 3, [52], []), (25, .aload_n 0, 1, [], []), (26, .getfield 16, 3, [11, 11, 3, 52, 0, 1301], []), (29, .iload_n 2, 1, [], []), (30, .laload, 1, [], []), (31, .aload_n 0, 1, [], []), (32, .getfield 163, 3, [11, 7, 2, 0, 0, 1297], []), (35, .lcmp, 1, [], []), (36, .ifCond .ne 10, 3, [46], []), (39, .iload_n 2, 1, [], []), (40, .bipush 6, 2, [], []), (42, .iload_n 1, 1, [], []), (43, .imul, 1, [], []), (44, .isub, 1, [], []), (45, .ireturn, 1, [], []), (46, .iinc 2 1, 3, [], []), (49, .goto (-44), 3, [5], []), (52, .iconst (-1), 1, [], []), (53, .ireturn, 1, [], [])]
def tb_X13_needsNumber : ZT := [(0, .aload_n 0, 1, [], []), (1, .getfield 170, 3, [11, 6, 0, 0, 0, 1296], []), (4, .iconst 2, 1, [], []), (5, .if_icmp .eq 9, 3, [14], []), (8, .aload_n 0, 1, [], []), (9, .iconst 1, 1, [], []), (10, .invokevirtual 209, 3, [1, 158, 2, 1515, 0, 11], []), (13, .ireturn, 1, [1], []), (14, .aload_n 0, 1, [], []), (15, .getfield 167, 3, [11, 8, 0, 0, 0, 1298], []), (18, .iload_n 1, 1, [], []), (19, .iload_n 2, 1, [], []), (20, .invokestatic 277, 3, [0, 151, 3, 1560, 0], []), (23, .ifCond .ne 9, 3, [32], []), (26, .aload_n 0, 1, [], []), (27, .iconst 4, 1, [], []), (28, .invokevirtual 209, 3, [1, 158, 2, 1515, 0, 11], []), (31, .ireturn, 1, [1], []), (32, .aload_n 0, 1, [], []), (33, .aload_n 0, 1, [], []), (34, .getfield 167, 3, [11, 8, 0, 0, 0, 1298], []), (37, .putfield 281, 3, [11, 35, 0, 0, 0, 1325], []), (40, .aload_n 0, 1, [], []), (41, .invokevirtual 215, 3, [1, 155, 1, 1492, 0, 11], []), (44, .iconst 1, 1, [], []), (45, .ireturn, 1, [1], [])]
def tb_X13_needsBoth : ZT := [(0, .aload_n 0, 1, [], []), (1, .lload_n 1, 1, [], []), (2, .invokevirtual 201, 3, [1, 156, 2, 1507, 0, 11], []), (5, .ifCond .ne 9, 3, [14], []), (8, .aload_n 0, 1, [], []), (9, .iconst 1, 1, [], []), (10, .invokevirtual 209, 3, [1, 158, 2, 1515, 0, 11], []), (13, .ireturn, 1, [1], []), (14, .aload_n 0, 1, [], []), (15, .invokevirtual 215, 3, [1, 155, 1, 1492, 0, 11], []), (18, .aload_n 0, 1, [], []), (19, .iload_n 3, 1, [], []), (20, .iload 4, 2, [], []), (22, .invokevirtual 284, 3, [1, 169, 3, 1556, 0, 11], []), (25, .ireturn, 1, [1], [])]
def tb_X13_closes : ZT := [(0, .aload_n 0, 1, [], []), (1, .bipush 59, 2, [], []), (3, .invokevirtual 205, 3, [1, 157, 2, 1571, 0, 11], []), (6, .ifCond .ne 9, 3, [15], []), (9, .aload_n 0, 1, [], []), (10, .iconst 1, 1, [], []), (11, .invokevirtual 209, 3, [1, 158, 2, 1515, 0, 11], []), (14, .ireturn, 1, [1], []), (15, .aload_n 0, 1, [], []), (16, .invokevirtual 215, 3, [1, 155, 1, 1492, 0, 11], []), (19, .iconst 1, 1, [], []), (20, .ireturn, 1, [1], [])]
def tb_X13_needsTurbine : ZT := [(0, .aload_n 0, 1, [], []), (1, .invokevirtual 288, 3, [1, 167, 1, 1519, 0, 11], []), (4, .ifCond .eq 9, 3, [13], []), (7, .aload_n 0, 1, [], []), (8, .iconst 1, 1, [], []), (9, .invokevirtual 209, 3, [1, 158, 2, 1515, 0, 11], []), (12, .ireturn, 1, [1], []), (13, .aload_n 0, 1, [], []), (14, .aload_n 0, 1, [], []), (15, .iload_n 1, 1, [], []), (16, .invokevirtual 292, 3, [1, 168, 2, 1548, 0, 11], []), (19, .putfield 281, 3, [11, 35, 0, 0, 0, 1325], []), (22, .aload_n 0, 1, [], []), (23, .getfield 281, 3, [11, 35, 0, 0, 0, 1325], []), (26, .ifCond .ge 11, 3, [37], []), (29, .aload_n 0, 1, [], []), (30, .iconst 2, 1, [], []), (31, .invokevirtual 209, 3, [1, 158, 2, 1515, 0, 11], []), (34, .ifCond .eq 7, 3, [41], []), (37, .iconst 1, 1, [], []), (38, .goto 4, 3, [42], []), (41, .iconst 0, 1, [], []), (42, .ireturn, 1, [1], [])]
def tb_X13_stands : ZT := [(0, .bipush 6, 2, [], []), (2, .istore_n 2, 1, [], []), (3, .iload_n 2, 1, [], []), (4, .bipush 6, 2, [], []), (6, .aload_n 0, 1, [], []), (7, .getfield 13, 3, [11, 10, 3, 51, 0, 1300], []), (10, .bipush 9, 2, [], []), (12, .iaload, 1, [], []), (13, .iadd, 1, [], []), (14, .if_icmp .ge 21, 3, [35], []), (17, .aload_n 0, 1, [], []), (18, .getfield 26, 3, [11, 14, 3, 55, 0, 1304], []), (21, .iload_n 2, 1, [], []), (22, .iaload, 1, [], []), (23, .iload_n 1, 1, [], []), (24, .if_icmp .ne 5, 3, [29], []), (27, .iconst 1, 1, [], []), (28, .ireturn, 1, [1], []), (29, .iinc 2 1, 3, [], []), (32, .goto (-29), 3, [3], []), (35, .iconst 0, 1, [], []), (36, .ireturn, 1, [1], [])]
def tb_X13_readsTurbine : ZT := [(0, .bipush 6, 2, [], []), (2, .aload_n 0, 1, [], []), (3, .getfield 13, 3, [11, 10, 3, 51, 0, 1300], []), (6, .bipush 9, 2, [], []), (8, .iaload, 1, [], []), (9, .iadd, 1, [], []), (10, .istore_n 1, 1, [], []), (11, .iload_n 1, 1, [], []), (12, .bipush 12, 2, [], []), (14, .if_icmp .ne 9, 3, [23], []), (17, .aload_n 0, 1, [], []), (18, .iconst 5, 1, [], []), (19, .invokevirtual 209, 3, [1, 158, 2, 1515, 0, 11], []), (22, .ireturn, 1, [1], []), (23, .aload_n 0, 1, [], []), (24, .invokevirtual 215, 3, [1, 155, 1, 1492, 0, 11], []), (27, .aload_n 0, 1, [], []), (28, .invokevirtual 288, 3, [1, 167, 1, 1519, 0, 11], []), (31, .ifCond .eq 9, 3, [40], []), (34, .aload_n 0, 1, [], []), (35, .iconst 1, 1, [], []), (36, .invokevirtual 209, 3, [1, 158, 2, 1515, 0, 11], []), (39, .ireturn, 1, [1], []), (40, .aload_n 0, 1, [], []), (41, .iconst 1, 1, [], []), (42, .invokevirtual 292, 3, [1, 168, 2, 1548, 0, 11], []), (45, .ifCond .lt 9, 3, [54], []), (48, .aload_n 0, 1, [], []), (49, .iconst 3, 1, [], []), (50, .invokevirtual 209, 3, [1, 158, 2, 1515, 0, 11], []), (53, .ireturn, 1, [1], []), (54, .aload_n 0, 1, [], []), (55, .getfield 163, 3, [11, 7, 2, 0, 0, 1297], []), (58, .lstore_n 2, 1, [], []), (59, .aload_n 0, 1, [], []), (60, .invokevirtual 215, 3, [1, 155, 1, 1492, 0, 11], []), (63, .aload_n 0, 1, [], []), (64, .getfield 20, 3, [11, 12, 3, 53, 0, 1302], []), (67, .iload_n 1, 1, [], []), (68, .aload_n 0, 1, [], []), (69, .ldc2_w 269, 3, [1541], [8740238]), (72, .invokevirtual 201, 3, [1, 156, 2, 1507, 0, 11], []), (75, .ifCond .eq 7, 3, [82], []), (78, .iconst 0, 1, [], []), (79, .goto 46, 3, [125], []), (82, .aload_n 0, 1, [], []), (83, .ldc2_w 271, 3, [1542], [394725]), (86, .invokevirtual 201, 3, [1, 156, 2, 1507, 0, 11], []), (89, .ifCond .eq 7, 3, [96], []), (92, .iconst 1, 1, [], []), (93, .goto 32, 3, [125], []), (96, .aload_n 0, 1, [], []), (97, .ldc2_w 273, 3, [1543], [11263]), (100, .invokevirtual 201, 3, [1, 156, 2, 1507, 0, 11], []), (103, .ifCond .eq 7, 3, [110], []), (106, .iconst 2, 1, [], []), (107, .goto 18, 3, [125], []), (110, .aload_n 0, 1, [], []), (111, .ldc2_w 275, 3, [1544], [10354323]), (114, .invokevirtual 201, 3, [1, 156, 2, 1507, 0, 11], []), (117, .ifCond .eq 7, 3, [124], []), (120, .iconst 3, 1, [], []), (121, .goto 4, 3, [125], []), (124, .iconst (-1), 1, [], []), (125, .iastore, 1, [], []), (126, .aload_n 0, 1, [], []), (127, .getfield 20, 3, [11, 12, 3, 53, 0, 1302], []), (130, .iload_n 1, 1, [], []), (131, .iaload, 1, [], []), (132, .ifCond .ge 9, 3, [141], []), (135, .aload_n 0, 1, [], []), (136, .iconst 1, 1, [], []), (137, .invokevirtual 209, 3, [1, 158, 2, 1515, 0, 11], []), (140, .ireturn, 1, [1], []), (141, .aload_n 0, 1, [], []), (142, .invokevirtual 215, 3, [1, 155, 1, 1492, 0, 11], []), (145, .aload_n 0, 1, [], []), (146, .ldc2_w 233, 3, [1523], [411]), (149, .iconst 1, 1, [], []), (150, .iconst 2, 1, [], []), (151, .invokevirtual 295, 3, [1, 170, 4, 1552, 0, 11], []), (154, .ifCond .ne 5, 3, [159], []), (157, .iconst 0, 1, [], []), (158, .ireturn, 1, [1], []), (159, .aload_n 0, 1, [], []), (160, .getfield 23, 3, [11, 13, 3, 54, 0, 1303], []), (163, .iload_n 1, 1, [], []), (164, .aload_n 0, 1, [], []), (165, .getfield 281, 3, [11, 35, 0, 0, 0, 1325], []), (168, .iastore, 1, [], []), (169, .aload_n 0, 1, [], []), (170, .ldc2_w 235, 3, [1524], [47]), (173, .invokevirtual 201, 3, [1, 156, 2, 1507, 0, 11], []), (176, .ifCond .ne 9, 3, [185], []), (179, .aload_n 0, 1, [], []), (180, .iconst 1, 1, [], []), (181, .invokevirtual 209, 3, [1, 158, 2, 1515, 0, 11], []), (184, .ireturn, 1, [1], []), (185, .aload_n 0, 1, [], []), (186, .invokevirtual 215, 3, [1, 155, 1, 1492, 0, 11], []), (189, .aload_n 0, 1, [], []), (190, .getfield 170, 3, [11, 6, 0, 0, 0, 1296], []), (193, .iconst 2, 1, [], []), (194, .if_icmp .eq 9, 3, [203], []), (197, .aload_n 0, 1, [], []), (198, .iconst 1, 1, [], []), (199, .invokevirtual 209, 3, [1, 158, 2, 1515, 0, 11], []), (202, .ireturn, 1, [1], []), (203, .aload_n 0, 1, [], []), (204, .getfield 167, 3, [11, 8, 0, 0, 0, 1298], []), (207, .bipush 35, 2, [], []), (209, .if_icmp .le 9, 3, [218], []), (212, .aload_n 0, 1, [], []), (213, .iconst 4, 1, [], []), (214, .invokevirtual 209, 3, [1, 158, 2, 1515, 0, 11], []), (217, .ireturn, 1, [1], []), (218, .aload_n 0, 1, [], []), (219, .aload_n 0, 1, [], []), (220, .getfield 167, 3, [11, 8, 0, 0, 0, 1298], []), (223, .invokevirtual 299, 3, [1, 173, 2, 1563, 0, 11], []), (226, .ifCond .eq 9, 3, [235], []), (229, .aload_n 0, 1, [], []), (230, .iconst 3, 1, [], []), (231, .invokevirtual 209, 3, [1, 158, 2, 1515, 0, 11], []), (234, .ireturn, 1, [1], []), (235, .aload_n 0, 1, [], []), (236, .getfield 26, 3, [11, 14, 3, 55, 0, 1304], []), (239, .iload_n 1, 1, [], []), (240, .aload_n 0, 1, [], []), (241, .getfield 167, 3, [11, 8, 0, 0, 0, 1298], []), (244, .iastore, 1, [], []), (245, .aload_n 0, 1, [], []), (246, .invokevirtual 215, 3, [1, 155, 1, 1492, 0, 11], []), (249, .aload_n 0, 1, [], []), (250, .getfield 29, 3, [11, 15, 3, 56, 0, 1305], []), (253, .iload_n 1, 1, [], []), (254, .iconst (-1), 1, [], []), (255, .iastore, 1, [], []), (256, .aload_n 0, 1, [], []), (257, .getfield 32, 3, [11, 16, 3, 57, 0, 1306], []), (260, .iload_n 1, 1, [], []), (261, .iconst 0, 1, [], []), (262, .iastore, 1, [], []), (263, .aload_n 0, 1, [], []), (264, .getfield 16, 3, [11, 11, 3, 52, 0, 1301], []), (267, .iload_n 1, 1, [], []), (268, .lload_n 2, 1, [], []), (269, .lastore, 1, [], []), (270, .aload_n 0, 1, [], []), (271, .getfield 13, 3, [11, 10, 3, 51, 0, 1300], []), (274, .bipush 9, 2, [], []), (276, .dup2, 1, [], []), (277, .iaload, 1, [], []), (278, .iconst 1, 1, [], []), (279, .iadd, 1, [], []), (280, .iastore, 1, [], []), (281, .aload_n 0, 1, [], []), (282, .invokevirtual 302, 3, [1, 171, 1, 1567, 0, 11], []), (285, .ireturn, 1, [1], [])]
def tb_X13_readsCable : ZT := [(0, .aload_n 0, 1, [], []), (1, .invokevirtual 215, 3, [1, 155, 1, 1492, 0, 11], []), (4, .aload_n 0, 1, [], []), (5, .iconst 1, 1, [], []), (6, .invokevirtual 305, 3, [1, 172, 2, 1579, 0, 11], []), (9, .ifCond .ne 5, 3, [14], []), (12, .iconst 0, 1, [], []), (13, .ireturn, 1, [1], []), (14, .bipush 6, 2, [], []), (16, .aload_n 0, 1, [], []), (17, .getfield 281, 3, [11, 35, 0, 0, 0, 1325], []), (20, .iadd, 1, [], []), (21, .istore_n 1, 1, [], []), (22, .aload_n 0, 1, [], []), (23, .getfield 29, 3, [11, 15, 3, 56, 0, 1305], []), (26, .iload_n 1, 1, [], []), (27, .iaload, 1, [], []), (28, .ifCond .lt 9, 3, [37], []), (31, .aload_n 0, 1, [], []), (32, .iconst 3, 1, [], []), (33, .invokevirtual 209, 3, [1, 158, 2, 1515, 0, 11], []), (36, .ireturn, 1, [1], []), (37, .aload_n 0, 1, [], []), (38, .invokevirtual 215, 3, [1, 155, 1, 1492, 0, 11], []), (41, .bipush 6, 2, [], []), (43, .istore_n 2, 1, [], []), (44, .aload_n 0, 1, [], []), (45, .ldc2_w 239, 3, [1526], [555]), (48, .invokevirtual 201, 3, [1, 156, 2, 1507, 0, 11], []), (51, .ifCond .eq 46, 3, [97], []), (54, .aload_n 0, 1, [], []), (55, .invokevirtual 215, 3, [1, 155, 1, 1492, 0, 11], []), (58, .aload_n 0, 1, [], []), (59, .iconst 1, 1, [], []), (60, .invokevirtual 305, 3, [1, 172, 2, 1579, 0, 11], []), (63, .ifCond .ne 5, 3, [68], []), (66, .iconst 0, 1, [], []), (67, .ireturn, 1, [1], []), (68, .aload_n 0, 1, [], []), (69, .getfield 29, 3, [11, 15, 3, 56, 0, 1305], []), (72, .bipush 6, 2, [], []), (74, .aload_n 0, 1, [], []), (75, .getfield 281, 3, [11, 35, 0, 0, 0, 1325], []), (78, .iadd, 1, [], []), (79, .iaload, 1, [], []), (80, .ifCond .ge 9, 3, [89], []), (83, .aload_n 0, 1, [], []), (84, .iconst 2, 1, [], []), (85, .invokevirtual 209, 3, [1, 158, 2, 1515, 0, 11], []), (88, .ireturn, 1, [1], []), (89, .aload_n 0, 1, [], []), (90, .getfield 281, 3, [11, 35, 0, 0, 0, 1325], []), (93, .istore_n 2, 1, [], []), (94, .goto 19, 3, [113], []), (97, .aload_n 0, 1, [], []), (98, .ldc2_w 241, 3, [1527], [168755]), (101, .invokevirtual 201, 3, [1, 156, 2, 1507, 0, 11], []), (104, .ifCond .ne 9, 3, [113], []), (107, .aload_n 0, 1, [], []), (108, .iconst 1, 1, [], []), (109, .invokevirtual 209, 3, [1, 158, 2, 1515, 0, 11], []), (112, .ireturn, 1, [1], []), (113, .aload_n 0, 1, [], []), (114, .invokevirtual 215, 3, [1, 155, 1, 1492, 0, 11], []), (117, .aload_n 0, 1, [], []), (118, .ldc2_w 243, 3, [1528], [4555648]), (121, .iconst 1, 1, [], []), (122, .sipush 200, 3, [], []), (125, .invokevirtual 295, 3, [1, 170, 4, 1552, 0, 11], []), (128, .ifCond .ne 5, 3, [133], []), (131, .iconst 0, 1, [], []), (132, .ireturn, 1, [1], []), (133, .aload_n 0, 1, [], []), (134, .getfield 29, 3, [11, 15, 3, 56, 0, 1305], []), (137, .iload_n 1, 1, [], []), (138, .iload_n 2, 1, [], []), (139, .iastore, 1, [], []), (140, .aload_n 0, 1, [], []), (141, .getfield 32, 3, [11, 16, 3, 57, 0, 1306], []), (144, .iload_n 1, 1, [], []), (145, .aload_n 0, 1, [], []), (146, .getfield 281, 3, [11, 35, 0, 0, 0, 1325], []), (149, .iastore, 1, [], []), (150, .aload_n 0, 1, [], []), (151, .invokevirtual 302, 3, [1, 171, 1, 1567, 0, 11], []), (154, .ireturn, 1, [1], [])]
def tb_X13_isTold : ZT := [(0, .aload_n 0, 1, [], []), (1, .getfield 308, 3, [11, 22, 0, 0, 0, 1312], []), (4, .iload_n 1, 1, [], []), (5, .ishr, 1, [], []), (6, .iconst 1, 1, [], []), (7, .iand, 1, [], []), (8, .iconst 1, 1, [], []), (9, .if_icmp .ne 7, 3, [16], []), (12, .iconst 1, 1, [], []), (13, .goto 4, 3, [17], []), (16, .iconst 0, 1, [], []), (17, .istore_n 2, 1, [], []), (18, .aload_n 0, 1, [], []), (19, .dup, 1, [], []), (20, .getfield 308, 3, [11, 22, 0, 0, 0, 1312], []), (23, .iconst 1, 1, [], []), (24, .iload_n 1, 1, [], []), (25, .ishl, 1, [], []), (26, .ior, 1, [], []), (27, .putfield 308, 3, [11, 22, 0, 0, 0, 1312], []), (30, .iload_n 2, 1, [], []), (31, .ireturn, 1, [1], [])]
def tb_X13_readsRow : ZT := [(0, .aload_n 0, 1, [], []), (1, .iload_n 1, 1, [], []), (2, .invokevirtual 311, 3, [1, 176, 2, 1587, 0, 11], []), (5, .ifCond .eq 9, 3, [14], []), (8, .aload_n 0, 1, [], []), (9, .iconst 3, 1, [], []), (10, .invokevirtual 209, 3, [1, 158, 2, 1515, 0, 11], []), (13, .ireturn, 1, [1], []), (14, .aload_n 0, 1, [], []), (15, .invokevirtual 215, 3, [1, 155, 1, 1492, 0, 11], []), (18, .iconst 0, 1, [], []), (19, .istore_n 3, 1, [], []), (20, .iload_n 3, 1, [], []), (21, .ifCond .eq 11, 3, [32], []), (24, .aload_n 0, 1, [], []), (25, .getfield 170, 3, [11, 6, 0, 0, 0, 1296], []), (28, .iconst 2, 1, [], []), (29, .if_icmp .ne 73, 3, [102], []), (32, .aload_n 0, 1, [], []), (33, .getfield 170, 3, [11, 6, 0, 0, 0, 1296], []), (36, .iconst 2, 1, [], []), (37, .if_icmp .eq 9, 3, [46], []), (40, .aload_n 0, 1, [], []), (41, .iconst 1, 1, [], []), (42, .invokevirtual 209, 3, [1, 158, 2, 1515, 0, 11], []), (45, .ireturn, 1, [1], []), (46, .aload_n 0, 1, [], []), (47, .getfield 167, 3, [11, 8, 0, 0, 0, 1298], []), (50, .iload_n 2, 1, [], []), (51, .if_icmp .le 9, 3, [60], []), (54, .aload_n 0, 1, [], []), (55, .iconst 4, 1, [], []), (56, .invokevirtual 209, 3, [1, 158, 2, 1515, 0, 11], []), (59, .ireturn, 1, [1], []), (60, .iload_n 3, 1, [], []), (61, .bipush 8, 2, [], []), (63, .if_icmp .ne 9, 3, [72], []), (66, .aload_n 0, 1, [], []), (67, .iconst 5, 1, [], []), (68, .invokevirtual 209, 3, [1, 158, 2, 1515, 0, 11], []), (71, .ireturn, 1, [1], []), (72, .aload_n 0, 1, [], []), (73, .getfield 35, 3, [11, 17, 3, 58, 0, 1307], []), (76, .bipush 24, 2, [], []), (78, .bipush 8, 2, [], []), (80, .iload_n 1, 1, [], []), (81, .iconst 1, 1, [], []), (82, .isub, 1, [], []), (83, .imul, 1, [], []), (84, .iadd, 1, [], []), (85, .iload_n 3, 1, [], []), (86, .iadd, 1, [], []), (87, .aload_n 0, 1, [], []), (88, .getfield 167, 3, [11, 8, 0, 0, 0, 1298], []), (91, .iastore, 1, [], []), (92, .iinc 3 1, 3, [], []), (95, .aload_n 0, 1, [], []), (96, .invokevirtual 215, 3, [1, 155, 1, 1492, 0, 11], []), (99, .goto (-79), 3, [20], []), (102, .aload_n 0, 1, [], []), (103, .getfield 13, 3, [11, 10, 3, 51, 0, 1300], []), (106, .bipush 9, 2, [], []), (108, .iload_n 1, 1, [], []), (109, .iadd, 1, [], []), (110, .iload_n 3, 1, [], []), (111, .iastore, 1, [], []), (112, .aload_n 0, 1, [], []), (113, .invokevirtual 302, 3, [1, 171, 1, 1567, 0, 11], []), (116, .ireturn, 1, [1], [])]
def tb_X13_readsOne : ZT := [(0, .aload_n 0, 1, [], []), (1, .iload_n 1, 1, [], []), (2, .invokevirtual 311, 3, [1, 176, 2, 1587, 0, 11], []), (5, .ifCond .eq 9, 3, [14], []), (8, .aload_n 0, 1, [], []), (9, .iconst 3, 1, [], []), (10, .invokevirtual 209, 3, [1, 158, 2, 1515, 0, 11], []), (13, .ireturn, 1, [1], []), (14, .aload_n 0, 1, [], []), (15, .invokevirtual 215, 3, [1, 155, 1, 1492, 0, 11], []), (18, .aload_n 0, 1, [], []), (19, .iconst 1, 1, [], []), (20, .iload_n 2, 1, [], []), (21, .invokevirtual 284, 3, [1, 169, 3, 1556, 0, 11], []), (24, .ifCond .ne 5, 3, [29], []), (27, .iconst 0, 1, [], []), (28, .ireturn, 1, [1], []), (29, .aload_n 0, 1, [], []), (30, .getfield 13, 3, [11, 10, 3, 51, 0, 1300], []), (33, .bipush 9, 2, [], []), (35, .iload_n 1, 1, [], []), (36, .iadd, 1, [], []), (37, .aload_n 0, 1, [], []), (38, .getfield 281, 3, [11, 35, 0, 0, 0, 1325], []), (41, .iastore, 1, [], []), (42, .aload_n 0, 1, [], []), (43, .invokevirtual 302, 3, [1, 171, 1, 1567, 0, 11], []), (46, .ireturn, 1, [1], [])]
def tb_X13_readsWakes : ZT := [(0, .aload_n 0, 1, [], []), (1, .bipush 6, 2, [], []), (3, .invokevirtual 311, 3, [1, 176, 2, 1587, 0, 11], []), (6, .ifCond .eq 9, 3, [15], []), (9, .aload_n 0, 1, [], []), (10, .iconst 3, 1, [], []), (11, .invokevirtual 209, 3, [1, 158, 2, 1515, 0, 11], []), (14, .ireturn, 1, [1], []), (15, .aload_n 0, 1, [], []), (16, .invokevirtual 215, 3, [1, 155, 1, 1492, 0, 11], []), (19, .iconst 0, 1, [], []), (20, .istore_n 1, 1, [], []), (21, .iload_n 1, 1, [], []), (22, .iconst 3, 1, [], []), (23, .if_icmp .ge 34, 3, [57], []), (26, .aload_n 0, 1, [], []), (27, .iconst 0, 1, [], []), (28, .bipush 9, 2, [], []), (30, .invokevirtual 284, 3, [1, 169, 3, 1556, 0, 11], []), (33, .ifCond .ne 5, 3, [38], []), (36, .iconst 0, 1, [], []), (37, .ireturn, 1, [1], []), (38, .aload_n 0, 1, [], []), (39, .getfield 13, 3, [11, 10, 3, 51, 0, 1300], []), (42, .bipush 15, 2, [], []), (44, .iload_n 1, 1, [], []), (45, .iadd, 1, [], []), (46, .aload_n 0, 1, [], []), (47, .getfield 281, 3, [11, 35, 0, 0, 0, 1325], []), (50, .iastore, 1, [], []), (51, .iinc 1 1, 3, [], []), (54, .goto (-33), 3, [21], []), (57, .aload_n 0, 1, [], []), (58, .invokevirtual 302, 3, [1, 171, 1, 1567, 0, 11], []), (61, .ireturn, 1, [1], [])]
def tb_X13_readsGives : ZT := [(0, .aload_n 0, 1, [], []), (1, .getfield 41, 3, [11, 19, 3, 60, 0, 1309], []), (4, .iconst 1, 1, [], []), (5, .iaload, 1, [], []), (6, .aload_n 0, 1, [], []), (7, .getfield 38, 3, [11, 18, 3, 59, 0, 1308], []), (10, .iconst 1, 1, [], []), (11, .iaload, 1, [], []), (12, .if_icmp .le 9, 3, [21], []), (15, .aload_n 0, 1, [], []), (16, .iconst 3, 1, [], []), (17, .invokevirtual 209, 3, [1, 158, 2, 1515, 0, 11], []), (20, .ireturn, 1, [1], []), (21, .aload_n 0, 1, [], []), (22, .invokevirtual 215, 3, [1, 155, 1, 1492, 0, 11], []), (25, .aload_n 0, 1, [], []), (26, .getfield 38, 3, [11, 18, 3, 59, 0, 1308], []), (29, .iconst 1, 1, [], []), (30, .aload_n 0, 1, [], []), (31, .getfield 184, 3, [11, 21, 0, 0, 0, 1311], []), (34, .iastore, 1, [], []), (35, .aload_n 0, 1, [], []), (36, .invokevirtual 314, 3, [1, 162, 1, 1603, 0, 11], []), (39, .ifCond .ne 5, 3, [44], []), (42, .iconst 0, 1, [], []), (43, .ireturn, 1, [1], []), (44, .aload_n 0, 1, [], []), (45, .getfield 41, 3, [11, 19, 3, 60, 0, 1309], []), (48, .iconst 1, 1, [], []), (49, .aload_n 0, 1, [], []), (50, .getfield 184, 3, [11, 21, 0, 0, 0, 1311], []), (53, .iastore, 1, [], []), (54, .iconst 1, 1, [], []), (55, .ireturn, 1, [1], [])]
def tb_X13_begins : ZT := [(0, .aload_n 0, 1, [], []), (1, .aload_n 0, 1, [], []), (2, .getfield 151, 3, [11, 1, 0, 0, 0, 1291], []), (5, .putfield 154, 3, [11, 3, 0, 0, 0, 1293], []), (8, .aload_n 0, 1, [], []), (9, .iconst 0, 1, [], []), (10, .putfield 151, 3, [11, 1, 0, 0, 0, 1291], []), (13, .aload_n 0, 1, [], []), (14, .iconst 0, 1, [], []), (15, .putfield 157, 3, [11, 4, 0, 0, 0, 1294], []), (18, .aload_n 0, 1, [], []), (19, .invokevirtual 215, 3, [1, 155, 1, 1492, 0, 11], []), (22, .return_, 1, [], [])]
def tb_X13_readsPark : ZT := [(0, .aload_n 0, 1, [], []), (1, .ldc2_w 231, 3, [1506], [8059349075]), (4, .invokevirtual 201, 3, [1, 156, 2, 1507, 0, 11], []), (7, .ifCond .eq 8, 3, [15], []), (10, .aload_n 0, 1, [], []), (11, .invokevirtual 317, 3, [1, 174, 1, 1511, 0, 11], []), (14, .ireturn, 1, [1], []), (15, .aload_n 0, 1, [], []), (16, .ldc2_w 237, 3, [1525], [1615793]), (19, .invokevirtual 201, 3, [1, 156, 2, 1507, 0, 11], []), (22, .ifCond .eq 8, 3, [30], []), (25, .aload_n 0, 1, [], []), (26, .invokevirtual 320, 3, [1, 175, 1, 1575, 0, 11], []), (29, .ireturn, 1, [1], []), (30, .aload_n 0, 1, [], []), (31, .ldc2_w 245, 3, [1529], [1310653]), (34, .invokevirtual 201, 3, [1, 156, 2, 1507, 0, 11], []), (37, .ifCond .eq 11, 3, [48], []), (40, .aload_n 0, 1, [], []), (41, .iconst 1, 1, [], []), (42, .bipush 30, 2, [], []), (44, .invokevirtual 323, 3, [1, 177, 3, 1583, 0, 11], []), (47, .ireturn, 1, [1], []), (48, .aload_n 0, 1, [], []), (49, .ldc2_w 247, 3, [1530], [131638]), (52, .invokevirtual 201, 3, [1, 156, 2, 1507, 0, 11], []), (55, .ifCond .eq 10, 3, [65], []), (58, .aload_n 0, 1, [], []), (59, .iconst 2, 1, [], []), (60, .iconst 3, 1, [], []), (61, .invokevirtual 323, 3, [1, 177, 3, 1583, 0, 11], []), (64, .ireturn, 1, [1], []), (65, .aload_n 0, 1, [], []), (66, .ldc2_w 249, 3, [1531], [8863997]), (69, .invokevirtual 201, 3, [1, 156, 2, 1507, 0, 11], []), (72, .ifCond .eq 11, 3, [83], []), (75, .aload_n 0, 1, [], []), (76, .iconst 3, 1, [], []), (77, .bipush 20, 2, [], []), (79, .invokevirtual 323, 3, [1, 177, 3, 1583, 0, 11], []), (82, .ireturn, 1, [1], []), (83, .aload_n 0, 1, [], []), (84, .ldc2_w 251, 3, [1532], [12250999]), (87, .invokevirtual 201, 3, [1, 156, 2, 1507, 0, 11], []), (90, .ifCond .eq 8, 3, [98], []), (93, .aload_n 0, 1, [], []), (94, .invokevirtual 326, 3, [1, 179, 1, 1591, 0, 11], []), (97, .ireturn, 1, [1], []), (98, .aload_n 0, 1, [], []), (99, .ldc2_w 253, 3, [1533], [12322792]), (102, .invokevirtual 201, 3, [1, 156, 2, 1507, 0, 11], []), (105, .ifCond .eq 11, 3, [116], []), (108, .aload_n 0, 1, [], []), (109, .iconst 4, 1, [], []), (110, .bipush 99, 2, [], []), (112, .invokevirtual 329, 3, [1, 178, 3, 1595, 0, 11], []), (115, .ireturn, 1, [1], []), (116, .aload_n 0, 1, [], []), (117, .ldc2_w 255, 3, [1534], [10334396]), (120, .invokevirtual 201, 3, [1, 156, 2, 1507, 0, 11], []), (123, .ifCond .eq 11, 3, [134], []), (126, .aload_n 0, 1, [], []), (127, .iconst 5, 1, [], []), (128, .bipush 12, 2, [], []), (130, .invokevirtual 329, 3, [1, 178, 3, 1595, 0, 11], []), (133, .ireturn, 1, [1], []), (134, .aload_n 0, 1, [], []), (135, .ldc2_w 257, 3, [1535], [3913426]), (138, .invokevirtual 201, 3, [1, 156, 2, 1507, 0, 11], []), (141, .ifCond .eq 10, 3, [151], []), (144, .aload_n 0, 1, [], []), (145, .invokevirtual 332, 3, [1, 180, 1, 1599, 0, 11], []), (148, .goto 8, 3, [156], []), (151, .aload_n 0, 1, [], []), (152, .iconst 1, 1, [], []), (153, .invokevirtual 209, 3, [1, 158, 2, 1515, 0, 11], []), (156, .ireturn, 1, [1], [])]
def tb_X13_readsAll : ZT := [(0, .aload_n 0, 1, [], []), (1, .iconst 1, 1, [], []), (2, .invokevirtual 138, 3, [1, 159, 2, 1282, 0, 11], []), (5, .aload_n 0, 1, [], []), (6, .getfield 38, 3, [11, 18, 3, 59, 0, 1308], []), (9, .iconst 1, 1, [], []), (10, .sipush 1000, 3, [], []), (13, .iastore, 1, [], []), (14, .aload_n 0, 1, [], []), (15, .getfield 41, 3, [11, 19, 3, 60, 0, 1309], []), (18, .iconst 1, 1, [], []), (19, .sipush 1000, 3, [], []), (22, .iastore, 1, [], []), (23, .aload_n 0, 1, [], []), (24, .iconst 0, 1, [], []), (25, .putfield 308, 3, [11, 22, 0, 0, 0, 1312], []), (28, .aload_n 0, 1, [], []), (29, .sipush 1000, 3, [], []), (32, .putfield 184, 3, [11, 21, 0, 0, 0, 1311], []), (35, .aload_n 0, 1, [], []), (36, .invokevirtual 335, 3, [1, 181, 1, 1488, 0, 11], []), (39, .aload_n 0, 1, [], []), (40, .getfield 170, 3, [11, 6, 0, 0, 0, 1296], []), (43, .ifCond .eq 12, 3, [55], []), (46, .aload_n 0, 1, [], []), (47, .invokevirtual 338, 3, [1, 182, 1, 1502, 0, 11], []), (50, .ifCond .ne (-11), 3, [39], []), (53, .iconst 0, 1, [], []), (54, .ireturn, 1, [1], []), (55, .iconst 1, 1, [], []), (56, .ireturn, 1, [1], [])]
def tb_X13_shifts : ZT := [(0, .iconst 0, 1, [], []), (1, .istore_n 2, 1, [], []), (2, .iload_n 2, 1, [], []), (3, .iload_n 1, 1, [], []), (4, .if_icmp .ge 17, 3, [21], []), (7, .aload_n 0, 1, [], []), (8, .iload_n 2, 1, [], []), (9, .aload_n 0, 1, [], []), (10, .iload_n 1, 1, [], []), (11, .iload_n 2, 1, [], []), (12, .iadd, 1, [], []), (13, .iaload, 1, [], []), (14, .iastore, 1, [], []), (15, .iinc 2 1, 3, [], []), (18, .goto (-16), 3, [2], []), (21, .return_, 1, [], [])]
def tb_X13_lays : ZT := [(0, .aload_n 0, 1, [], []), (1, .getfield 13, 3, [11, 10, 3, 51, 0, 1300], []), (4, .bipush 9, 2, [], []), (6, .invokestatic 341, 3, [0, 184, 2, 1623, 0], []), (9, .iconst 0, 1, [], []), (10, .istore_n 1, 1, [], []), (11, .iload_n 1, 1, [], []), (12, .bipush 6, 2, [], []), (14, .if_icmp .ge 24, 3, [38], []), (17, .aload_n 0, 1, [], []), (18, .getfield 16, 3, [11, 11, 3, 52, 0, 1301], []), (21, .iload_n 1, 1, [], []), (22, .aload_n 0, 1, [], []), (23, .getfield 16, 3, [11, 11, 3, 52, 0, 1301], []), (26, .bipush 6, 2, [], []), (28, .iload_n 1, 1, [], []), (29, .iadd, 1, [], []), (30, .laload, 1, [], []), (31, .lastore, 1, [], []), (32, .iinc 1 1, 3, [], []), (35, .goto (-24), 3, [11], []), (38, .aload_n 0, 1, [], []), (39, .getfield 20, 3, [11, 12, 3, 53, 0, 1302], []), (42, .bipush 6, 2, [], []), (44, .invokestatic 341, 3, [0, 184, 2, 1623, 0], []), (47, .aload_n 0, 1, [], []), (48, .getfield 23, 3, [11, 13, 3, 54, 0, 1303], []), (51, .bipush 6, 2, [], []), (53, .invokestatic 341, 3, [0, 184, 2, 1623, 0], []), (56, .aload_n 0, 1, [], []), (57, .getfield 26, 3, [11, 14, 3, 55, 0, 1304], []), (60, .bipush 6, 2, [], []), (62, .invokestatic 341, 3, [0, 184, 2, 1623, 0], []), (65, .aload_n 0, 1, [], []), (66, .getfield 29, 3, [11, 15, 3, 56, 0, 1305], []), (69, .bipush 6, 2, [], []), (71, .invokestatic 341, 3, [0, 184, 2, 1623, 0], []), (74, .aload_n 0, 1, [], []), (75, .getfield 32, 3, [11, 16, 3, 57, 0, 1306], []), (78, .bipush 6, 2, [], []), (80, .invokestatic 341, 3, [0, 184, 2, 1623, 0], []), (83, .aload_n 0, 1, [], []), (84, .getfield 35, 3, [11, 17, 3, 58, 0, 1307], []), (87, .bipush 24, 2, [], []), (89, .invokestatic 341, 3, [0, 184, 2, 1623, 0], []), (92, .aload_n 0, 1, [], []), (93, .getfield 44, 3, [11, 20, 3, 61, 0, 1310], []), (96, .sipush 1000, 3, [], []), (99, .invokestatic 341, 3, [0, 184, 2, 1623, 0], []), (102, .aload_n 0, 1, [], []), (103, .getfield 38, 3, [11, 18, 3, 59, 0, 1308], []), (106, .iconst 0, 1, [], []), (107, .aload_n 0, 1, [], []), (108, .getfield 38, 3, [11, 18, 3, 59, 0, 1308], []), (111, .iconst 1, 1, [], []), (112, .iaload, 1, [], []), (113, .sipush 1000, 3, [], []), (116, .isub, 1, [], []), (117, .iastore, 1, [], []), (118, .aload_n 0, 1, [], []), (119, .getfield 41, 3, [11, 19, 3, 60, 0, 1309], []), (122, .iconst 0, 1, [], []), (123, .aload_n 0, 1, [], []), (124, .getfield 41, 3, [11, 19, 3, 60, 0, 1309], []), (127, .iconst 1, 1, [], []), (128, .iaload, 1, [], []), (129, .sipush 1000, 3, [], []), (132, .isub, 1, [], []), (133, .iastore, 1, [], []), (134, .return_, 1, [], [])]
def tb_X13_copies : ZT := [(0, .iconst 0, 1, [], []), (1, .istore 4, 2, [], []), (3, .iload 4, 2, [], []), (5, .bipush 16, 2, [], []), (7, .if_icmp .ge 21, 3, [28], []), (10, .aload_n 2, 1, [], []), (11, .iload_n 3, 1, [], []), (12, .iload 4, 2, [], []), (14, .iadd, 1, [], []), (15, .aload_n 0, 1, [], []), (16, .iload_n 1, 1, [], []), (17, .iload 4, 2, [], []), (19, .iadd, 1, [], []), (20, .iaload, 1, [], []), (21, .iastore, 1, [], []), (22, .iinc 4 1, 3, [], []), (25, .goto (-22), 3, [3], []), (28, .return_, 1, [], [])]
def tb_X13_readsLine : ZT := [(0, .aload_n 0, 1, [], []), (1, .ldc2_w 259, 3, [1536], [409469]), (4, .invokevirtual 201, 3, [1, 156, 2, 1507, 0, 11], []), (7, .ifCond .eq 7, 3, [14], []), (10, .iconst 0, 1, [], []), (11, .goto 60, 3, [71], []), (14, .aload_n 0, 1, [], []), (15, .ldc2_w 261, 3, [1537], [380396]), (18, .invokevirtual 201, 3, [1, 156, 2, 1507, 0, 11], []), (21, .ifCond .eq 7, 3, [28], []), (24, .iconst 1, 1, [], []), (25, .goto 46, 3, [71], []), (28, .aload_n 0, 1, [], []), (29, .ldc2_w 263, 3, [1538], [307058]), (32, .invokevirtual 201, 3, [1, 156, 2, 1507, 0, 11], []), (35, .ifCond .eq 7, 3, [42], []), (38, .iconst 2, 1, [], []), (39, .goto 32, 3, [71], []), (42, .aload_n 0, 1, [], []), (43, .ldc2_w 265, 3, [1539], [259906]), (46, .invokevirtual 201, 3, [1, 156, 2, 1507, 0, 11], []), (49, .ifCond .eq 7, 3, [56], []), (52, .iconst 3, 1, [], []), (53, .goto 18, 3, [71], []), (56, .aload_n 0, 1, [], []), (57, .ldc2_w 267, 3, [1540], [388708]), (60, .invokevirtual 201, 3, [1, 156, 2, 1507, 0, 11], []), (63, .ifCond .eq 7, 3, [70], []), (66, .iconst 4, 1, [], []), (67, .goto 4, 3, [71], []), (70, .iconst (-1), 1, [], []), (71, .istore_n 1, 1, [], []), (72, .iload_n 1, 1, [], []), (73, .ifCond .ge 9, 3, [82], []), (76, .aload_n 0, 1, [], []), (77, .iconst 1, 1, [], []), (78, .invokevirtual 209, 3, [1, 158, 2, 1515, 0, 11], []), (81, .ireturn, 1, [1], []), (82, .aload_n 0, 1, [], []), (83, .getfield 84, 3, [11, 36, 3, 74, 0, 1326], []), (86, .iconst 5, 1, [], []), (87, .iaload, 1, [], []), (88, .bipush 40, 2, [], []), (90, .if_icmp .ne 9, 3, [99], []), (93, .aload_n 0, 1, [], []), (94, .iconst 5, 1, [], []), (95, .invokevirtual 209, 3, [1, 158, 2, 1515, 0, 11], []), (98, .ireturn, 1, [1], []), (99, .aload_n 0, 1, [], []), (100, .invokevirtual 215, 3, [1, 155, 1, 1492, 0, 11], []), (103, .sipush 200, 3, [], []), (106, .aload_n 0, 1, [], []), (107, .getfield 84, 3, [11, 36, 3, 74, 0, 1326], []), (110, .iconst 5, 1, [], []), (111, .iaload, 1, [], []), (112, .iadd, 1, [], []), (113, .istore_n 2, 1, [], []), (114, .aload_n 0, 1, [], []), (115, .getfield 87, 3, [11, 37, 3, 75, 0, 1327], []), (118, .iload_n 2, 1, [], []), (119, .iload_n 1, 1, [], []), (120, .iastore, 1, [], []), (121, .iload_n 1, 1, [], []), (122, .iconst 4, 1, [], []), (123, .if_icmp .eq 27, 3, [150], []), (126, .aload_n 0, 1, [], []), (127, .iconst 0, 1, [], []), (128, .invokevirtual 305, 3, [1, 172, 2, 1579, 0, 11], []), (131, .ifCond .ne 5, 3, [136], []), (134, .iconst 0, 1, [], []), (135, .ireturn, 1, [1], []), (136, .aload_n 0, 1, [], []), (137, .getfield 90, 3, [11, 38, 3, 76, 0, 1328], []), (140, .iload_n 2, 1, [], []), (141, .aload_n 0, 1, [], []), (142, .getfield 281, 3, [11, 35, 0, 0, 0, 1325], []), (145, .iastore, 1, [], []), (146, .aload_n 0, 1, [], []), (147, .invokevirtual 215, 3, [1, 155, 1, 1492, 0, 11], []), (150, .iload_n 1, 1, [], []), (151, .ifCond .ne 24, 3, [175], []), (154, .aload_n 0, 1, [], []), (155, .iconst 0, 1, [], []), (156, .iconst 4, 1, [], []), (157, .invokevirtual 284, 3, [1, 169, 3, 1556, 0, 11], []), (160, .ifCond .ne 5, 3, [165], []), (163, .iconst 0, 1, [], []), (164, .ireturn, 1, [1], []), (165, .aload_n 0, 1, [], []), (166, .getfield 93, 3, [11, 39, 3, 77, 0, 1329], []), (169, .iload_n 2, 1, [], []), (170, .aload_n 0, 1, [], []), (171, .getfield 281, 3, [11, 35, 0, 0, 0, 1325], []), (174, .iastore, 1, [], []), (175, .aload_n 0, 1, [], []), (176, .getfield 84, 3, [11, 36, 3, 74, 0, 1326], []), (179, .iconst 5, 1, [], []), (180, .dup2, 1, [], []), (181, .iaload, 1, [], []), (182, .iconst 1, 1, [], []), (183, .iadd, 1, [], []), (184, .iastore, 1, [], []), (185, .aload_n 0, 1, [], []), (186, .invokevirtual 302, 3, [1, 171, 1, 1567, 0, 11], []), (189, .ireturn, 1, [1], [])]
def tb_X13_laysLines : ZT := [(0, .aload_n 0, 1, [], []), (1, .getfield 84, 3, [11, 36, 3, 74, 0, 1326], []), (4, .iload_n 2, 1, [], []), (5, .aload_n 0, 1, [], []), (6, .getfield 84, 3, [11, 36, 3, 74, 0, 1326], []), (9, .iload_n 1, 1, [], []), (10, .iaload, 1, [], []), (11, .iastore, 1, [], []), (12, .iconst 0, 1, [], []), (13, .istore_n 3, 1, [], []), (14, .iload_n 3, 1, [], []), (15, .bipush 40, 2, [], []), (17, .if_icmp .ge 75, 3, [92], []), (20, .aload_n 0, 1, [], []), (21, .getfield 87, 3, [11, 37, 3, 75, 0, 1327], []), (24, .bipush 40, 2, [], []), (26, .iload_n 2, 1, [], []), (27, .imul, 1, [], []), (28, .iload_n 3, 1, [], []), (29, .iadd, 1, [], []), (30, .aload_n 0, 1, [], []), (31, .getfield 87, 3, [11, 37, 3, 75, 0, 1327], []), (34, .bipush 40, 2, [], []), (36, .iload_n 1, 1, [], []), (37, .imul, 1, [], []), (38, .iload_n 3, 1, [], []), (39, .iadd, 1, [], []), (40, .iaload, 1, [], []), (41, .iastore, 1, [], []), (42, .aload_n 0, 1, [], []), (43, .getfield 90, 3, [11, 38, 3, 76, 0, 1328], []), (46, .bipush 40, 2, [], []), (48, .iload_n 2, 1, [], []), (49, .imul, 1, [], []), (50, .iload_n 3, 1, [], []), (51, .iadd, 1, [], []), (52, .aload_n 0, 1, [], []), (53, .getfield 90, 3, [11, 38, 3, 76, 0, 1328], []), (56, .bipush 40, 2, [], []), (58, .iload_n 1, 1, [], []), (59, .imul, 1, [], []), (60, .iload_n 3, 1, [], []), (61, .iadd, 1, [], []), (62, .iaload, 1, [], []), (63, .iastore, 1, [], []), (64, .aload_n 0, 1, [], []), (65, .getfield 93, 3, [11, 39, 3, 77, 0, 1329], []), (68, .bipush 40, 2, [], []), (70, .iload_n 2, 1, [], []), (71, .imul, 1, [], []), (72, .iload_n 3, 1, [], []), (73, .iadd, 1, [], []), (74, .aload_n 0, 1, [], []), (75, .getfield 93, 3, [11, 39, 3, 77, 0, 1329], []), (78, .bipush 40, 2, [], []), (80, .iload_n 1, 1, [], []), (81, .imul, 1, [], []), (82, .iload_n 3, 1, [], []), (83, .iadd, 1, [], []), (84, .iaload, 1, [], []), (85, .iastore, 1, [], []), (86, .iinc 3 1, 3, [], []), (89, .goto (-75), 3, [14], []), (92, .return_, 1, [], [])]
def tb_X13_laysSeen : ZT := [(0, .aload_n 0, 1, [], []), (1, .getfield 96, 3, [11, 40, 3, 78, 0, 1330], []), (4, .iload_n 2, 1, [], []), (5, .aload_n 0, 1, [], []), (6, .getfield 96, 3, [11, 40, 3, 78, 0, 1330], []), (9, .iload_n 1, 1, [], []), (10, .iaload, 1, [], []), (11, .iastore, 1, [], []), (12, .iconst 0, 1, [], []), (13, .istore_n 3, 1, [], []), (14, .iload_n 3, 1, [], []), (15, .bipush 8, 2, [], []), (17, .if_icmp .ge 53, 3, [70], []), (20, .aload_n 0, 1, [], []), (21, .getfield 99, 3, [11, 41, 3, 79, 0, 1331], []), (24, .bipush 8, 2, [], []), (26, .iload_n 2, 1, [], []), (27, .imul, 1, [], []), (28, .iload_n 3, 1, [], []), (29, .iadd, 1, [], []), (30, .aload_n 0, 1, [], []), (31, .getfield 99, 3, [11, 41, 3, 79, 0, 1331], []), (34, .bipush 8, 2, [], []), (36, .iload_n 1, 1, [], []), (37, .imul, 1, [], []), (38, .iload_n 3, 1, [], []), (39, .iadd, 1, [], []), (40, .iaload, 1, [], []), (41, .iastore, 1, [], []), (42, .aload_n 0, 1, [], []), (43, .getfield 102, 3, [11, 42, 3, 80, 0, 1332], []), (46, .bipush 8, 2, [], []), (48, .iload_n 2, 1, [], []), (49, .imul, 1, [], []), (50, .iload_n 3, 1, [], []), (51, .iadd, 1, [], []), (52, .aload_n 0, 1, [], []), (53, .getfield 102, 3, [11, 42, 3, 80, 0, 1332], []), (56, .bipush 8, 2, [], []), (58, .iload_n 1, 1, [], []), (59, .imul, 1, [], []), (60, .iload_n 3, 1, [], []), (61, .iadd, 1, [], []), (62, .iaload, 1, [], []), (63, .iastore, 1, [], []), (64, .iinc 3 1, 3, [], []), (67, .goto (-53), 3, [14], []), (70, .return_, 1, [], [])]
def tb_X13_fresh0 : ZT := [(0, .iconst 0, 1, [], []), (1, .istore_n 1, 1, [], []), (2, .iload_n 1, 1, [], []), (3, .bipush 16, 2, [], []), (5, .if_icmp .ge 31, 3, [36], []), (8, .aload_n 0, 1, [], []), (9, .getfield 105, 3, [11, 43, 3, 81, 0, 1333], []), (12, .iload_n 1, 1, [], []), (13, .iload_n 1, 1, [], []), (14, .iconst 4, 1, [], []), (15, .if_icmp .lt 13, 3, [28], []), (18, .iload_n 1, 1, [], []), (19, .bipush 10, 2, [], []), (21, .if_icmp .ge 7, 3, [28], []), (24, .iconst 2, 1, [], []), (25, .goto 4, 3, [29], []), (28, .iconst 0, 1, [], []), (29, .iastore, 1, [], []), (30, .iinc 1 1, 3, [], []), (33, .goto (-31), 3, [2], []), (36, .return_, 1, [], [])]
def tb_X13_park : ZT := [(0, .aload_n 0, 1, [], []), (1, .iconst 0, 1, [], []), (2, .putfield 145, 3, [11, 0, 0, 0, 0, 1290], []), (5, .aload_n 0, 1, [], []), (6, .invokevirtual 345, 3, [1, 183, 1, 1484, 0, 11], []), (9, .ifCond .ne 8, 3, [17], []), (12, .aload_n 0, 1, [], []), (13, .getfield 181, 3, [11, 9, 0, 0, 0, 1299], []), (16, .ireturn, 1, [], []), (17, .aload_n 0, 1, [], []), (18, .invokevirtual 348, 3, [1, 185, 1, 1619, 0, 11], []), (21, .aload_n 0, 1, [], []), (22, .invokevirtual 142, 3, [1, 190, 1, 1286, 0, 11], []), (25, .aload_n 0, 1, [], []), (26, .getfield 84, 3, [11, 36, 3, 74, 0, 1326], []), (29, .iconst 0, 1, [], []), (30, .iconst 0, 1, [], []), (31, .iastore, 1, [], []), (32, .aload_n 0, 1, [], []), (33, .getfield 96, 3, [11, 40, 3, 78, 0, 1330], []), (36, .iconst 0, 1, [], []), (37, .iconst 0, 1, [], []), (38, .iastore, 1, [], []), (39, .aload_n 0, 1, [], []), (40, .iconst 0, 1, [], []), (41, .putfield 351, 3, [11, 49, 0, 0, 0, 1339], []), (44, .iconst 0, 1, [], []), (45, .istore_n 1, 1, [], []), (46, .iload_n 1, 1, [], []), (47, .iconst 4, 1, [], []), (48, .if_icmp .ge 16, 3, [64], []), (51, .aload_n 0, 1, [], []), (52, .getfield 120, 3, [11, 48, 3, 86, 0, 1338], []), (55, .iload_n 1, 1, [], []), (56, .iconst 0, 1, [], []), (57, .bastore, 1, [], []), (58, .iinc 1 1, 3, [], []), (61, .goto (-15), 3, [46], []), (64, .iconst 0, 1, [], []), (65, .ireturn, 1, [], [])]
def tb_X13_day : ZT := [(0, .aload_n 0, 1, [], []), (1, .iconst 0, 1, [], []), (2, .putfield 145, 3, [11, 0, 0, 0, 0, 1290], []), (5, .aload_n 0, 1, [], []), (6, .getfield 84, 3, [11, 36, 3, 74, 0, 1326], []), (9, .iconst 5, 1, [], []), (10, .iconst 0, 1, [], []), (11, .iastore, 1, [], []), (12, .aload_n 0, 1, [], []), (13, .invokevirtual 335, 3, [1, 181, 1, 1488, 0, 11], []), (16, .aload_n 0, 1, [], []), (17, .getfield 170, 3, [11, 6, 0, 0, 0, 1296], []), (20, .ifCond .eq 15, 3, [35], []), (23, .aload_n 0, 1, [], []), (24, .invokevirtual 354, 3, [1, 187, 1, 1630, 0, 11], []), (27, .ifCond .ne (-11), 3, [16], []), (30, .aload_n 0, 1, [], []), (31, .getfield 181, 3, [11, 9, 0, 0, 0, 1299], []), (34, .ireturn, 1, [], []), (35, .aload_n 0, 1, [], []), (36, .iconst 5, 1, [], []), (37, .iconst 0, 1, [], []), (38, .invokevirtual 357, 3, [1, 188, 3, 1634, 0, 11], []), (41, .iconst 0, 1, [], []), (42, .ireturn, 1, [], [])]
def tb_X13_isTurbine : ZT := [(0, .iload_n 1, 1, [], []), (1, .ifCond .lt 17, 3, [18], []), (4, .iload_n 1, 1, [], []), (5, .aload_n 0, 1, [], []), (6, .getfield 13, 3, [11, 10, 3, 51, 0, 1300], []), (9, .iconst 0, 1, [], []), (10, .iaload, 1, [], []), (11, .if_icmp .ge 7, 3, [18], []), (14, .iconst 1, 1, [], []), (15, .goto 4, 3, [19], []), (18, .iconst 0, 1, [], []), (19, .ireturn, 1, [1], [])]
def tb_X13_rowOf : ZT := [(0, .aload_n 0, 1, [], []), (1, .getfield 13, 3, [11, 10, 3, 51, 0, 1300], []), (4, .iload_n 1, 1, [], []), (5, .iaload, 1, [], []), (6, .ifCond .ne 7, 3, [13], []), (9, .iload_n 2, 1, [], []), (10, .goto 28, 3, [38], []), (13, .aload_n 0, 1, [], []), (14, .getfield 35, 3, [11, 17, 3, 58, 0, 1307], []), (17, .bipush 8, 2, [], []), (19, .iload_n 1, 1, [], []), (20, .iconst 1, 1, [], []), (21, .isub, 1, [], []), (22, .imul, 1, [], []), (23, .aload_n 0, 1, [], []), (24, .getfield 105, 3, [11, 43, 3, 81, 0, 1333], []), (27, .iconst 0, 1, [], []), (28, .iaload, 1, [], []), (29, .aload_n 0, 1, [], []), (30, .getfield 13, 3, [11, 10, 3, 51, 0, 1300], []), (33, .iload_n 1, 1, [], []), (34, .iaload, 1, [], []), (35, .irem, 1, [], []), (36, .iadd, 1, [], []), (37, .iaload, 1, [], []), (38, .ireturn, 1, [], [])]
def tb_X13_priceNow : ZT := [(0, .aload_n 0, 1, [], []), (1, .iconst 3, 1, [], []), (2, .bipush 10, 2, [], []), (4, .invokevirtual 361, 3, [1, 194, 3, 1662, 0, 11], []), (7, .bipush 10, 2, [], []), (9, .isub, 1, [], []), (10, .ireturn, 1, [], [])]
def tb_X13_isShut : ZT := [(0, .aload_n 0, 1, [], []), (1, .getfield 105, 3, [11, 43, 3, 81, 0, 1333], []), (4, .iconst 2, 1, [], []), (5, .iaload, 1, [], []), (6, .iload_n 1, 1, [], []), (7, .ishr, 1, [], []), (8, .iconst 1, 1, [], []), (9, .iand, 1, [], []), (10, .iconst 1, 1, [], []), (11, .if_icmp .ne 7, 3, [18], []), (14, .iconst 1, 1, [], []), (15, .goto 4, 3, [19], []), (18, .iconst 0, 1, [], []), (19, .ireturn, 1, [1], [])]
def tb_X13_isBroken : ZT := [(0, .aload_n 0, 1, [], []), (1, .getfield 105, 3, [11, 43, 3, 81, 0, 1333], []), (4, .iconst 3, 1, [], []), (5, .iaload, 1, [], []), (6, .iload_n 1, 1, [], []), (7, .ishr, 1, [], []), (8, .iconst 1, 1, [], []), (9, .iand, 1, [], []), (10, .iconst 1, 1, [], []), (11, .if_icmp .ne 7, 3, [18], []), (14, .iconst 1, 1, [], []), (15, .goto 4, 3, [19], []), (18, .iconst 0, 1, [], []), (19, .ireturn, 1, [1], [])]
def tb_X13_runs : ZT := [(0, .aload_n 0, 1, [], []), (1, .iload_n 1, 1, [], []), (2, .invokevirtual 365, 3, [1, 196, 2, 1646, 0, 11], []), (5, .ifCond .ne 15, 3, [20], []), (8, .aload_n 0, 1, [], []), (9, .iload_n 1, 1, [], []), (10, .invokevirtual 368, 3, [1, 197, 2, 1650, 0, 11], []), (13, .ifCond .ne 7, 3, [20], []), (16, .iconst 1, 1, [], []), (17, .goto 4, 3, [21], []), (20, .iconst 0, 1, [], []), (21, .ireturn, 1, [1], [])]
def tb_X13_turnedOf : ZT := [(0, .aload_n 0, 1, [], []), (1, .getfield 105, 3, [11, 43, 3, 81, 0, 1333], []), (4, .iconst 4, 1, [], []), (5, .iload_n 1, 1, [], []), (6, .iadd, 1, [], []), (7, .iaload, 1, [], []), (8, .iconst 2, 1, [], []), (9, .isub, 1, [], []), (10, .invokestatic 371, 3, [8, 0, 2, 1690], []), (13, .ireturn, 1, [], [])]
def tb_X13_looks : ZT := [(0, .aload_n 0, 1, [], []), (1, .aload_n 0, 1, [], []), (2, .iconst 1, 1, [], []), (3, .bipush 10, 2, [], []), (5, .invokevirtual 361, 3, [1, 194, 3, 1662, 0, 11], []), (8, .putfield 376, 3, [11, 50, 0, 0, 0, 1340], []), (11, .aload_n 0, 1, [], []), (12, .aload_n 0, 1, [], []), (13, .iconst 2, 1, [], []), (14, .iconst 0, 1, [], []), (15, .invokevirtual 361, 3, [1, 194, 3, 1662, 0, 11], []), (18, .putfield 379, 3, [11, 51, 0, 0, 0, 1341], []), (21, .return_, 1, [], [])]
def tb_X13_behind : ZT := [(0, .aload_n 0, 1, [], []), (1, .iload_n 1, 1, [], []), (2, .invokevirtual 382, 3, [1, 199, 2, 1686, 0, 11], []), (5, .istore_n 3, 1, [], []), (6, .iload_n 3, 1, [], []), (7, .iconst 2, 1, [], []), (8, .if_icmp .eq 13, 3, [21], []), (11, .iload_n 3, 1, [], []), (12, .iconst 1, 1, [], []), (13, .if_icmp .ne 28, 3, [41], []), (16, .iload_n 2, 1, [], []), (17, .iconst 1, 1, [], []), (18, .if_icmp .le 23, 3, [41], []), (21, .aload_n 0, 1, [], []), (22, .getfield 105, 3, [11, 43, 3, 81, 0, 1333], []), (25, .iconst 4, 1, [], []), (26, .iload_n 1, 1, [], []), (27, .iadd, 1, [], []), (28, .iaload, 1, [], []), (29, .iconst 2, 1, [], []), (30, .if_icmp .ge 7, 3, [37], []), (33, .iconst (-1), 1, [], []), (34, .goto 8, 3, [42], []), (37, .iconst 1, 1, [], []), (38, .goto 4, 3, [42], []), (41, .iconst 0, 1, [], []), (42, .istore 4, 2, [], []), (44, .aload_n 0, 1, [], []), (45, .getfield 379, 3, [11, 51, 0, 0, 0, 1341], []), (48, .ifCond .eq 11, 3, [59], []), (51, .aload_n 0, 1, [], []), (52, .getfield 379, 3, [11, 51, 0, 0, 0, 1341], []), (55, .iconst 3, 1, [], []), (56, .if_icmp .ne 7, 3, [63], []), (59, .iload_n 2, 1, [], []), (60, .goto 5, 3, [65], []), (63, .iload_n 2, 1, [], []), (64, .ineg, 1, [], []), (65, .istore 5, 2, [], []), (67, .aload_n 0, 1, [], []), (68, .getfield 26, 3, [11, 14, 3, 55, 0, 1304], []), (71, .iload_n 1, 1, [], []), (72, .iaload, 1, [], []), (73, .bipush 6, 2, [], []), (75, .irem, 1, [], []), (76, .aload_n 0, 1, [], []), (77, .getfield 379, 3, [11, 51, 0, 0, 0, 1341], []), (80, .iconst 2, 1, [], []), (81, .irem, 1, [], []), (82, .ifCond .ne 8, 3, [90], []), (85, .iload 4, 2, [], []), (87, .goto 5, 3, [92], []), (90, .iload 5, 2, [], []), (92, .iadd, 1, [], []), (93, .istore 6, 2, [], []), (95, .aload_n 0, 1, [], []), (96, .getfield 26, 3, [11, 14, 3, 55, 0, 1304], []), (99, .iload_n 1, 1, [], []), (100, .iaload, 1, [], []), (101, .bipush 6, 2, [], []), (103, .idiv, 1, [], []), (104, .aload_n 0, 1, [], []), (105, .getfield 379, 3, [11, 51, 0, 0, 0, 1341], []), (108, .iconst 2, 1, [], []), (109, .irem, 1, [], []), (110, .ifCond .ne 8, 3, [118], []), (113, .iload 5, 2, [], []), (115, .goto 5, 3, [120], []), (118, .iload 4, 2, [], []), (120, .iadd, 1, [], []), (121, .istore 7, 2, [], []), (123, .iload 6, 2, [], []), (125, .iconst 0, 1, [], []), (126, .iconst 5, 1, [], []), (127, .invokestatic 277, 3, [0, 151, 3, 1560, 0], []), (130, .ifCond .eq 24, 3, [154], []), (133, .iload 7, 2, [], []), (135, .iconst 0, 1, [], []), (136, .iconst 5, 1, [], []), (137, .invokestatic 277, 3, [0, 151, 3, 1560, 0], []), (140, .ifCond .eq 14, 3, [154], []), (143, .bipush 6, 2, [], []), (145, .iload 7, 2, [], []), (147, .imul, 1, [], []), (148, .iload 6, 2, [], []), (150, .iadd, 1, [], []), (151, .goto 4, 3, [155], []), (154, .iconst (-1), 1, [], []), (155, .ireturn, 1, [], [])]
def tb_X13_takesOf : ZT := [(0, .iload_n 1, 1, [], []), (1, .iload_n 2, 1, [], []), (2, .if_icmp .eq 11, 3, [13], []), (5, .aload_n 0, 1, [], []), (6, .iload_n 1, 1, [], []), (7, .invokevirtual 385, 3, [1, 198, 2, 1678, 0, 11], []), (10, .ifCond .ne 5, 3, [15], []), (13, .iconst 0, 1, [], []), (14, .ireturn, 1, [], []), (15, .iconst 1, 1, [], []), (16, .istore_n 3, 1, [], []), (17, .iload_n 3, 1, [], []), (18, .iconst 4, 1, [], []), (19, .if_icmp .ge 56, 3, [75], []), (22, .aload_n 0, 1, [], []), (23, .iload_n 1, 1, [], []), (24, .iload_n 3, 1, [], []), (25, .invokevirtual 388, 3, [1, 201, 3, 1682, 0, 11], []), (28, .aload_n 0, 1, [], []), (29, .getfield 26, 3, [11, 14, 3, 55, 0, 1304], []), (32, .iload_n 2, 1, [], []), (33, .iaload, 1, [], []), (34, .if_icmp .ne 35, 3, [69], []), (37, .iconst 0, 1, [], []), (38, .aload_n 0, 1, [], []), (39, .getfield 13, 3, [11, 10, 3, 51, 0, 1300], []), (42, .bipush 6, 2, [], []), (44, .iload_n 3, 1, [], []), (45, .iadd, 1, [], []), (46, .iconst 1, 1, [], []), (47, .isub, 1, [], []), (48, .iaload, 1, [], []), (49, .aload_n 0, 1, [], []), (50, .getfield 20, 3, [11, 12, 3, 53, 0, 1302], []), (53, .iload_n 1, 1, [], []), (54, .iaload, 1, [], []), (55, .iconst 3, 1, [], []), (56, .if_icmp .ne 7, 3, [63], []), (59, .iconst 1, 1, [], []), (60, .goto 4, 3, [64], []), (63, .iconst 0, 1, [], []), (64, .isub, 1, [], []), (65, .invokestatic 391, 3, [6, 0, 2, 1691], []), (68, .ireturn, 1, [], []), (69, .iinc 3 1, 3, [], []), (72, .goto (-55), 3, [17], []), (75, .iconst 0, 1, [], []), (76, .ireturn, 1, [], [])]
def tb_X13_takenOf : ZT := [(0, .iconst 0, 1, [], []), (1, .istore_n 2, 1, [], []), (2, .iconst 0, 1, [], []), (3, .istore_n 3, 1, [], []), (4, .iload_n 3, 1, [], []), (5, .aload_n 0, 1, [], []), (6, .getfield 13, 3, [11, 10, 3, 51, 0, 1300], []), (9, .iconst 0, 1, [], []), (10, .iaload, 1, [], []), (11, .if_icmp .ge 18, 3, [29], []), (14, .iload_n 2, 1, [], []), (15, .aload_n 0, 1, [], []), (16, .iload_n 3, 1, [], []), (17, .iload_n 1, 1, [], []), (18, .invokevirtual 394, 3, [1, 202, 3, 1674, 0, 11], []), (21, .iadd, 1, [], []), (22, .istore_n 2, 1, [], []), (23, .iinc 3 1, 3, [], []), (26, .goto (-22), 3, [4], []), (29, .bipush 9, 2, [], []), (31, .iload_n 2, 1, [], []), (32, .invokestatic 397, 3, [7, 0, 2, 1692], []), (35, .istore_n 2, 1, [], []), (36, .aload_n 0, 1, [], []), (37, .getfield 20, 3, [11, 12, 3, 53, 0, 1302], []), (40, .iload_n 1, 1, [], []), (41, .iaload, 1, [], []), (42, .iconst 1, 1, [], []), (43, .if_icmp .ne 13, 3, [56], []), (46, .iconst 0, 1, [], []), (47, .iload_n 2, 1, [], []), (48, .iconst 1, 1, [], []), (49, .isub, 1, [], []), (50, .invokestatic 391, 3, [6, 0, 2, 1691], []), (53, .goto 4, 3, [57], []), (56, .iload_n 2, 1, [], []), (57, .ireturn, 1, [], [])]
def tb_X13_windOf : ZT := [(0, .aload_n 0, 1, [], []), (1, .getfield 376, 3, [11, 50, 0, 0, 0, 1340], []), (4, .bipush 10, 2, [], []), (6, .aload_n 0, 1, [], []), (7, .iload_n 1, 1, [], []), (8, .invokevirtual 400, 3, [1, 203, 2, 1670, 0, 11], []), (11, .isub, 1, [], []), (12, .imul, 1, [], []), (13, .bipush 10, 2, [], []), (15, .idiv, 1, [], []), (16, .ireturn, 1, [], [])]
def tb_X13_powerOf : ZT := [(0, .aload_n 0, 1, [], []), (1, .iload_n 1, 1, [], []), (2, .invokevirtual 385, 3, [1, 198, 2, 1678, 0, 11], []), (5, .ifCond .ne 5, 3, [10], []), (8, .iconst 0, 1, [], []), (9, .ireturn, 1, [], []), (10, .aload_n 0, 1, [], []), (11, .iload_n 1, 1, [], []), (12, .invokevirtual 403, 3, [1, 204, 2, 1666, 0, 11], []), (15, .istore_n 2, 1, [], []), (16, .aload_n 0, 1, [], []), (17, .getfield 41, 3, [11, 19, 3, 60, 0, 1309], []), (20, .iconst 0, 1, [], []), (21, .iaload, 1, [], []), (22, .aload_n 0, 1, [], []), (23, .getfield 38, 3, [11, 18, 3, 59, 0, 1308], []), (26, .iconst 0, 1, [], []), (27, .iaload, 1, [], []), (28, .if_icmp .le 66, 3, [94], []), (31, .aload_n 0, 1, [], []), (32, .getfield 81, 3, [11, 34, 3, 73, 0, 1324], []), (35, .iconst 1, 1, [], []), (36, .iload_n 2, 1, [], []), (37, .iastore, 1, [], []), (38, .aload_n 0, 1, [], []), (39, .getfield 81, 3, [11, 34, 3, 73, 0, 1324], []), (42, .iconst 2, 1, [], []), (43, .aload_n 0, 1, [], []), (44, .getfield 105, 3, [11, 43, 3, 81, 0, 1333], []), (47, .bipush 10, 2, [], []), (49, .iload_n 1, 1, [], []), (50, .iadd, 1, [], []), (51, .iaload, 1, [], []), (52, .iastore, 1, [], []), (53, .aload_n 0, 1, [], []), (54, .getfield 81, 3, [11, 34, 3, 73, 0, 1324], []), (57, .iconst 3, 1, [], []), (58, .aload_n 0, 1, [], []), (59, .iload_n 1, 1, [], []), (60, .invokevirtual 382, 3, [1, 199, 2, 1686, 0, 11], []), (63, .iastore, 1, [], []), (64, .aload_n 0, 1, [], []), (65, .getfield 81, 3, [11, 34, 3, 73, 0, 1324], []), (68, .iconst 4, 1, [], []), (69, .aload_n 0, 1, [], []), (70, .getfield 105, 3, [11, 43, 3, 81, 0, 1333], []), (73, .iconst 0, 1, [], []), (74, .iaload, 1, [], []), (75, .bipush 12, 2, [], []), (77, .irem, 1, [], []), (78, .iconst 5, 1, [], []), (79, .if_icmp .le 7, 3, [86], []), (82, .iconst 1, 1, [], []), (83, .goto 4, 3, [87], []), (86, .iconst 0, 1, [], []), (87, .iastore, 1, [], []), (88, .aload_n 0, 1, [], []), (89, .iconst 0, 1, [], []), (90, .invokevirtual 406, 3, [1, 166, 2, 1701, 0, 11], []), (93, .istore_n 2, 1, [], []), (94, .iload_n 2, 1, [], []), (95, .iconst 0, 1, [], []), (96, .bipush 99, 2, [], []), (98, .invokestatic 409, 3, [0, 152, 3, 1717, 0], []), (101, .istore_n 2, 1, [], []), (102, .aload_n 0, 1, [], []), (103, .iload_n 1, 1, [], []), (104, .invokevirtual 382, 3, [1, 199, 2, 1686, 0, 11], []), (107, .ifCond .ne 7, 3, [114], []), (110, .iload_n 2, 1, [], []), (111, .goto 24, 3, [135], []), (114, .iload_n 2, 1, [], []), (115, .aload_n 0, 1, [], []), (116, .iload_n 1, 1, [], []), (117, .invokevirtual 382, 3, [1, 199, 2, 1686, 0, 11], []), (120, .iconst 1, 1, [], []), (121, .if_icmp .ne 8, 3, [129], []), (124, .bipush 9, 2, [], []), (126, .goto 5, 3, [131], []), (129, .bipush 6, 2, [], []), (131, .imul, 1, [], []), (132, .bipush 10, 2, [], []), (134, .idiv, 1, [], []), (135, .ireturn, 1, [], [])]
def tb_X13_hopsOf : ZT := [(0, .iconst 0, 1, [], []), (1, .istore_n 2, 1, [], []), (2, .iload_n 1, 1, [], []), (3, .istore_n 3, 1, [], []), (4, .iload_n 3, 1, [], []), (5, .bipush 6, 2, [], []), (7, .if_icmp .eq 25, 3, [32], []), (10, .aload_n 0, 1, [], []), (11, .getfield 29, 3, [11, 15, 3, 56, 0, 1305], []), (14, .iload_n 3, 1, [], []), (15, .iaload, 1, [], []), (16, .ifCond .lt 16, 3, [32], []), (19, .iinc 2 1, 3, [], []), (22, .aload_n 0, 1, [], []), (23, .getfield 29, 3, [11, 15, 3, 56, 0, 1305], []), (26, .iload_n 3, 1, [], []), (27, .iaload, 1, [], []), (28, .istore_n 3, 1, [], []), (29, .goto (-25), 3, [4], []), (32, .iload_n 2, 1, [], []), (33, .ireturn, 1, [], [])]
def tb_X13_homeBy : ZT := [(0, .iconst 0, 1, [], []), (1, .istore_n 2, 1, [], []), (2, .iconst 0, 1, [], []), (3, .istore_n 3, 1, [], []), (4, .iload_n 3, 1, [], []), (5, .aload_n 0, 1, [], []), (6, .getfield 13, 3, [11, 10, 3, 51, 0, 1300], []), (9, .iconst 0, 1, [], []), (10, .iaload, 1, [], []), (11, .if_icmp .ge 21, 3, [32], []), (14, .aload_n 0, 1, [], []), (15, .getfield 126, 3, [11, 53, 3, 88, 0, 1343], []), (18, .iload_n 3, 1, [], []), (19, .aload_n 0, 1, [], []), (20, .getfield 123, 3, [11, 52, 3, 87, 0, 1342], []), (23, .iload_n 3, 1, [], []), (24, .iaload, 1, [], []), (25, .iastore, 1, [], []), (26, .iinc 3 1, 3, [], []), (29, .goto (-25), 3, [4], []), (32, .bipush 6, 2, [], []), (34, .istore_n 3, 1, [], []), (35, .iload_n 3, 1, [], []), (36, .ifCond .le 123, 3, [159], []), (39, .iconst 0, 1, [], []), (40, .istore 4, 2, [], []), (42, .iload 4, 2, [], []), (44, .aload_n 0, 1, [], []), (45, .getfield 13, 3, [11, 10, 3, 51, 0, 1300], []), (48, .iconst 0, 1, [], []), (49, .iaload, 1, [], []), (50, .if_icmp .ge 103, 3, [153], []), (53, .aload_n 0, 1, [], []), (54, .iload 4, 2, [], []), (56, .invokevirtual 413, 3, [1, 206, 2, 1736, 0, 11], []), (59, .iload_n 3, 1, [], []), (60, .if_icmp .eq 6, 3, [66], []), (63, .goto 84, 3, [147], []), (66, .aload_n 0, 1, [], []), (67, .getfield 126, 3, [11, 53, 3, 88, 0, 1343], []), (70, .iload 4, 2, [], []), (72, .iload 4, 2, [], []), (74, .iload_n 1, 1, [], []), (75, .if_icmp .ne 7, 3, [82], []), (78, .iconst 0, 1, [], []), (79, .goto 20, 3, [99], []), (82, .aload_n 0, 1, [], []), (83, .getfield 32, 3, [11, 16, 3, 57, 0, 1306], []), (86, .iload 4, 2, [], []), (88, .iaload, 1, [], []), (89, .aload_n 0, 1, [], []), (90, .getfield 126, 3, [11, 53, 3, 88, 0, 1343], []), (93, .iload 4, 2, [], []), (95, .iaload, 1, [], []), (96, .invokestatic 397, 3, [7, 0, 2, 1692], []), (99, .iastore, 1, [], []), (100, .aload_n 0, 1, [], []), (101, .getfield 29, 3, [11, 15, 3, 56, 0, 1305], []), (104, .iload 4, 2, [], []), (106, .iaload, 1, [], []), (107, .bipush 6, 2, [], []), (109, .if_icmp .ne 16, 3, [125], []), (112, .iload_n 2, 1, [], []), (113, .aload_n 0, 1, [], []), (114, .getfield 126, 3, [11, 53, 3, 88, 0, 1343], []), (117, .iload 4, 2, [], []), (119, .iaload, 1, [], []), (120, .iadd, 1, [], []), (121, .istore_n 2, 1, [], []), (122, .goto 25, 3, [147], []), (125, .aload_n 0, 1, [], []), (126, .getfield 126, 3, [11, 53, 3, 88, 0, 1343], []), (129, .aload_n 0, 1, [], []), (130, .getfield 29, 3, [11, 15, 3, 56, 0, 1305], []), (133, .iload 4, 2, [], []), (135, .iaload, 1, [], []), (136, .dup2, 1, [], []), (137, .iaload, 1, [], []), (138, .aload_n 0, 1, [], []), (139, .getfield 126, 3, [11, 53, 3, 88, 0, 1343], []), (142, .iload 4, 2, [], []), (144, .iaload, 1, [], []), (145, .iadd, 1, [], []), (146, .iastore, 1, [], []), (147, .iinc 4 1, 3, [], []), (150, .goto (-108), 3, [42], []), (153, .iinc 3 (-1), 3, [], []), (156, .goto (-121), 3, [35], []), (159, .iload_n 2, 1, [], []), (160, .ireturn, 1, [], [])]
def tb_X13_laysPowers : ZT := [(0, .iconst 0, 1, [], []), (1, .istore_n 1, 1, [], []), (2, .iload_n 1, 1, [], []), (3, .aload_n 0, 1, [], []), (4, .getfield 13, 3, [11, 10, 3, 51, 0, 1300], []), (7, .iconst 0, 1, [], []), (8, .iaload, 1, [], []), (9, .if_icmp .ge 20, 3, [29], []), (12, .aload_n 0, 1, [], []), (13, .getfield 123, 3, [11, 52, 3, 87, 0, 1342], []), (16, .iload_n 1, 1, [], []), (17, .aload_n 0, 1, [], []), (18, .iload_n 1, 1, [], []), (19, .invokevirtual 416, 3, [1, 205, 2, 1697, 0, 11], []), (22, .iastore, 1, [], []), (23, .iinc 1 1, 3, [], []), (26, .goto (-24), 3, [2], []), (29, .return_, 1, [], [])]
def tb_X13_homeNow : ZT := [(0, .aload_n 0, 1, [], []), (1, .invokevirtual 419, 3, [1, 200, 1, 1658, 0, 11], []), (4, .aload_n 0, 1, [], []), (5, .invokevirtual 422, 3, [1, 208, 1, 1728, 0, 11], []), (8, .aload_n 0, 1, [], []), (9, .iconst (-1), 1, [], []), (10, .invokevirtual 425, 3, [1, 207, 2, 1732, 0, 11], []), (13, .ireturn, 1, [], [])]
def tb_X13_powersNow : ZT := [(0, .aload_n 0, 1, [], []), (1, .invokevirtual 419, 3, [1, 200, 1, 1658, 0, 11], []), (4, .aload_n 0, 1, [], []), (5, .invokevirtual 422, 3, [1, 208, 1, 1728, 0, 11], []), (8, .iconst 0, 1, [], []), (9, .istore_n 1, 1, [], []), (10, .iconst 0, 1, [], []), (11, .istore_n 2, 1, [], []), (12, .iload_n 2, 1, [], []), (13, .aload_n 0, 1, [], []), (14, .getfield 13, 3, [11, 10, 3, 51, 0, 1300], []), (17, .iconst 0, 1, [], []), (18, .iaload, 1, [], []), (19, .if_icmp .ge 18, 3, [37], []), (22, .iload_n 1, 1, [], []), (23, .aload_n 0, 1, [], []), (24, .getfield 123, 3, [11, 52, 3, 87, 0, 1342], []), (27, .iload_n 2, 1, [], []), (28, .iaload, 1, [], []), (29, .iadd, 1, [], []), (30, .istore_n 1, 1, [], []), (31, .iinc 2 1, 3, [], []), (34, .goto (-22), 3, [12], []), (37, .iload_n 1, 1, [], []), (38, .ireturn, 1, [], [])]
def tb_X13_soldNow : ZT := [(0, .aload_n 0, 1, [], []), (1, .invokevirtual 428, 3, [1, 209, 1, 1724, 0, 11], []), (4, .aload_n 0, 1, [], []), (5, .invokevirtual 431, 3, [1, 195, 1, 1787, 0, 11], []), (8, .imul, 1, [], []), (9, .ireturn, 1, [], [])]
def tb_X13_passes : ZT := [(0, .aload_n 0, 1, [], []), (1, .invokevirtual 434, 3, [1, 211, 1, 1783, 0, 11], []), (4, .istore_n 1, 1, [], []), (5, .aload_n 0, 1, [], []), (6, .getfield 105, 3, [11, 43, 3, 81, 0, 1333], []), (9, .iconst 1, 1, [], []), (10, .dup2, 1, [], []), (11, .iaload, 1, [], []), (12, .iload_n 1, 1, [], []), (13, .iadd, 1, [], []), (14, .iastore, 1, [], []), (15, .iconst 0, 1, [], []), (16, .istore_n 2, 1, [], []), (17, .iconst 0, 1, [], []), (18, .istore_n 3, 1, [], []), (19, .iload_n 3, 1, [], []), (20, .aload_n 0, 1, [], []), (21, .getfield 13, 3, [11, 10, 3, 51, 0, 1300], []), (24, .iconst 0, 1, [], []), (25, .iaload, 1, [], []), (26, .if_icmp .ge 100, 3, [126], []), (29, .aload_n 0, 1, [], []), (30, .iload_n 3, 1, [], []), (31, .invokevirtual 385, 3, [1, 198, 2, 1678, 0, 11], []), (34, .ifCond .ne 6, 3, [40], []), (37, .goto 83, 3, [120], []), (40, .aload_n 0, 1, [], []), (41, .iload_n 3, 1, [], []), (42, .invokevirtual 382, 3, [1, 199, 2, 1686, 0, 11], []), (45, .aload_n 0, 1, [], []), (46, .iload_n 3, 1, [], []), (47, .invokevirtual 400, 3, [1, 203, 2, 1670, 0, 11], []), (50, .ifCond .le 7, 3, [57], []), (53, .iconst 1, 1, [], []), (54, .goto 4, 3, [58], []), (57, .iconst 0, 1, [], []), (58, .iadd, 1, [], []), (59, .istore 4, 2, [], []), (61, .aload_n 0, 1, [], []), (62, .getfield 105, 3, [11, 43, 3, 81, 0, 1333], []), (65, .bipush 10, 2, [], []), (67, .iload_n 3, 1, [], []), (68, .iadd, 1, [], []), (69, .dup2, 1, [], []), (70, .iaload, 1, [], []), (71, .aload_n 0, 1, [], []), (72, .getfield 20, 3, [11, 12, 3, 53, 0, 1302], []), (75, .iload_n 3, 1, [], []), (76, .iaload, 1, [], []), (77, .iconst 2, 1, [], []), (78, .if_icmp .ne 10, 3, [88], []), (81, .iconst 2, 1, [], []), (82, .iload 4, 2, [], []), (84, .imul, 1, [], []), (85, .goto 5, 3, [90], []), (88, .iload 4, 2, [], []), (90, .iadd, 1, [], []), (91, .iastore, 1, [], []), (92, .iload_n 2, 1, [], []), (93, .aload_n 0, 1, [], []), (94, .getfield 105, 3, [11, 43, 3, 81, 0, 1333], []), (97, .bipush 10, 2, [], []), (99, .iload_n 3, 1, [], []), (100, .iadd, 1, [], []), (101, .iaload, 1, [], []), (102, .aload_n 0, 1, [], []), (103, .getfield 13, 3, [11, 10, 3, 51, 0, 1300], []), (106, .iconst 4, 1, [], []), (107, .iaload, 1, [], []), (108, .if_icmp .lt 9, 3, [117], []), (111, .iconst 1, 1, [], []), (112, .iload_n 3, 1, [], []), (113, .ishl, 1, [], []), (114, .goto 4, 3, [118], []), (117, .iconst 0, 1, [], []), (118, .ior, 1, [], []), (119, .istore_n 2, 1, [], []), (120, .iinc 3 1, 3, [], []), (123, .goto (-104), 3, [19], []), (126, .aload_n 0, 1, [], []), (127, .getfield 105, 3, [11, 43, 3, 81, 0, 1333], []), (130, .iconst 3, 1, [], []), (131, .dup2, 1, [], []), (132, .iaload, 1, [], []), (133, .iload_n 2, 1, [], []), (134, .ior, 1, [], []), (135, .iastore, 1, [], []), (136, .aload_n 0, 1, [], []), (137, .getfield 105, 3, [11, 43, 3, 81, 0, 1333], []), (140, .iconst 0, 1, [], []), (141, .dup2, 1, [], []), (142, .iaload, 1, [], []), (143, .iconst 1, 1, [], []), (144, .iadd, 1, [], []), (145, .iastore, 1, [], []), (146, .iload_n 1, 1, [], []), (147, .ireturn, 1, [], [])]
def tb_X13_turbine : ZT := [(0, .aload_n 0, 1, [], []), (1, .iconst 0, 1, [], []), (2, .putfield 145, 3, [11, 0, 0, 0, 0, 1290], []), (5, .aload_n 0, 1, [], []), (6, .iload_n 1, 1, [], []), (7, .invokevirtual 437, 3, [1, 193, 2, 1642, 0, 11], []), (10, .ifCond .eq 13, 3, [23], []), (13, .iload_n 2, 1, [], []), (14, .iconst 0, 1, [], []), (15, .bipush 8, 2, [], []), (17, .invokestatic 277, 3, [0, 151, 3, 1560, 0], []), (20, .ifCond .ne 6, 3, [26], []), (23, .bipush (-2), 2, [], []), (25, .ireturn, 1, [], []), (26, .iload_n 2, 1, [], []), (27, .iconst 3, 1, [], []), (28, .if_icmp .ge 37, 3, [65], []), (31, .iload_n 2, 1, [], []), (32, .ifCond .ne 12, 3, [44], []), (35, .aload_n 0, 1, [], []), (36, .getfield 20, 3, [11, 12, 3, 53, 0, 1302], []), (39, .iload_n 1, 1, [], []), (40, .iaload, 1, [], []), (41, .goto 23, 3, [64], []), (44, .iload_n 2, 1, [], []), (45, .iconst 1, 1, [], []), (46, .if_icmp .ne 12, 3, [58], []), (49, .aload_n 0, 1, [], []), (50, .getfield 23, 3, [11, 13, 3, 54, 0, 1303], []), (53, .iload_n 1, 1, [], []), (54, .iaload, 1, [], []), (55, .goto 9, 3, [64], []), (58, .aload_n 0, 1, [], []), (59, .getfield 26, 3, [11, 14, 3, 55, 0, 1304], []), (62, .iload_n 1, 1, [], []), (63, .iaload, 1, [], []), (64, .ireturn, 1, [], []), (65, .iload_n 2, 1, [], []), (66, .bipush 6, 2, [], []), (68, .if_icmp .ge 54, 3, [122], []), (71, .iload_n 2, 1, [], []), (72, .iconst 3, 1, [], []), (73, .if_icmp .ne 14, 3, [87], []), (76, .aload_n 0, 1, [], []), (77, .getfield 105, 3, [11, 43, 3, 81, 0, 1333], []), (80, .iconst 4, 1, [], []), (81, .iload_n 1, 1, [], []), (82, .iadd, 1, [], []), (83, .iaload, 1, [], []), (84, .goto 37, 3, [121], []), (87, .iload_n 2, 1, [], []), (88, .iconst 4, 1, [], []), (89, .if_icmp .ne 19, 3, [108], []), (92, .aload_n 0, 1, [], []), (93, .iload_n 1, 1, [], []), (94, .invokevirtual 365, 3, [1, 196, 2, 1646, 0, 11], []), (97, .ifCond .eq 7, 3, [104], []), (100, .iconst 0, 1, [], []), (101, .goto 20, 3, [121], []), (104, .iconst 1, 1, [], []), (105, .goto 16, 3, [121], []), (108, .aload_n 0, 1, [], []), (109, .iload_n 1, 1, [], []), (110, .invokevirtual 368, 3, [1, 197, 2, 1650, 0, 11], []), (113, .ifCond .eq 7, 3, [120], []), (116, .iconst 1, 1, [], []), (117, .goto 4, 3, [121], []), (120, .iconst 0, 1, [], []), (121, .ireturn, 1, [], []), (122, .iload_n 2, 1, [], []), (123, .bipush 6, 2, [], []), (125, .if_icmp .ne 15, 3, [140], []), (128, .aload_n 0, 1, [], []), (129, .getfield 105, 3, [11, 43, 3, 81, 0, 1333], []), (132, .bipush 10, 2, [], []), (134, .iload_n 1, 1, [], []), (135, .iadd, 1, [], []), (136, .iaload, 1, [], []), (137, .goto 24, 3, [161], []), (140, .iload_n 2, 1, [], []), (141, .bipush 7, 2, [], []), (143, .if_icmp .ne 12, 3, [155], []), (146, .aload_n 0, 1, [], []), (147, .getfield 29, 3, [11, 15, 3, 56, 0, 1305], []), (150, .iload_n 1, 1, [], []), (151, .iaload, 1, [], []), (152, .goto 9, 3, [161], []), (155, .aload_n 0, 1, [], []), (156, .getfield 32, 3, [11, 16, 3, 57, 0, 1306], []), (159, .iload_n 1, 1, [], []), (160, .iaload, 1, [], []), (161, .ireturn, 1, [], [])]
def tb_X13_wind : ZT := [(0, .aload_n 0, 1, [], []), (1, .iconst 0, 1, [], []), (2, .putfield 145, 3, [11, 0, 0, 0, 0, 1290], []), (5, .aload_n 0, 1, [], []), (6, .invokevirtual 419, 3, [1, 200, 1, 1658, 0, 11], []), (9, .aload_n 0, 1, [], []), (10, .iload_n 1, 1, [], []), (11, .invokevirtual 437, 3, [1, 193, 2, 1642, 0, 11], []), (14, .ifCond .eq 11, 3, [25], []), (17, .aload_n 0, 1, [], []), (18, .iload_n 1, 1, [], []), (19, .invokevirtual 403, 3, [1, 204, 2, 1666, 0, 11], []), (22, .goto 4, 3, [26], []), (25, .iconst (-1), 1, [], []), (26, .ireturn, 1, [], [])]
def tb_X13_power : ZT := [(0, .aload_n 0, 1, [], []), (1, .iconst 0, 1, [], []), (2, .putfield 145, 3, [11, 0, 0, 0, 0, 1290], []), (5, .aload_n 0, 1, [], []), (6, .invokevirtual 419, 3, [1, 200, 1, 1658, 0, 11], []), (9, .aload_n 0, 1, [], []), (10, .iload_n 1, 1, [], []), (11, .invokevirtual 437, 3, [1, 193, 2, 1642, 0, 11], []), (14, .ifCond .eq 11, 3, [25], []), (17, .aload_n 0, 1, [], []), (18, .iload_n 1, 1, [], []), (19, .invokevirtual 416, 3, [1, 205, 2, 1697, 0, 11], []), (22, .goto 4, 3, [26], []), (25, .iconst (-1), 1, [], []), (26, .ireturn, 1, [], [])]
def tb_X13_carried : ZT := [(0, .aload_n 0, 1, [], []), (1, .iconst 0, 1, [], []), (2, .putfield 145, 3, [11, 0, 0, 0, 0, 1290], []), (5, .aload_n 0, 1, [], []), (6, .iload_n 1, 1, [], []), (7, .invokevirtual 437, 3, [1, 193, 2, 1642, 0, 11], []), (10, .ifCond .ne 5, 3, [15], []), (13, .iconst (-1), 1, [], []), (14, .ireturn, 1, [], []), (15, .aload_n 0, 1, [], []), (16, .invokevirtual 428, 3, [1, 209, 1, 1724, 0, 11], []), (19, .pop, 1, [], []), (20, .aload_n 0, 1, [], []), (21, .getfield 29, 3, [11, 15, 3, 56, 0, 1305], []), (24, .iload_n 1, 1, [], []), (25, .iaload, 1, [], []), (26, .ifCond .ge 7, 3, [33], []), (29, .iconst 0, 1, [], []), (30, .goto 9, 3, [39], []), (33, .aload_n 0, 1, [], []), (34, .getfield 126, 3, [11, 53, 3, 88, 0, 1343], []), (37, .iload_n 1, 1, [], []), (38, .iaload, 1, [], []), (39, .ireturn, 1, [], [])]
def tb_X13_home : ZT := [(0, .aload_n 0, 1, [], []), (1, .iconst 0, 1, [], []), (2, .putfield 145, 3, [11, 0, 0, 0, 0, 1290], []), (5, .aload_n 0, 1, [], []), (6, .invokevirtual 428, 3, [1, 209, 1, 1724, 0, 11], []), (9, .ireturn, 1, [], [])]
def tb_X13_keeps : ZT := [(0, .aload_n 0, 1, [], []), (1, .getfield 351, 3, [11, 49, 0, 0, 0, 1339], []), (4, .bipush 16, 2, [], []), (6, .if_icmp .ne 43, 3, [49], []), (9, .iconst 0, 1, [], []), (10, .istore_n 1, 1, [], []), (11, .iload_n 1, 1, [], []), (12, .sipush 240, 3, [], []), (15, .if_icmp .ge 24, 3, [39], []), (18, .aload_n 0, 1, [], []), (19, .getfield 117, 3, [11, 47, 3, 85, 0, 1337], []), (22, .iload_n 1, 1, [], []), (23, .aload_n 0, 1, [], []), (24, .getfield 117, 3, [11, 47, 3, 85, 0, 1337], []), (27, .iload_n 1, 1, [], []), (28, .bipush 16, 2, [], []), (30, .iadd, 1, [], []), (31, .iaload, 1, [], []), (32, .iastore, 1, [], []), (33, .iinc 1 1, 3, [], []), (36, .goto (-25), 3, [11], []), (39, .aload_n 0, 1, [], []), (40, .dup, 1, [], []), (41, .getfield 351, 3, [11, 49, 0, 0, 0, 1339], []), (44, .iconst 1, 1, [], []), (45, .isub, 1, [], []), (46, .putfield 351, 3, [11, 49, 0, 0, 0, 1339], []), (49, .aload_n 0, 1, [], []), (50, .getfield 105, 3, [11, 43, 3, 81, 0, 1333], []), (53, .iconst 0, 1, [], []), (54, .aload_n 0, 1, [], []), (55, .getfield 117, 3, [11, 47, 3, 85, 0, 1337], []), (58, .bipush 16, 2, [], []), (60, .aload_n 0, 1, [], []), (61, .getfield 351, 3, [11, 49, 0, 0, 0, 1339], []), (64, .imul, 1, [], []), (65, .invokestatic 440, 3, [0, 186, 4, 1752, 0], []), (68, .aload_n 0, 1, [], []), (69, .dup, 1, [], []), (70, .getfield 351, 3, [11, 49, 0, 0, 0, 1339], []), (73, .iconst 1, 1, [], []), (74, .iadd, 1, [], []), (75, .putfield 351, 3, [11, 49, 0, 0, 0, 1339], []), (78, .return_, 1, [], [])]
def tb_X13_turn : ZT := [(0, .aload_n 0, 1, [], []), (1, .iconst 0, 1, [], []), (2, .putfield 145, 3, [11, 0, 0, 0, 0, 1290], []), (5, .aload_n 0, 1, [], []), (6, .iload_n 1, 1, [], []), (7, .invokevirtual 437, 3, [1, 193, 2, 1642, 0, 11], []), (10, .ifCond .eq 12, 3, [22], []), (13, .iload_n 2, 1, [], []), (14, .iconst 0, 1, [], []), (15, .iconst 4, 1, [], []), (16, .invokestatic 277, 3, [0, 151, 3, 1560, 0], []), (19, .ifCond .ne 5, 3, [24], []), (22, .iconst (-1), 1, [], []), (23, .ireturn, 1, [], []), (24, .aload_n 0, 1, [], []), (25, .invokevirtual 444, 3, [1, 218, 1, 1748, 0, 11], []), (28, .aload_n 0, 1, [], []), (29, .getfield 105, 3, [11, 43, 3, 81, 0, 1333], []), (32, .iconst 4, 1, [], []), (33, .iload_n 1, 1, [], []), (34, .iadd, 1, [], []), (35, .iaload, 1, [], []), (36, .istore_n 3, 1, [], []), (37, .aload_n 0, 1, [], []), (38, .getfield 105, 3, [11, 43, 3, 81, 0, 1333], []), (41, .iconst 4, 1, [], []), (42, .iload_n 1, 1, [], []), (43, .iadd, 1, [], []), (44, .iload_n 2, 1, [], []), (45, .iastore, 1, [], []), (46, .iload_n 3, 1, [], []), (47, .ireturn, 1, [], [])]
def tb_X13_canMend : ZT := [(0, .aload_n 0, 1, [], []), (1, .iload_n 1, 1, [], []), (2, .invokevirtual 368, 3, [1, 197, 2, 1650, 0, 11], []), (5, .ifCond .eq 23, 3, [28], []), (8, .aload_n 0, 1, [], []), (9, .getfield 105, 3, [11, 43, 3, 81, 0, 1333], []), (12, .iconst 0, 1, [], []), (13, .iaload, 1, [], []), (14, .aload_n 0, 1, [], []), (15, .getfield 13, 3, [11, 10, 3, 51, 0, 1300], []), (18, .iconst 5, 1, [], []), (19, .iaload, 1, [], []), (20, .irem, 1, [], []), (21, .ifCond .ne 7, 3, [28], []), (24, .iconst 1, 1, [], []), (25, .goto 4, 3, [29], []), (28, .iconst 0, 1, [], []), (29, .ireturn, 1, [1], [])]
def tb_X13_mends : ZT := [(0, .aload_n 0, 1, [], []), (1, .getfield 105, 3, [11, 43, 3, 81, 0, 1333], []), (4, .iconst 3, 1, [], []), (5, .dup2, 1, [], []), (6, .iaload, 1, [], []), (7, .iconst 1, 1, [], []), (8, .iload_n 1, 1, [], []), (9, .ishl, 1, [], []), (10, .iconst (-1), 1, [], []), (11, .ixor, 1, [], []), (12, .iand, 1, [], []), (13, .iastore, 1, [], []), (14, .aload_n 0, 1, [], []), (15, .getfield 105, 3, [11, 43, 3, 81, 0, 1333], []), (18, .bipush 10, 2, [], []), (20, .iload_n 1, 1, [], []), (21, .iadd, 1, [], []), (22, .iconst 0, 1, [], []), (23, .iastore, 1, [], []), (24, .return_, 1, [], [])]
def tb_X13_shut : ZT := [(0, .aload_n 0, 1, [], []), (1, .iconst 0, 1, [], []), (2, .putfield 145, 3, [11, 0, 0, 0, 0, 1290], []), (5, .aload_n 0, 1, [], []), (6, .iload_n 1, 1, [], []), (7, .invokevirtual 437, 3, [1, 193, 2, 1642, 0, 11], []), (10, .ifCond .eq 11, 3, [21], []), (13, .aload_n 0, 1, [], []), (14, .iload_n 1, 1, [], []), (15, .invokevirtual 365, 3, [1, 196, 2, 1646, 0, 11], []), (18, .ifCond .eq 5, 3, [23], []), (21, .iconst 0, 1, [], []), (22, .ireturn, 1, [1], []), (23, .aload_n 0, 1, [], []), (24, .invokevirtual 444, 3, [1, 218, 1, 1748, 0, 11], []), (27, .aload_n 0, 1, [], []), (28, .getfield 105, 3, [11, 43, 3, 81, 0, 1333], []), (31, .iconst 2, 1, [], []), (32, .dup2, 1, [], []), (33, .iaload, 1, [], []), (34, .iconst 1, 1, [], []), (35, .iload_n 1, 1, [], []), (36, .ishl, 1, [], []), (37, .ior, 1, [], []), (38, .iastore, 1, [], []), (39, .iconst 1, 1, [], []), (40, .ireturn, 1, [1], [])]
def tb_X13_open : ZT := [(0, .aload_n 0, 1, [], []), (1, .iconst 0, 1, [], []), (2, .putfield 145, 3, [11, 0, 0, 0, 0, 1290], []), (5, .aload_n 0, 1, [], []), (6, .iload_n 1, 1, [], []), (7, .invokevirtual 437, 3, [1, 193, 2, 1642, 0, 11], []), (10, .ifCond .eq 11, 3, [21], []), (13, .aload_n 0, 1, [], []), (14, .iload_n 1, 1, [], []), (15, .invokevirtual 365, 3, [1, 196, 2, 1646, 0, 11], []), (18, .ifCond .ne 5, 3, [23], []), (21, .iconst 0, 1, [], []), (22, .ireturn, 1, [1], []), (23, .aload_n 0, 1, [], []), (24, .invokevirtual 444, 3, [1, 218, 1, 1748, 0, 11], []), (27, .aload_n 0, 1, [], []), (28, .getfield 105, 3, [11, 43, 3, 81, 0, 1333], []), (31, .iconst 2, 1, [], []), (32, .dup2, 1, [], []), (33, .iaload, 1, [], []), (34, .iconst 1, 1, [], []), (35, .iload_n 1, 1, [], []), (36, .ishl, 1, [], []), (37, .iconst (-1), 1, [], []), (38, .ixor, 1, [], []), (39, .iand, 1, [], []), (40, .iastore, 1, [], []), (41, .iconst 1, 1, [], []), (42, .ireturn, 1, [1], [])]
def tb_X13_mend : ZT := [(0, .aload_n 0, 1, [], []), (1, .iconst 0, 1, [], []), (2, .putfield 145, 3, [11, 0, 0, 0, 0, 1290], []), (5, .aload_n 0, 1, [], []), (6, .iload_n 1, 1, [], []), (7, .invokevirtual 437, 3, [1, 193, 2, 1642, 0, 11], []), (10, .ifCond .eq 11, 3, [21], []), (13, .aload_n 0, 1, [], []), (14, .iload_n 1, 1, [], []), (15, .invokevirtual 447, 3, [1, 220, 2, 1767, 0, 11], []), (18, .ifCond .ne 5, 3, [23], []), (21, .iconst 0, 1, [], []), (22, .ireturn, 1, [1], []), (23, .aload_n 0, 1, [], []), (24, .invokevirtual 444, 3, [1, 218, 1, 1748, 0, 11], []), (27, .aload_n 0, 1, [], []), (28, .iload_n 1, 1, [], []), (29, .invokevirtual 450, 3, [1, 221, 2, 1771, 0, 11], []), (32, .iconst 1, 1, [], []), (33, .ireturn, 1, [1], [])]
def tb_X13_step : ZT := [(0, .aload_n 0, 1, [], []), (1, .iconst 0, 1, [], []), (2, .putfield 145, 3, [11, 0, 0, 0, 0, 1290], []), (5, .aload_n 0, 1, [], []), (6, .invokevirtual 444, 3, [1, 218, 1, 1748, 0, 11], []), (9, .aload_n 0, 1, [], []), (10, .invokevirtual 453, 3, [1, 212, 1, 1779, 0, 11], []), (13, .ireturn, 1, [], [])]
def tb_X13_undo : ZT := [(0, .aload_n 0, 1, [], []), (1, .iconst 0, 1, [], []), (2, .putfield 145, 3, [11, 0, 0, 0, 0, 1290], []), (5, .aload_n 0, 1, [], []), (6, .getfield 351, 3, [11, 49, 0, 0, 0, 1339], []), (9, .ifCond .ne 5, 3, [14], []), (12, .iconst 0, 1, [], []), (13, .ireturn, 1, [1], []), (14, .aload_n 0, 1, [], []), (15, .dup, 1, [], []), (16, .getfield 351, 3, [11, 49, 0, 0, 0, 1339], []), (19, .iconst 1, 1, [], []), (20, .isub, 1, [], []), (21, .putfield 351, 3, [11, 49, 0, 0, 0, 1339], []), (24, .aload_n 0, 1, [], []), (25, .getfield 117, 3, [11, 47, 3, 85, 0, 1337], []), (28, .bipush 16, 2, [], []), (30, .aload_n 0, 1, [], []), (31, .getfield 351, 3, [11, 49, 0, 0, 0, 1339], []), (34, .imul, 1, [], []), (35, .aload_n 0, 1, [], []), (36, .getfield 105, 3, [11, 43, 3, 81, 0, 1333], []), (39, .iconst 0, 1, [], []), (40, .invokestatic 440, 3, [0, 186, 4, 1752, 0], []), (43, .iconst 1, 1, [], []), (44, .ireturn, 1, [1], [])]
def tb_X13_isDone : ZT := [(0, .aload_n 0, 1, [], []), (1, .getfield 90, 3, [11, 38, 3, 76, 0, 1328], []), (4, .iload_n 1, 1, [], []), (5, .iaload, 1, [], []), (6, .istore_n 2, 1, [], []), (7, .aload_n 0, 1, [], []), (8, .getfield 87, 3, [11, 37, 3, 75, 0, 1327], []), (11, .iload_n 1, 1, [], []), (12, .iaload, 1, [], []), (13, .istore_n 3, 1, [], []), (14, .iload_n 3, 1, [], []), (15, .ifCond .ne 20, 3, [35], []), (18, .aload_n 0, 1, [], []), (19, .getfield 105, 3, [11, 43, 3, 81, 0, 1333], []), (22, .iconst 4, 1, [], []), (23, .iload_n 2, 1, [], []), (24, .iadd, 1, [], []), (25, .aload_n 0, 1, [], []), (26, .getfield 93, 3, [11, 39, 3, 77, 0, 1329], []), (29, .iload_n 1, 1, [], []), (30, .iaload, 1, [], []), (31, .iastore, 1, [], []), (32, .goto 76, 3, [108], []), (35, .iload_n 3, 1, [], []), (36, .iconst 1, 1, [], []), (37, .if_icmp .eq 8, 3, [45], []), (40, .iload_n 3, 1, [], []), (41, .iconst 2, 1, [], []), (42, .if_icmp .ne 38, 3, [80], []), (45, .aload_n 0, 1, [], []), (46, .iload_n 2, 1, [], []), (47, .invokevirtual 365, 3, [1, 196, 2, 1646, 0, 11], []), (50, .iload_n 3, 1, [], []), (51, .iconst 1, 1, [], []), (52, .if_icmp .ne 7, 3, [59], []), (55, .iconst 1, 1, [], []), (56, .goto 4, 3, [60], []), (59, .iconst 0, 1, [], []), (60, .if_icmp .ne 5, 3, [65], []), (63, .iconst 0, 1, [], []), (64, .ireturn, 1, [1], []), (65, .aload_n 0, 1, [], []), (66, .getfield 105, 3, [11, 43, 3, 81, 0, 1333], []), (69, .iconst 2, 1, [], []), (70, .dup2, 1, [], []), (71, .iaload, 1, [], []), (72, .iconst 1, 1, [], []), (73, .iload_n 2, 1, [], []), (74, .ishl, 1, [], []), (75, .ixor, 1, [], []), (76, .iastore, 1, [], []), (77, .goto 31, 3, [108], []), (80, .iload_n 3, 1, [], []), (81, .iconst 3, 1, [], []), (82, .if_icmp .ne 21, 3, [103], []), (85, .aload_n 0, 1, [], []), (86, .iload_n 2, 1, [], []), (87, .invokevirtual 447, 3, [1, 220, 2, 1767, 0, 11], []), (90, .ifCond .ne 5, 3, [95], []), (93, .iconst 0, 1, [], []), (94, .ireturn, 1, [1], []), (95, .aload_n 0, 1, [], []), (96, .iload_n 2, 1, [], []), (97, .invokevirtual 450, 3, [1, 221, 2, 1771, 0, 11], []), (100, .goto 8, 3, [108], []), (103, .aload_n 0, 1, [], []), (104, .invokevirtual 453, 3, [1, 212, 1, 1779, 0, 11], []), (107, .pop, 1, [], []), (108, .iconst 1, 1, [], []), (109, .ireturn, 1, [1], [])]
def tb_X13_judged : ZT := [(0, .aload_n 0, 1, [], []), (1, .iconst 0, 1, [], []), (2, .putfield 145, 3, [11, 0, 0, 0, 0, 1290], []), (5, .iload_n 1, 1, [], []), (6, .iconst 0, 1, [], []), (7, .iconst 2, 1, [], []), (8, .invokestatic 277, 3, [0, 151, 3, 1560, 0], []), (11, .ifCond .ne 7, 3, [18], []), (14, .ldc_w 456, 3, [1799], [(-1000000)]), (17, .ireturn, 1, [], []), (18, .aload_n 0, 1, [], []), (19, .getfield 105, 3, [11, 43, 3, 81, 0, 1333], []), (22, .iconst 0, 1, [], []), (23, .aload_n 0, 1, [], []), (24, .getfield 108, 3, [11, 44, 3, 82, 0, 1334], []), (27, .iconst 0, 1, [], []), (28, .invokestatic 440, 3, [0, 186, 4, 1752, 0], []), (31, .aload_n 0, 1, [], []), (32, .invokevirtual 142, 3, [1, 190, 1, 1286, 0, 11], []), (35, .iconst (-1), 1, [], []), (36, .istore_n 2, 1, [], []), (37, .iconst (-1), 1, [], []), (38, .istore_n 3, 1, [], []), (39, .iconst 0, 1, [], []), (40, .istore 4, 2, [], []), (42, .iload 4, 2, [], []), (44, .aload_n 0, 1, [], []), (45, .getfield 84, 3, [11, 36, 3, 74, 0, 1326], []), (48, .iconst 0, 1, [], []), (49, .iaload, 1, [], []), (50, .if_icmp .ge 54, 3, [104], []), (53, .aload_n 0, 1, [], []), (54, .getfield 105, 3, [11, 43, 3, 81, 0, 1333], []), (57, .iconst 3, 1, [], []), (58, .iaload, 1, [], []), (59, .istore 5, 2, [], []), (61, .aload_n 0, 1, [], []), (62, .iload 4, 2, [], []), (64, .invokevirtual 457, 3, [1, 227, 2, 1800, 0, 11], []), (67, .ifCond .ne 10, 3, [77], []), (70, .iload_n 2, 1, [], []), (71, .ifCond .ge 6, 3, [77], []), (74, .iload 4, 2, [], []), (76, .istore_n 2, 1, [], []), (77, .aload_n 0, 1, [], []), (78, .getfield 105, 3, [11, 43, 3, 81, 0, 1333], []), (81, .iconst 3, 1, [], []), (82, .iaload, 1, [], []), (83, .iload 5, 2, [], []), (85, .iconst (-1), 1, [], []), (86, .ixor, 1, [], []), (87, .iand, 1, [], []), (88, .ifCond .eq 10, 3, [98], []), (91, .iload_n 3, 1, [], []), (92, .ifCond .ge 6, 3, [98], []), (95, .iload 4, 2, [], []), (97, .istore_n 3, 1, [], []), (98, .iinc 4 1, 3, [], []), (101, .goto (-59), 3, [42], []), (104, .aload_n 0, 1, [], []), (105, .getfield 105, 3, [11, 43, 3, 81, 0, 1333], []), (108, .iconst 1, 1, [], []), (109, .iaload, 1, [], []), (110, .istore 4, 2, [], []), (112, .aload_n 0, 1, [], []), (113, .getfield 108, 3, [11, 44, 3, 82, 0, 1334], []), (116, .iconst 0, 1, [], []), (117, .aload_n 0, 1, [], []), (118, .getfield 105, 3, [11, 43, 3, 81, 0, 1333], []), (121, .iconst 0, 1, [], []), (122, .invokestatic 440, 3, [0, 186, 4, 1752, 0], []), (125, .iload_n 1, 1, [], []), (126, .ifCond .ne 7, 3, [133], []), (129, .iload_n 2, 1, [], []), (130, .goto 14, 3, [144], []), (133, .iload_n 1, 1, [], []), (134, .iconst 1, 1, [], []), (135, .if_icmp .ne 7, 3, [142], []), (138, .iload_n 3, 1, [], []), (139, .goto 5, 3, [144], []), (142, .iload 4, 2, [], []), (144, .ireturn, 1, [], [])]
def tb_X13_takes : ZT := [(0, .aload_n 0, 1, [], []), (1, .iconst 0, 1, [], []), (2, .putfield 145, 3, [11, 0, 0, 0, 0, 1290], []), (5, .aload_n 0, 1, [], []), (6, .invokevirtual 419, 3, [1, 200, 1, 1658, 0, 11], []), (9, .aload_n 0, 1, [], []), (10, .iload_n 1, 1, [], []), (11, .invokevirtual 437, 3, [1, 193, 2, 1642, 0, 11], []), (14, .ifCond .eq 25, 3, [39], []), (17, .aload_n 0, 1, [], []), (18, .iload_n 2, 1, [], []), (19, .invokevirtual 437, 3, [1, 193, 2, 1642, 0, 11], []), (22, .ifCond .eq 17, 3, [39], []), (25, .iload_n 1, 1, [], []), (26, .iload_n 2, 1, [], []), (27, .if_icmp .eq 12, 3, [39], []), (30, .aload_n 0, 1, [], []), (31, .iload_n 1, 1, [], []), (32, .iload_n 2, 1, [], []), (33, .invokevirtual 394, 3, [1, 202, 3, 1674, 0, 11], []), (36, .goto 4, 3, [40], []), (39, .iconst (-1), 1, [], []), (40, .ireturn, 1, [], [])]
def tb_X13_later : ZT := [(0, .aload_n 0, 1, [], []), (1, .iconst 0, 1, [], []), (2, .putfield 145, 3, [11, 0, 0, 0, 0, 1290], []), (5, .iload_n 1, 1, [], []), (6, .iconst 0, 1, [], []), (7, .bipush 60, 2, [], []), (9, .invokestatic 277, 3, [0, 151, 3, 1560, 0], []), (12, .ifCond .ne 5, 3, [17], []), (15, .iconst (-1), 1, [], []), (16, .ireturn, 1, [], []), (17, .aload_n 0, 1, [], []), (18, .getfield 105, 3, [11, 43, 3, 81, 0, 1333], []), (21, .iconst 0, 1, [], []), (22, .aload_n 0, 1, [], []), (23, .getfield 111, 3, [11, 45, 3, 83, 0, 1335], []), (26, .iconst 0, 1, [], []), (27, .invokestatic 440, 3, [0, 186, 4, 1752, 0], []), (30, .iconst 0, 1, [], []), (31, .istore_n 2, 1, [], []), (32, .iload_n 2, 1, [], []), (33, .iload_n 1, 1, [], []), (34, .if_icmp .ge 14, 3, [48], []), (37, .aload_n 0, 1, [], []), (38, .invokevirtual 453, 3, [1, 212, 1, 1779, 0, 11], []), (41, .pop, 1, [], []), (42, .iinc 2 1, 3, [], []), (45, .goto (-13), 3, [32], []), (48, .aload_n 0, 1, [], []), (49, .invokevirtual 428, 3, [1, 209, 1, 1724, 0, 11], []), (52, .istore_n 2, 1, [], []), (53, .aload_n 0, 1, [], []), (54, .getfield 111, 3, [11, 45, 3, 83, 0, 1335], []), (57, .iconst 0, 1, [], []), (58, .aload_n 0, 1, [], []), (59, .getfield 105, 3, [11, 43, 3, 81, 0, 1333], []), (62, .iconst 0, 1, [], []), (63, .invokestatic 440, 3, [0, 186, 4, 1752, 0], []), (66, .iload_n 2, 1, [], []), (67, .ireturn, 1, [], [])]
def tb_X13_total : ZT := [(0, .aload_n 0, 1, [], []), (1, .iconst 0, 1, [], []), (2, .putfield 145, 3, [11, 0, 0, 0, 0, 1290], []), (5, .iload_n 1, 1, [], []), (6, .iconst 1, 1, [], []), (7, .bipush 60, 2, [], []), (9, .invokestatic 277, 3, [0, 151, 3, 1560, 0], []), (12, .ifCond .ne 7, 3, [19], []), (15, .ldc_w 456, 3, [1799], [(-1000000)]), (18, .ireturn, 1, [], []), (19, .aload_n 0, 1, [], []), (20, .getfield 105, 3, [11, 43, 3, 81, 0, 1333], []), (23, .iconst 0, 1, [], []), (24, .aload_n 0, 1, [], []), (25, .getfield 111, 3, [11, 45, 3, 83, 0, 1335], []), (28, .iconst 0, 1, [], []), (29, .invokestatic 440, 3, [0, 186, 4, 1752, 0], []), (32, .iconst 0, 1, [], []), (33, .istore_n 2, 1, [], []), (34, .iconst 0, 1, [], []), (35, .istore_n 3, 1, [], []), (36, .iload_n 3, 1, [], []), (37, .iload_n 1, 1, [], []), (38, .if_icmp .ge 16, 3, [54], []), (41, .iload_n 2, 1, [], []), (42, .aload_n 0, 1, [], []), (43, .invokevirtual 453, 3, [1, 212, 1, 1779, 0, 11], []), (46, .iadd, 1, [], []), (47, .istore_n 2, 1, [], []), (48, .iinc 3 1, 3, [], []), (51, .goto (-15), 3, [36], []), (54, .aload_n 0, 1, [], []), (55, .getfield 111, 3, [11, 45, 3, 83, 0, 1335], []), (58, .iconst 0, 1, [], []), (59, .aload_n 0, 1, [], []), (60, .getfield 105, 3, [11, 43, 3, 81, 0, 1333], []), (63, .iconst 0, 1, [], []), (64, .invokestatic 440, 3, [0, 186, 4, 1752, 0], []), (67, .iload_n 2, 1, [], []), (68, .ireturn, 1, [], [])]
def tb_X13_breaks : ZT := [(0, .aload_n 0, 1, [], []), (1, .iconst 0, 1, [], []), (2, .putfield 145, 3, [11, 0, 0, 0, 0, 1290], []), (5, .aload_n 0, 1, [], []), (6, .iload_n 1, 1, [], []), (7, .invokevirtual 437, 3, [1, 193, 2, 1642, 0, 11], []), (10, .ifCond .eq 11, 3, [21], []), (13, .aload_n 0, 1, [], []), (14, .iload_n 1, 1, [], []), (15, .invokevirtual 368, 3, [1, 197, 2, 1650, 0, 11], []), (18, .ifCond .eq 5, 3, [23], []), (21, .iconst (-1), 1, [], []), (22, .ireturn, 1, [], []), (23, .aload_n 0, 1, [], []), (24, .getfield 105, 3, [11, 43, 3, 81, 0, 1333], []), (27, .iconst 0, 1, [], []), (28, .aload_n 0, 1, [], []), (29, .getfield 111, 3, [11, 45, 3, 83, 0, 1335], []), (32, .iconst 0, 1, [], []), (33, .invokestatic 440, 3, [0, 186, 4, 1752, 0], []), (36, .iconst 0, 1, [], []), (37, .istore_n 2, 1, [], []), (38, .iload_n 2, 1, [], []), (39, .bipush 100, 2, [], []), (41, .if_icmp .gt 22, 3, [63], []), (44, .aload_n 0, 1, [], []), (45, .iload_n 1, 1, [], []), (46, .invokevirtual 368, 3, [1, 197, 2, 1650, 0, 11], []), (49, .ifCond .ne 14, 3, [63], []), (52, .aload_n 0, 1, [], []), (53, .invokevirtual 453, 3, [1, 212, 1, 1779, 0, 11], []), (56, .pop, 1, [], []), (57, .iinc 2 1, 3, [], []), (60, .goto (-22), 3, [38], []), (63, .aload_n 0, 1, [], []), (64, .getfield 111, 3, [11, 45, 3, 83, 0, 1335], []), (67, .iconst 0, 1, [], []), (68, .aload_n 0, 1, [], []), (69, .getfield 105, 3, [11, 43, 3, 81, 0, 1333], []), (72, .iconst 0, 1, [], []), (73, .invokestatic 440, 3, [0, 186, 4, 1752, 0], []), (76, .iload_n 2, 1, [], []), (77, .bipush 100, 2, [], []), (79, .if_icmp .le 7, 3, [86], []), (82, .iconst (-1), 1, [], []), (83, .goto 4, 3, [87], []), (86, .iload_n 2, 1, [], []), (87, .ireturn, 1, [], [])]
def tb_X13_lost : ZT := [(0, .aload_n 0, 1, [], []), (1, .iconst 0, 1, [], []), (2, .putfield 145, 3, [11, 0, 0, 0, 0, 1290], []), (5, .aload_n 0, 1, [], []), (6, .invokevirtual 460, 3, [1, 210, 1, 1824, 0, 11], []), (9, .istore_n 1, 1, [], []), (10, .iload_n 1, 1, [], []), (11, .aload_n 0, 1, [], []), (12, .iconst (-1), 1, [], []), (13, .invokevirtual 425, 3, [1, 207, 2, 1732, 0, 11], []), (16, .isub, 1, [], []), (17, .ireturn, 1, [], [])]
def tb_X13_turnsAll : ZT := [(0, .aload_n 0, 1, [], []), (1, .getfield 105, 3, [11, 43, 3, 81, 0, 1333], []), (4, .iconst 0, 1, [], []), (5, .aload_n 0, 1, [], []), (6, .getfield 111, 3, [11, 45, 3, 83, 0, 1335], []), (9, .iconst 0, 1, [], []), (10, .invokestatic 440, 3, [0, 186, 4, 1752, 0], []), (13, .iconst 1, 1, [], []), (14, .istore_n 3, 1, [], []), (15, .iconst 0, 1, [], []), (16, .istore 4, 2, [], []), (18, .iload 4, 2, [], []), (20, .aload_n 0, 1, [], []), (21, .getfield 13, 3, [11, 10, 3, 51, 0, 1300], []), (24, .iconst 0, 1, [], []), (25, .iaload, 1, [], []), (26, .if_icmp .ge 27, 3, [53], []), (29, .iload_n 3, 1, [], []), (30, .iload_n 1, 1, [], []), (31, .iload 4, 2, [], []), (33, .ishr, 1, [], []), (34, .iconst 1, 1, [], []), (35, .iand, 1, [], []), (36, .iconst 1, 1, [], []), (37, .if_icmp .ne 7, 3, [44], []), (40, .iconst 5, 1, [], []), (41, .goto 4, 3, [45], []), (44, .iconst 1, 1, [], []), (45, .imul, 1, [], []), (46, .istore_n 3, 1, [], []), (47, .iinc 4 1, 3, [], []), (50, .goto (-32), 3, [18], []), (53, .aload_n 0, 1, [], []), (54, .ldc_w 456, 3, [1799], [(-1000000)]), (57, .putfield 463, 3, [11, 54, 0, 0, 0, 1344], []), (60, .aload_n 0, 1, [], []), (61, .iconst 0, 1, [], []), (62, .putfield 466, 3, [11, 55, 0, 0, 0, 1345], []), (65, .iconst 0, 1, [], []), (66, .istore 4, 2, [], []), (68, .iload 4, 2, [], []), (70, .iload_n 3, 1, [], []), (71, .if_icmp .ge 107, 3, [178], []), (74, .iload 4, 2, [], []), (76, .istore 5, 2, [], []), (78, .aload_n 0, 1, [], []), (79, .getfield 13, 3, [11, 10, 3, 51, 0, 1300], []), (82, .iconst 0, 1, [], []), (83, .iaload, 1, [], []), (84, .iconst 1, 1, [], []), (85, .isub, 1, [], []), (86, .istore 6, 2, [], []), (88, .iload 6, 2, [], []), (90, .ifCond .lt 40, 3, [130], []), (93, .iload_n 1, 1, [], []), (94, .iload 6, 2, [], []), (96, .ishr, 1, [], []), (97, .iconst 1, 1, [], []), (98, .iand, 1, [], []), (99, .ifCond .ne 6, 3, [105], []), (102, .goto 22, 3, [124], []), (105, .aload_n 0, 1, [], []), (106, .getfield 105, 3, [11, 43, 3, 81, 0, 1333], []), (109, .iconst 4, 1, [], []), (110, .iload 6, 2, [], []), (112, .iadd, 1, [], []), (113, .iload 5, 2, [], []), (115, .iconst 5, 1, [], []), (116, .irem, 1, [], []), (117, .iastore, 1, [], []), (118, .iload 5, 2, [], []), (120, .iconst 5, 1, [], []), (121, .idiv, 1, [], []), (122, .istore 5, 2, [], []), (124, .iinc 6 (-1), 3, [], []), (127, .goto (-39), 3, [88], []), (130, .iload_n 2, 1, [], []), (131, .ifCond .ne 10, 3, [141], []), (134, .aload_n 0, 1, [], []), (135, .invokevirtual 434, 3, [1, 211, 1, 1783, 0, 11], []), (138, .goto 8, 3, [146], []), (141, .aload_n 0, 1, [], []), (142, .iload_n 2, 1, [], []), (143, .invokevirtual 469, 3, [1, 236, 2, 1840, 0, 11], []), (146, .istore 6, 2, [], []), (148, .iload 6, 2, [], []), (150, .aload_n 0, 1, [], []), (151, .getfield 463, 3, [11, 54, 0, 0, 0, 1344], []), (154, .if_icmp .gt 6, 3, [160], []), (157, .goto 15, 3, [172], []), (160, .aload_n 0, 1, [], []), (161, .iload 6, 2, [], []), (163, .putfield 463, 3, [11, 54, 0, 0, 0, 1344], []), (166, .aload_n 0, 1, [], []), (167, .iload 4, 2, [], []), (169, .putfield 466, 3, [11, 55, 0, 0, 0, 1345], []), (172, .iinc 4 1, 3, [], []), (175, .goto (-107), 3, [68], []), (178, .aload_n 0, 1, [], []), (179, .getfield 111, 3, [11, 45, 3, 83, 0, 1335], []), (182, .iconst 0, 1, [], []), (183, .aload_n 0, 1, [], []), (184, .getfield 105, 3, [11, 43, 3, 81, 0, 1333], []), (187, .iconst 0, 1, [], []), (188, .invokestatic 440, 3, [0, 186, 4, 1752, 0], []), (191, .return_, 1, [], [])]
def tb_X13_ownedBy : ZT := [(0, .iconst 0, 1, [], []), (1, .istore_n 2, 1, [], []), (2, .iconst 0, 1, [], []), (3, .istore_n 3, 1, [], []), (4, .iload_n 3, 1, [], []), (5, .aload_n 0, 1, [], []), (6, .getfield 13, 3, [11, 10, 3, 51, 0, 1300], []), (9, .iconst 0, 1, [], []), (10, .iaload, 1, [], []), (11, .if_icmp .ge 33, 3, [44], []), (14, .iload_n 2, 1, [], []), (15, .iload_n 1, 1, [], []), (16, .ifCond .eq 13, 3, [29], []), (19, .aload_n 0, 1, [], []), (20, .getfield 23, 3, [11, 13, 3, 54, 0, 1303], []), (23, .iload_n 3, 1, [], []), (24, .iaload, 1, [], []), (25, .iload_n 1, 1, [], []), (26, .if_icmp .ne 9, 3, [35], []), (29, .iconst 1, 1, [], []), (30, .iload_n 3, 1, [], []), (31, .ishl, 1, [], []), (32, .goto 4, 3, [36], []), (35, .iconst 0, 1, [], []), (36, .ior, 1, [], []), (37, .istore_n 2, 1, [], []), (38, .iinc 3 1, 3, [], []), (41, .goto (-37), 3, [4], []), (44, .iload_n 2, 1, [], []), (45, .ireturn, 1, [], [])]
def tb_X13_powerBy : ZT := [(0, .aload_n 0, 1, [], []), (1, .invokevirtual 419, 3, [1, 200, 1, 1658, 0, 11], []), (4, .iconst 0, 1, [], []), (5, .istore_n 2, 1, [], []), (6, .iconst 0, 1, [], []), (7, .istore_n 3, 1, [], []), (8, .iload_n 3, 1, [], []), (9, .aload_n 0, 1, [], []), (10, .getfield 13, 3, [11, 10, 3, 51, 0, 1300], []), (13, .iconst 0, 1, [], []), (14, .iaload, 1, [], []), (15, .if_icmp .ge 31, 3, [46], []), (18, .iload_n 2, 1, [], []), (19, .aload_n 0, 1, [], []), (20, .getfield 23, 3, [11, 13, 3, 54, 0, 1303], []), (23, .iload_n 3, 1, [], []), (24, .iaload, 1, [], []), (25, .iload_n 1, 1, [], []), (26, .if_icmp .ne 11, 3, [37], []), (29, .aload_n 0, 1, [], []), (30, .iload_n 3, 1, [], []), (31, .invokevirtual 416, 3, [1, 205, 2, 1697, 0, 11], []), (34, .goto 4, 3, [38], []), (37, .iconst 0, 1, [], []), (38, .iadd, 1, [], []), (39, .istore_n 2, 1, [], []), (40, .iinc 3 1, 3, [], []), (43, .goto (-35), 3, [8], []), (46, .iload_n 2, 1, [], []), (47, .ireturn, 1, [], [])]
def tb_X13_foundOf : ZT := [(0, .aload_n 0, 1, [], []), (1, .getfield 466, 3, [11, 55, 0, 0, 0, 1345], []), (4, .istore_n 3, 1, [], []), (5, .aload_n 0, 1, [], []), (6, .getfield 13, 3, [11, 10, 3, 51, 0, 1300], []), (9, .iconst 0, 1, [], []), (10, .iaload, 1, [], []), (11, .iconst 1, 1, [], []), (12, .isub, 1, [], []), (13, .istore 4, 2, [], []), (15, .iload 4, 2, [], []), (17, .iload_n 2, 1, [], []), (18, .if_icmp .le 27, 3, [45], []), (21, .iload_n 3, 1, [], []), (22, .iload_n 1, 1, [], []), (23, .iload 4, 2, [], []), (25, .ishr, 1, [], []), (26, .iconst 1, 1, [], []), (27, .iand, 1, [], []), (28, .iconst 1, 1, [], []), (29, .if_icmp .ne 7, 3, [36], []), (32, .iconst 5, 1, [], []), (33, .goto 4, 3, [37], []), (36, .iconst 1, 1, [], []), (37, .idiv, 1, [], []), (38, .istore_n 3, 1, [], []), (39, .iinc 4 (-1), 3, [], []), (42, .goto (-27), 3, [15], []), (45, .iload_n 1, 1, [], []), (46, .iload_n 2, 1, [], []), (47, .ishr, 1, [], []), (48, .iconst 1, 1, [], []), (49, .iand, 1, [], []), (50, .iconst 1, 1, [], []), (51, .if_icmp .ne 9, 3, [60], []), (54, .iload_n 3, 1, [], []), (55, .iconst 5, 1, [], []), (56, .irem, 1, [], []), (57, .goto 11, 3, [68], []), (60, .aload_n 0, 1, [], []), (61, .getfield 105, 3, [11, 43, 3, 81, 0, 1333], []), (64, .iconst 4, 1, [], []), (65, .iload_n 2, 1, [], []), (66, .iadd, 1, [], []), (67, .iaload, 1, [], []), (68, .ireturn, 1, [], [])]
def tb_X13_best : ZT := [(0, .aload_n 0, 1, [], []), (1, .iconst 0, 1, [], []), (2, .putfield 145, 3, [11, 0, 0, 0, 0, 1290], []), (5, .iload_n 1, 1, [], []), (6, .iconst (-1), 1, [], []), (7, .if_icmp .eq 15, 3, [22], []), (10, .aload_n 0, 1, [], []), (11, .iload_n 1, 1, [], []), (12, .invokevirtual 437, 3, [1, 193, 2, 1642, 0, 11], []), (15, .ifCond .ne 7, 3, [22], []), (18, .ldc_w 456, 3, [1799], [(-1000000)]), (21, .ireturn, 1, [], []), (22, .aload_n 0, 1, [], []), (23, .aload_n 0, 1, [], []), (24, .iconst 0, 1, [], []), (25, .invokevirtual 471, 3, [1, 235, 2, 1832, 0, 11], []), (28, .iconst 0, 1, [], []), (29, .invokevirtual 474, 3, [1, 234, 3, 1836, 0, 11], []), (32, .iload_n 1, 1, [], []), (33, .iconst (-1), 1, [], []), (34, .if_icmp .ne 10, 3, [44], []), (37, .aload_n 0, 1, [], []), (38, .getfield 463, 3, [11, 54, 0, 0, 0, 1344], []), (41, .goto 13, 3, [54], []), (44, .aload_n 0, 1, [], []), (45, .aload_n 0, 1, [], []), (46, .iconst 0, 1, [], []), (47, .invokevirtual 471, 3, [1, 235, 2, 1832, 0, 11], []), (50, .iload_n 1, 1, [], []), (51, .invokevirtual 477, 3, [1, 237, 3, 1844, 0, 11], []), (54, .ireturn, 1, [], [])]
def tb_X13_alone : ZT := [(0, .aload_n 0, 1, [], []), (1, .iconst 0, 1, [], []), (2, .putfield 145, 3, [11, 0, 0, 0, 0, 1290], []), (5, .iload_n 1, 1, [], []), (6, .iconst 1, 1, [], []), (7, .iconst 2, 1, [], []), (8, .invokestatic 277, 3, [0, 151, 3, 1560, 0], []), (11, .ifCond .eq 16, 3, [27], []), (14, .iload_n 2, 1, [], []), (15, .iconst (-1), 1, [], []), (16, .if_icmp .eq 14, 3, [30], []), (19, .aload_n 0, 1, [], []), (20, .iload_n 2, 1, [], []), (21, .invokevirtual 437, 3, [1, 193, 2, 1642, 0, 11], []), (24, .ifCond .ne 6, 3, [30], []), (27, .bipush (-2), 2, [], []), (29, .ireturn, 1, [], []), (30, .aload_n 0, 1, [], []), (31, .aload_n 0, 1, [], []), (32, .iload_n 1, 1, [], []), (33, .invokevirtual 471, 3, [1, 235, 2, 1832, 0, 11], []), (36, .iload_n 1, 1, [], []), (37, .invokevirtual 474, 3, [1, 234, 3, 1836, 0, 11], []), (40, .iload_n 2, 1, [], []), (41, .iconst (-1), 1, [], []), (42, .if_icmp .ne 10, 3, [52], []), (45, .aload_n 0, 1, [], []), (46, .getfield 463, 3, [11, 54, 0, 0, 0, 1344], []), (49, .goto 13, 3, [62], []), (52, .aload_n 0, 1, [], []), (53, .aload_n 0, 1, [], []), (54, .iload_n 1, 1, [], []), (55, .invokevirtual 471, 3, [1, 235, 2, 1832, 0, 11], []), (58, .iload_n 2, 1, [], []), (59, .invokevirtual 477, 3, [1, 237, 3, 1844, 0, 11], []), (62, .ireturn, 1, [], [])]
def tb_X13_idle : ZT := [(0, .aload_n 0, 1, [], []), (1, .iconst 0, 1, [], []), (2, .putfield 145, 3, [11, 0, 0, 0, 0, 1290], []), (5, .iconst 1, 1, [], []), (6, .aload_n 0, 1, [], []), (7, .getfield 13, 3, [11, 10, 3, 51, 0, 1300], []), (10, .iconst 0, 1, [], []), (11, .iaload, 1, [], []), (12, .ishl, 1, [], []), (13, .iconst 1, 1, [], []), (14, .isub, 1, [], []), (15, .aload_n 0, 1, [], []), (16, .getfield 105, 3, [11, 43, 3, 81, 0, 1333], []), (19, .iconst 3, 1, [], []), (20, .iaload, 1, [], []), (21, .iconst (-1), 1, [], []), (22, .ixor, 1, [], []), (23, .iand, 1, [], []), (24, .istore_n 1, 1, [], []), (25, .aload_n 0, 1, [], []), (26, .getfield 105, 3, [11, 43, 3, 81, 0, 1333], []), (29, .iconst 2, 1, [], []), (30, .iaload, 1, [], []), (31, .istore_n 2, 1, [], []), (32, .iconst 0, 1, [], []), (33, .istore_n 3, 1, [], []), (34, .ldc_w 456, 3, [1799], [(-1000000)]), (37, .istore 4, 2, [], []), (39, .iconst 0, 1, [], []), (40, .istore 5, 2, [], []), (42, .iload 5, 2, [], []), (44, .iload_n 1, 1, [], []), (45, .if_icmp .gt 58, 3, [103], []), (48, .iload 5, 2, [], []), (50, .iload_n 1, 1, [], []), (51, .iconst (-1), 1, [], []), (52, .ixor, 1, [], []), (53, .iand, 1, [], []), (54, .ifCond .eq 6, 3, [60], []), (57, .goto 40, 3, [97], []), (60, .aload_n 0, 1, [], []), (61, .getfield 105, 3, [11, 43, 3, 81, 0, 1333], []), (64, .iconst 2, 1, [], []), (65, .iload_n 2, 1, [], []), (66, .iload_n 1, 1, [], []), (67, .iconst (-1), 1, [], []), (68, .ixor, 1, [], []), (69, .iand, 1, [], []), (70, .iload 5, 2, [], []), (72, .ior, 1, [], []), (73, .iastore, 1, [], []), (74, .aload_n 0, 1, [], []), (75, .invokevirtual 434, 3, [1, 211, 1, 1783, 0, 11], []), (78, .istore 6, 2, [], []), (80, .iload 6, 2, [], []), (82, .iload 4, 2, [], []), (84, .if_icmp .gt 6, 3, [90], []), (87, .goto 10, 3, [97], []), (90, .iload 6, 2, [], []), (92, .istore 4, 2, [], []), (94, .iload 5, 2, [], []), (96, .istore_n 3, 1, [], []), (97, .iinc 5 1, 3, [], []), (100, .goto (-58), 3, [42], []), (103, .aload_n 0, 1, [], []), (104, .getfield 105, 3, [11, 43, 3, 81, 0, 1333], []), (107, .iconst 2, 1, [], []), (108, .iload_n 2, 1, [], []), (109, .iastore, 1, [], []), (110, .iload_n 3, 1, [], []), (111, .ireturn, 1, [], [])]
def tb_X13_straight : ZT := [(0, .aload_n 0, 1, [], []), (1, .iconst 0, 1, [], []), (2, .putfield 145, 3, [11, 0, 0, 0, 0, 1290], []), (5, .aload_n 0, 1, [], []), (6, .invokevirtual 434, 3, [1, 211, 1, 1783, 0, 11], []), (9, .istore_n 1, 1, [], []), (10, .aload_n 0, 1, [], []), (11, .getfield 105, 3, [11, 43, 3, 81, 0, 1333], []), (14, .iconst 0, 1, [], []), (15, .aload_n 0, 1, [], []), (16, .getfield 111, 3, [11, 45, 3, 83, 0, 1335], []), (19, .iconst 0, 1, [], []), (20, .invokestatic 440, 3, [0, 186, 4, 1752, 0], []), (23, .iconst 0, 1, [], []), (24, .istore_n 2, 1, [], []), (25, .iload_n 2, 1, [], []), (26, .bipush 6, 2, [], []), (28, .if_icmp .ge 18, 3, [46], []), (31, .aload_n 0, 1, [], []), (32, .getfield 105, 3, [11, 43, 3, 81, 0, 1333], []), (35, .iconst 4, 1, [], []), (36, .iload_n 2, 1, [], []), (37, .iadd, 1, [], []), (38, .iconst 2, 1, [], []), (39, .iastore, 1, [], []), (40, .iinc 2 1, 3, [], []), (43, .goto (-18), 3, [25], []), (46, .aload_n 0, 1, [], []), (47, .invokevirtual 434, 3, [1, 211, 1, 1783, 0, 11], []), (50, .istore_n 2, 1, [], []), (51, .aload_n 0, 1, [], []), (52, .getfield 111, 3, [11, 45, 3, 83, 0, 1335], []), (55, .iconst 0, 1, [], []), (56, .aload_n 0, 1, [], []), (57, .getfield 105, 3, [11, 43, 3, 81, 0, 1333], []), (60, .iconst 0, 1, [], []), (61, .invokestatic 440, 3, [0, 186, 4, 1752, 0], []), (64, .iload_n 2, 1, [], []), (65, .iload_n 1, 1, [], []), (66, .isub, 1, [], []), (67, .ireturn, 1, [], [])]
def tb_X13_full : ZT := [(0, .aload_n 0, 1, [], []), (1, .iconst 0, 1, [], []), (2, .putfield 145, 3, [11, 0, 0, 0, 0, 1290], []), (5, .aload_n 0, 1, [], []), (6, .invokevirtual 428, 3, [1, 209, 1, 1724, 0, 11], []), (9, .pop, 1, [], []), (10, .iconst 0, 1, [], []), (11, .istore_n 1, 1, [], []), (12, .iconst 0, 1, [], []), (13, .istore_n 2, 1, [], []), (14, .iload_n 2, 1, [], []), (15, .aload_n 0, 1, [], []), (16, .getfield 13, 3, [11, 10, 3, 51, 0, 1300], []), (19, .iconst 0, 1, [], []), (20, .iaload, 1, [], []), (21, .if_icmp .ge 43, 3, [64], []), (24, .iload_n 1, 1, [], []), (25, .aload_n 0, 1, [], []), (26, .getfield 29, 3, [11, 15, 3, 56, 0, 1305], []), (29, .iload_n 2, 1, [], []), (30, .iaload, 1, [], []), (31, .ifCond .lt 24, 3, [55], []), (34, .aload_n 0, 1, [], []), (35, .getfield 126, 3, [11, 53, 3, 88, 0, 1343], []), (38, .iload_n 2, 1, [], []), (39, .iaload, 1, [], []), (40, .aload_n 0, 1, [], []), (41, .getfield 32, 3, [11, 16, 3, 57, 0, 1306], []), (44, .iload_n 2, 1, [], []), (45, .iaload, 1, [], []), (46, .if_icmp .ne 9, 3, [55], []), (49, .iconst 1, 1, [], []), (50, .iload_n 2, 1, [], []), (51, .ishl, 1, [], []), (52, .goto 4, 3, [56], []), (55, .iconst 0, 1, [], []), (56, .ior, 1, [], []), (57, .istore_n 1, 1, [], []), (58, .iinc 2 1, 3, [], []), (61, .goto (-47), 3, [14], []), (64, .iload_n 1, 1, [], []), (65, .ireturn, 1, [], [])]
def tb_X13_dear : ZT := [(0, .aload_n 0, 1, [], []), (1, .iconst 0, 1, [], []), (2, .putfield 145, 3, [11, 0, 0, 0, 0, 1290], []), (5, .aload_n 0, 1, [], []), (6, .invokevirtual 428, 3, [1, 209, 1, 1724, 0, 11], []), (9, .pop, 1, [], []), (10, .iconst (-1), 1, [], []), (11, .istore_n 1, 1, [], []), (12, .iconst 0, 1, [], []), (13, .istore_n 2, 1, [], []), (14, .iconst 0, 1, [], []), (15, .istore_n 3, 1, [], []), (16, .iload_n 3, 1, [], []), (17, .aload_n 0, 1, [], []), (18, .getfield 13, 3, [11, 10, 3, 51, 0, 1300], []), (21, .iconst 0, 1, [], []), (22, .iaload, 1, [], []), (23, .if_icmp .ge 46, 3, [69], []), (26, .aload_n 0, 1, [], []), (27, .getfield 29, 3, [11, 15, 3, 56, 0, 1305], []), (30, .iload_n 3, 1, [], []), (31, .iaload, 1, [], []), (32, .ifCond .ge 6, 3, [38], []), (35, .goto 28, 3, [63], []), (38, .aload_n 0, 1, [], []), (39, .iload_n 3, 1, [], []), (40, .invokevirtual 425, 3, [1, 207, 2, 1732, 0, 11], []), (43, .istore 4, 2, [], []), (45, .iload_n 1, 1, [], []), (46, .ifCond .lt 12, 3, [58], []), (49, .iload 4, 2, [], []), (51, .iload_n 2, 1, [], []), (52, .if_icmp .lt 6, 3, [58], []), (55, .goto 8, 3, [63], []), (58, .iload_n 3, 1, [], []), (59, .istore_n 1, 1, [], []), (60, .iload 4, 2, [], []), (62, .istore_n 2, 1, [], []), (63, .iinc 3 1, 3, [], []), (66, .goto (-50), 3, [16], []), (69, .iload_n 1, 1, [], []), (70, .ireturn, 1, [], [])]
def tb_X13_fault : ZT := [(0, .aload_n 0, 1, [], []), (1, .iconst 0, 1, [], []), (2, .putfield 145, 3, [11, 0, 0, 0, 0, 1290], []), (5, .aload_n 0, 1, [], []), (6, .iload_n 1, 1, [], []), (7, .invokevirtual 437, 3, [1, 193, 2, 1642, 0, 11], []), (10, .ifCond .eq 12, 3, [22], []), (13, .aload_n 0, 1, [], []), (14, .getfield 29, 3, [11, 15, 3, 56, 0, 1305], []), (17, .iload_n 1, 1, [], []), (18, .iaload, 1, [], []), (19, .ifCond .ge 5, 3, [24], []), (22, .iconst (-1), 1, [], []), (23, .ireturn, 1, [], []), (24, .aload_n 0, 1, [], []), (25, .invokevirtual 428, 3, [1, 209, 1, 1724, 0, 11], []), (28, .pop, 1, [], []), (29, .aload_n 0, 1, [], []), (30, .iload_n 1, 1, [], []), (31, .invokevirtual 425, 3, [1, 207, 2, 1732, 0, 11], []), (34, .ireturn, 1, [], [])]
def tb_X13_hops : ZT := [(0, .aload_n 0, 1, [], []), (1, .iconst 0, 1, [], []), (2, .putfield 145, 3, [11, 0, 0, 0, 0, 1290], []), (5, .aload_n 0, 1, [], []), (6, .iload_n 1, 1, [], []), (7, .invokevirtual 437, 3, [1, 193, 2, 1642, 0, 11], []), (10, .ifCond .eq 11, 3, [21], []), (13, .aload_n 0, 1, [], []), (14, .iload_n 1, 1, [], []), (15, .invokevirtual 413, 3, [1, 206, 2, 1736, 0, 11], []), (18, .goto 4, 3, [22], []), (21, .iconst (-1), 1, [], []), (22, .ireturn, 1, [], [])]
def tb_X13_windsOf : ZT := [(0, .iconst 0, 1, [], []), (1, .istore_n 2, 1, [], []), (2, .iconst 0, 1, [], []), (3, .istore_n 3, 1, [], []), (4, .iload_n 3, 1, [], []), (5, .aload_n 0, 1, [], []), (6, .getfield 13, 3, [11, 10, 3, 51, 0, 1300], []), (9, .iconst 0, 1, [], []), (10, .iaload, 1, [], []), (11, .if_icmp .ge 39, 3, [50], []), (14, .iload_n 2, 1, [], []), (15, .aload_n 0, 1, [], []), (16, .getfield 23, 3, [11, 13, 3, 54, 0, 1303], []), (19, .iload_n 3, 1, [], []), (20, .iaload, 1, [], []), (21, .iload_n 1, 1, [], []), (22, .if_icmp .ne 19, 3, [41], []), (25, .aload_n 0, 1, [], []), (26, .iload_n 3, 1, [], []), (27, .invokevirtual 385, 3, [1, 198, 2, 1678, 0, 11], []), (30, .ifCond .eq 11, 3, [41], []), (33, .aload_n 0, 1, [], []), (34, .iload_n 3, 1, [], []), (35, .invokevirtual 403, 3, [1, 204, 2, 1666, 0, 11], []), (38, .goto 4, 3, [42], []), (41, .iconst 0, 1, [], []), (42, .iadd, 1, [], []), (43, .istore_n 2, 1, [], []), (44, .iinc 3 1, 3, [], []), (47, .goto (-43), 3, [4], []), (50, .iload_n 2, 1, [], []), (51, .ireturn, 1, [], [])]
def tb_X13_robbed : ZT := [(0, .aload_n 0, 1, [], []), (1, .iconst 0, 1, [], []), (2, .putfield 145, 3, [11, 0, 0, 0, 0, 1290], []), (5, .iload_n 1, 1, [], []), (6, .iconst 1, 1, [], []), (7, .iconst 2, 1, [], []), (8, .invokestatic 277, 3, [0, 151, 3, 1560, 0], []), (11, .ifCond .ne 5, 3, [16], []), (14, .iconst (-1), 1, [], []), (15, .ireturn, 1, [], []), (16, .aload_n 0, 1, [], []), (17, .invokevirtual 419, 3, [1, 200, 1, 1658, 0, 11], []), (20, .aload_n 0, 1, [], []), (21, .iload_n 1, 1, [], []), (22, .invokevirtual 480, 3, [1, 246, 2, 1880, 0, 11], []), (25, .istore_n 2, 1, [], []), (26, .aload_n 0, 1, [], []), (27, .getfield 105, 3, [11, 43, 3, 81, 0, 1333], []), (30, .iconst 2, 1, [], []), (31, .iaload, 1, [], []), (32, .istore_n 3, 1, [], []), (33, .aload_n 0, 1, [], []), (34, .getfield 105, 3, [11, 43, 3, 81, 0, 1333], []), (37, .iconst 2, 1, [], []), (38, .dup2, 1, [], []), (39, .iaload, 1, [], []), (40, .aload_n 0, 1, [], []), (41, .iconst 3, 1, [], []), (42, .iload_n 1, 1, [], []), (43, .isub, 1, [], []), (44, .invokevirtual 471, 3, [1, 235, 2, 1832, 0, 11], []), (47, .ior, 1, [], []), (48, .iastore, 1, [], []), (49, .aload_n 0, 1, [], []), (50, .iload_n 1, 1, [], []), (51, .invokevirtual 480, 3, [1, 246, 2, 1880, 0, 11], []), (54, .istore 4, 2, [], []), (56, .aload_n 0, 1, [], []), (57, .getfield 105, 3, [11, 43, 3, 81, 0, 1333], []), (60, .iconst 2, 1, [], []), (61, .iload_n 3, 1, [], []), (62, .iastore, 1, [], []), (63, .iload 4, 2, [], []), (65, .iload_n 2, 1, [], []), (66, .isub, 1, [], []), (67, .ireturn, 1, [], [])]
def tb_X13_front : ZT := [(0, .aload_n 0, 1, [], []), (1, .iconst 0, 1, [], []), (2, .putfield 145, 3, [11, 0, 0, 0, 0, 1290], []), (5, .aload_n 0, 1, [], []), (6, .invokevirtual 419, 3, [1, 200, 1, 1658, 0, 11], []), (9, .iconst 0, 1, [], []), (10, .istore_n 1, 1, [], []), (11, .iconst 0, 1, [], []), (12, .istore_n 2, 1, [], []), (13, .iload_n 2, 1, [], []), (14, .aload_n 0, 1, [], []), (15, .getfield 13, 3, [11, 10, 3, 51, 0, 1300], []), (18, .iconst 0, 1, [], []), (19, .iaload, 1, [], []), (20, .if_icmp .ge 27, 3, [47], []), (23, .iload_n 1, 1, [], []), (24, .aload_n 0, 1, [], []), (25, .iload_n 2, 1, [], []), (26, .invokevirtual 400, 3, [1, 203, 2, 1670, 0, 11], []), (29, .ifCond .ne 9, 3, [38], []), (32, .iconst 1, 1, [], []), (33, .iload_n 2, 1, [], []), (34, .ishl, 1, [], []), (35, .goto 4, 3, [39], []), (38, .iconst 0, 1, [], []), (39, .ior, 1, [], []), (40, .istore_n 1, 1, [], []), (41, .iinc 2 1, 3, [], []), (44, .goto (-31), 3, [13], []), (47, .iload_n 1, 1, [], []), (48, .ireturn, 1, [], [])]
def tb_X13_shade : ZT := [(0, .aload_n 0, 1, [], []), (1, .iconst 0, 1, [], []), (2, .putfield 145, 3, [11, 0, 0, 0, 0, 1290], []), (5, .aload_n 0, 1, [], []), (6, .iload_n 1, 1, [], []), (7, .invokevirtual 437, 3, [1, 193, 2, 1642, 0, 11], []), (10, .ifCond .ne 5, 3, [15], []), (13, .iconst (-1), 1, [], []), (14, .ireturn, 1, [], []), (15, .aload_n 0, 1, [], []), (16, .invokevirtual 419, 3, [1, 200, 1, 1658, 0, 11], []), (19, .iconst 0, 1, [], []), (20, .istore_n 2, 1, [], []), (21, .iconst 0, 1, [], []), (22, .istore_n 3, 1, [], []), (23, .iload_n 3, 1, [], []), (24, .aload_n 0, 1, [], []), (25, .getfield 13, 3, [11, 10, 3, 51, 0, 1300], []), (28, .iconst 0, 1, [], []), (29, .iaload, 1, [], []), (30, .if_icmp .ge 28, 3, [58], []), (33, .iload_n 2, 1, [], []), (34, .aload_n 0, 1, [], []), (35, .iload_n 1, 1, [], []), (36, .iload_n 3, 1, [], []), (37, .invokevirtual 394, 3, [1, 202, 3, 1674, 0, 11], []), (40, .ifCond .le 9, 3, [49], []), (43, .iconst 1, 1, [], []), (44, .iload_n 3, 1, [], []), (45, .ishl, 1, [], []), (46, .goto 4, 3, [50], []), (49, .iconst 0, 1, [], []), (50, .ior, 1, [], []), (51, .istore_n 2, 1, [], []), (52, .iinc 3 1, 3, [], []), (55, .goto (-32), 3, [23], []), (58, .iload_n 2, 1, [], []), (59, .ireturn, 1, [], [])]
def tb_X13_laysWinds : ZT := [(0, .iconst 0, 1, [], []), (1, .istore_n 1, 1, [], []), (2, .iconst 0, 1, [], []), (3, .istore_n 2, 1, [], []), (4, .iload_n 2, 1, [], []), (5, .bipush 124, 2, [], []), (7, .if_icmp .ge 144, 3, [151], []), (10, .aload_n 0, 1, [], []), (11, .iload_n 2, 1, [], []), (12, .iconst 4, 1, [], []), (13, .idiv, 1, [], []), (14, .putfield 376, 3, [11, 50, 0, 0, 0, 1340], []), (17, .aload_n 0, 1, [], []), (18, .iload_n 2, 1, [], []), (19, .iconst 4, 1, [], []), (20, .irem, 1, [], []), (21, .putfield 379, 3, [11, 51, 0, 0, 0, 1341], []), (24, .aload_n 0, 1, [], []), (25, .getfield 132, 3, [11, 57, 3, 90, 0, 1347], []), (28, .iload_n 2, 1, [], []), (29, .iconst 1, 1, [], []), (30, .bastore, 1, [], []), (31, .iconst 0, 1, [], []), (32, .istore_n 3, 1, [], []), (33, .iload_n 3, 1, [], []), (34, .aload_n 0, 1, [], []), (35, .getfield 13, 3, [11, 10, 3, 51, 0, 1300], []), (38, .iconst 0, 1, [], []), (39, .iaload, 1, [], []), (40, .if_icmp .ge 25, 3, [65], []), (43, .aload_n 0, 1, [], []), (44, .getfield 129, 3, [11, 56, 3, 89, 0, 1346], []), (47, .bipush 6, 2, [], []), (49, .iload_n 2, 1, [], []), (50, .imul, 1, [], []), (51, .iload_n 3, 1, [], []), (52, .iadd, 1, [], []), (53, .aload_n 0, 1, [], []), (54, .iload_n 3, 1, [], []), (55, .invokevirtual 416, 3, [1, 205, 2, 1697, 0, 11], []), (58, .iastore, 1, [], []), (59, .iinc 3 1, 3, [], []), (62, .goto (-29), 3, [33], []), (65, .iconst 0, 1, [], []), (66, .istore_n 3, 1, [], []), (67, .iload_n 3, 1, [], []), (68, .aload_n 0, 1, [], []), (69, .getfield 96, 3, [11, 40, 3, 78, 0, 1330], []), (72, .iconst 0, 1, [], []), (73, .iaload, 1, [], []), (74, .if_icmp .ge 54, 3, [128], []), (77, .aload_n 0, 1, [], []), (78, .getfield 132, 3, [11, 57, 3, 90, 0, 1347], []), (81, .iload_n 2, 1, [], []), (82, .aload_n 0, 1, [], []), (83, .getfield 132, 3, [11, 57, 3, 90, 0, 1347], []), (86, .iload_n 2, 1, [], []), (87, .baload, 1, [], []), (88, .ifCond .eq 32, 3, [120], []), (91, .aload_n 0, 1, [], []), (92, .getfield 129, 3, [11, 56, 3, 89, 0, 1346], []), (95, .bipush 6, 2, [], []), (97, .iload_n 2, 1, [], []), (98, .imul, 1, [], []), (99, .aload_n 0, 1, [], []), (100, .getfield 99, 3, [11, 41, 3, 79, 0, 1331], []), (103, .iload_n 3, 1, [], []), (104, .iaload, 1, [], []), (105, .iadd, 1, [], []), (106, .iaload, 1, [], []), (107, .aload_n 0, 1, [], []), (108, .getfield 102, 3, [11, 42, 3, 80, 0, 1332], []), (111, .iload_n 3, 1, [], []), (112, .iaload, 1, [], []), (113, .if_icmp .ne 7, 3, [120], []), (116, .iconst 1, 1, [], []), (117, .goto 4, 3, [121], []), (120, .iconst 0, 1, [], []), (121, .bastore, 1, [], []), (122, .iinc 3 1, 3, [], []), (125, .goto (-58), 3, [67], []), (128, .iload_n 1, 1, [], []), (129, .aload_n 0, 1, [], []), (130, .getfield 132, 3, [11, 57, 3, 90, 0, 1347], []), (133, .iload_n 2, 1, [], []), (134, .baload, 1, [], []), (135, .ifCond .eq 7, 3, [142], []), (138, .iconst 1, 1, [], []), (139, .goto 4, 3, [143], []), (142, .iconst 0, 1, [], []), (143, .iadd, 1, [], []), (144, .istore_n 1, 1, [], []), (145, .iinc 2 1, 3, [], []), (148, .goto (-144), 3, [4], []), (151, .iload_n 1, 1, [], []), (152, .ireturn, 1, [], [])]
def tb_X13_see : ZT := [(0, .aload_n 0, 1, [], []), (1, .iconst 0, 1, [], []), (2, .putfield 145, 3, [11, 0, 0, 0, 0, 1290], []), (5, .aload_n 0, 1, [], []), (6, .iload_n 1, 1, [], []), (7, .invokevirtual 437, 3, [1, 193, 2, 1642, 0, 11], []), (10, .ifCond .eq 24, 3, [34], []), (13, .iload_n 2, 1, [], []), (14, .iconst 0, 1, [], []), (15, .bipush 99, 2, [], []), (17, .invokestatic 277, 3, [0, 151, 3, 1560, 0], []), (20, .ifCond .eq 14, 3, [34], []), (23, .aload_n 0, 1, [], []), (24, .getfield 96, 3, [11, 40, 3, 78, 0, 1330], []), (27, .iconst 0, 1, [], []), (28, .iaload, 1, [], []), (29, .bipush 8, 2, [], []), (31, .if_icmp .ne 5, 3, [36], []), (34, .iconst 0, 1, [], []), (35, .ireturn, 1, [1], []), (36, .aload_n 0, 1, [], []), (37, .getfield 99, 3, [11, 41, 3, 79, 0, 1331], []), (40, .aload_n 0, 1, [], []), (41, .getfield 96, 3, [11, 40, 3, 78, 0, 1330], []), (44, .iconst 0, 1, [], []), (45, .iaload, 1, [], []), (46, .iload_n 1, 1, [], []), (47, .iastore, 1, [], []), (48, .aload_n 0, 1, [], []), (49, .getfield 102, 3, [11, 42, 3, 80, 0, 1332], []), (52, .aload_n 0, 1, [], []), (53, .getfield 96, 3, [11, 40, 3, 78, 0, 1330], []), (56, .iconst 0, 1, [], []), (57, .iaload, 1, [], []), (58, .iload_n 2, 1, [], []), (59, .iastore, 1, [], []), (60, .aload_n 0, 1, [], []), (61, .getfield 96, 3, [11, 40, 3, 78, 0, 1330], []), (64, .iconst 0, 1, [], []), (65, .dup2, 1, [], []), (66, .iaload, 1, [], []), (67, .iconst 1, 1, [], []), (68, .iadd, 1, [], []), (69, .iastore, 1, [], []), (70, .iconst 1, 1, [], []), (71, .ireturn, 1, [1], [])]
def tb_X13_winds : ZT := [(0, .aload_n 0, 1, [], []), (1, .iconst 0, 1, [], []), (2, .putfield 145, 3, [11, 0, 0, 0, 0, 1290], []), (5, .iload_n 1, 1, [], []), (6, .iconst 0, 1, [], []), (7, .iconst 3, 1, [], []), (8, .invokestatic 277, 3, [0, 151, 3, 1560, 0], []), (11, .ifCond .ne 5, 3, [16], []), (14, .iconst (-1), 1, [], []), (15, .ireturn, 1, [], []), (16, .aload_n 0, 1, [], []), (17, .invokevirtual 483, 3, [1, 250, 1, 1900, 0, 11], []), (20, .istore_n 2, 1, [], []), (21, .iconst (-1), 1, [], []), (22, .istore_n 3, 1, [], []), (23, .iconst (-1), 1, [], []), (24, .istore 4, 2, [], []), (26, .iconst 0, 1, [], []), (27, .istore 5, 2, [], []), (29, .iconst 0, 1, [], []), (30, .istore 6, 2, [], []), (32, .iload 6, 2, [], []), (34, .bipush 124, 2, [], []), (36, .if_icmp .ge 48, 3, [84], []), (39, .aload_n 0, 1, [], []), (40, .getfield 132, 3, [11, 57, 3, 90, 0, 1347], []), (43, .iload 6, 2, [], []), (45, .baload, 1, [], []), (46, .ifCond .ne 6, 3, [52], []), (49, .goto 29, 3, [78], []), (52, .iload_n 3, 1, [], []), (53, .ifCond .ge 8, 3, [61], []), (56, .iload 6, 2, [], []), (58, .iconst 4, 1, [], []), (59, .idiv, 1, [], []), (60, .istore_n 3, 1, [], []), (61, .iload 6, 2, [], []), (63, .iconst 4, 1, [], []), (64, .idiv, 1, [], []), (65, .istore 4, 2, [], []), (67, .iload 5, 2, [], []), (69, .iconst 1, 1, [], []), (70, .iload 6, 2, [], []), (72, .iconst 4, 1, [], []), (73, .irem, 1, [], []), (74, .ishl, 1, [], []), (75, .ior, 1, [], []), (76, .istore 5, 2, [], []), (78, .iinc 6 1, 3, [], []), (81, .goto (-49), 3, [32], []), (84, .iload_n 1, 1, [], []), (85, .ifCond .ne 7, 3, [92], []), (88, .iload_n 2, 1, [], []), (89, .goto 24, 3, [113], []), (92, .iload_n 1, 1, [], []), (93, .iconst 1, 1, [], []), (94, .if_icmp .ne 7, 3, [101], []), (97, .iload_n 3, 1, [], []), (98, .goto 15, 3, [113], []), (101, .iload_n 1, 1, [], []), (102, .iconst 2, 1, [], []), (103, .if_icmp .ne 8, 3, [111], []), (106, .iload 4, 2, [], []), (108, .goto 5, 3, [113], []), (111, .iload 5, 2, [], []), (113, .ireturn, 1, [], [])]
def tb_X13_ask : ZT := [(0, .aload_n 0, 1, [], []), (1, .iconst 0, 1, [], []), (2, .putfield 145, 3, [11, 0, 0, 0, 0, 1290], []), (5, .aload_n 0, 1, [], []), (6, .invokevirtual 483, 3, [1, 250, 1, 1900, 0, 11], []), (9, .istore_n 1, 1, [], []), (10, .iconst (-1), 1, [], []), (11, .istore_n 2, 1, [], []), (12, .iconst 0, 1, [], []), (13, .istore_n 3, 1, [], []), (14, .iload_n 3, 1, [], []), (15, .aload_n 0, 1, [], []), (16, .getfield 13, 3, [11, 10, 3, 51, 0, 1300], []), (19, .iconst 0, 1, [], []), (20, .iaload, 1, [], []), (21, .if_icmp .ge 124, 3, [145], []), (24, .iconst 0, 1, [], []), (25, .istore 4, 2, [], []), (27, .iconst 0, 1, [], []), (28, .istore 5, 2, [], []), (30, .iload 5, 2, [], []), (32, .bipush 100, 2, [], []), (34, .if_icmp .ge 17, 3, [51], []), (37, .aload_n 0, 1, [], []), (38, .getfield 135, 3, [11, 58, 3, 91, 0, 1348], []), (41, .iload 5, 2, [], []), (43, .iconst 0, 1, [], []), (44, .iastore, 1, [], []), (45, .iinc 5 1, 3, [], []), (48, .goto (-18), 3, [30], []), (51, .iconst 0, 1, [], []), (52, .istore 5, 2, [], []), (54, .iload 5, 2, [], []), (56, .bipush 124, 2, [], []), (58, .if_icmp .ge 67, 3, [125], []), (61, .aload_n 0, 1, [], []), (62, .getfield 132, 3, [11, 57, 3, 90, 0, 1347], []), (65, .iload 5, 2, [], []), (67, .baload, 1, [], []), (68, .ifCond .ne 6, 3, [74], []), (71, .goto 48, 3, [119], []), (74, .aload_n 0, 1, [], []), (75, .getfield 135, 3, [11, 58, 3, 91, 0, 1348], []), (78, .aload_n 0, 1, [], []), (79, .getfield 129, 3, [11, 56, 3, 89, 0, 1346], []), (82, .bipush 6, 2, [], []), (84, .iload 5, 2, [], []), (86, .imul, 1, [], []), (87, .iload_n 3, 1, [], []), (88, .iadd, 1, [], []), (89, .iaload, 1, [], []), (90, .dup2, 1, [], []), (91, .iaload, 1, [], []), (92, .iconst 1, 1, [], []), (93, .iadd, 1, [], []), (94, .iastore, 1, [], []), (95, .iload 4, 2, [], []), (97, .aload_n 0, 1, [], []), (98, .getfield 135, 3, [11, 58, 3, 91, 0, 1348], []), (101, .aload_n 0, 1, [], []), (102, .getfield 129, 3, [11, 56, 3, 89, 0, 1346], []), (105, .bipush 6, 2, [], []), (107, .iload 5, 2, [], []), (109, .imul, 1, [], []), (110, .iload_n 3, 1, [], []), (111, .iadd, 1, [], []), (112, .iaload, 1, [], []), (113, .iaload, 1, [], []), (114, .invokestatic 391, 3, [6, 0, 2, 1691], []), (117, .istore 4, 2, [], []), (119, .iinc 5 1, 3, [], []), (122, .goto (-68), 3, [54], []), (125, .iload 4, 2, [], []), (127, .iload_n 1, 1, [], []), (128, .if_icmp .lt 6, 3, [134], []), (131, .goto 8, 3, [139], []), (134, .iload 4, 2, [], []), (136, .istore_n 1, 1, [], []), (137, .iload_n 3, 1, [], []), (138, .istore_n 2, 1, [], []), (139, .iinc 3 1, 3, [], []), (142, .goto (-128), 3, [14], []), (145, .iload_n 2, 1, [], []), (146, .ireturn, 1, [], [])]
def tb_X13_chance : ZT := [(0, .aload_n 0, 1, [], []), (1, .iconst 0, 1, [], []), (2, .putfield 145, 3, [11, 0, 0, 0, 0, 1290], []), (5, .aload_n 0, 1, [], []), (6, .iload_n 1, 1, [], []), (7, .invokevirtual 437, 3, [1, 193, 2, 1642, 0, 11], []), (10, .ifCond .eq 23, 3, [33], []), (13, .iload_n 2, 1, [], []), (14, .iconst 1, 1, [], []), (15, .bipush 99, 2, [], []), (17, .invokestatic 277, 3, [0, 151, 3, 1560, 0], []), (20, .ifCond .eq 13, 3, [33], []), (23, .iload_n 3, 1, [], []), (24, .iconst 0, 1, [], []), (25, .bipush 10, 2, [], []), (27, .invokestatic 277, 3, [0, 151, 3, 1560, 0], []), (30, .ifCond .ne 5, 3, [35], []), (33, .iconst (-1), 1, [], []), (34, .ireturn, 1, [], []), (35, .aload_n 0, 1, [], []), (36, .invokevirtual 419, 3, [1, 200, 1, 1658, 0, 11], []), (39, .aload_n 0, 1, [], []), (40, .getfield 376, 3, [11, 50, 0, 0, 0, 1340], []), (43, .istore 4, 2, [], []), (45, .iconst 0, 1, [], []), (46, .istore 5, 2, [], []), (48, .iconst 0, 1, [], []), (49, .istore 6, 2, [], []), (51, .iload 6, 2, [], []), (53, .bipush 8, 2, [], []), (55, .if_icmp .ge 66, 3, [121], []), (58, .aload_n 0, 1, [], []), (59, .iload 6, 2, [], []), (61, .iconst 2, 1, [], []), (62, .idiv, 1, [], []), (63, .putfield 379, 3, [11, 51, 0, 0, 0, 1341], []), (66, .aload_n 0, 1, [], []), (67, .iload 6, 2, [], []), (69, .iconst 2, 1, [], []), (70, .irem, 1, [], []), (71, .ifCond .ne 8, 3, [79], []), (74, .iload 4, 2, [], []), (76, .goto 7, 3, [83], []), (79, .iload 4, 2, [], []), (81, .iconst 2, 1, [], []), (82, .idiv, 1, [], []), (83, .putfield 376, 3, [11, 50, 0, 0, 0, 1340], []), (86, .aload_n 0, 1, [], []), (87, .iload_n 1, 1, [], []), (88, .invokevirtual 416, 3, [1, 205, 2, 1697, 0, 11], []), (91, .iload_n 2, 1, [], []), (92, .if_icmp .lt 23, 3, [115], []), (95, .iload 5, 2, [], []), (97, .iload 6, 2, [], []), (99, .iconst 2, 1, [], []), (100, .irem, 1, [], []), (101, .ifCond .ne 7, 3, [108], []), (104, .iload_n 3, 1, [], []), (105, .goto 7, 3, [112], []), (108, .bipush 10, 2, [], []), (110, .iload_n 3, 1, [], []), (111, .isub, 1, [], []), (112, .iadd, 1, [], []), (113, .istore 5, 2, [], []), (115, .iinc 6 1, 3, [], []), (118, .goto (-67), 3, [51], []), (121, .iload 5, 2, [], []), (123, .sipush 25000, 3, [], []), (126, .imul, 1, [], []), (127, .ireturn, 1, [], [])]
def tb_X13_getsBy : ZT := [(0, .iload_n 3, 1, [], []), (1, .iconst 1, 1, [], []), (2, .if_icmp .ne 18, 3, [20], []), (5, .iload 4, 2, [], []), (7, .iconst 1, 1, [], []), (8, .if_icmp .ne 8, 3, [16], []), (11, .iload_n 0, 1, [], []), (12, .ineg, 1, [], []), (13, .goto 18, 3, [31], []), (16, .iload_n 1, 1, [], []), (17, .goto 14, 3, [31], []), (20, .iload 4, 2, [], []), (22, .iconst 1, 1, [], []), (23, .if_icmp .ne 7, 3, [30], []), (26, .iload_n 2, 1, [], []), (27, .goto 4, 3, [31], []), (30, .iconst 0, 1, [], []), (31, .ireturn, 1, [], [])]
def tb_X13_rests : ZT := [(0, .aload_n 0, 1, [], []), (1, .iload_n 1, 1, [], []), (2, .iconst 0, 1, [], []), (3, .bipush 9, 2, [], []), (5, .invokestatic 277, 3, [0, 151, 3, 1560, 0], []), (8, .ifCond .eq 33, 3, [41], []), (11, .iload_n 2, 1, [], []), (12, .iconst 0, 1, [], []), (13, .bipush 9, 2, [], []), (15, .invokestatic 277, 3, [0, 151, 3, 1560, 0], []), (18, .ifCond .eq 23, 3, [41], []), (21, .iload_n 3, 1, [], []), (22, .iconst 0, 1, [], []), (23, .bipush 9, 2, [], []), (25, .invokestatic 277, 3, [0, 151, 3, 1560, 0], []), (28, .ifCond .eq 13, 3, [41], []), (31, .iload 4, 2, [], []), (33, .iconst (-1), 1, [], []), (34, .if_icmp .lt 7, 3, [41], []), (37, .iconst 0, 1, [], []), (38, .goto 4, 3, [42], []), (41, .iconst 1, 1, [], []), (42, .putfield 145, 3, [11, 0, 0, 0, 0, 1290], []), (45, .aload_n 0, 1, [], []), (46, .getfield 145, 3, [11, 0, 0, 0, 0, 1290], []), (49, .iconst 1, 1, [], []), (50, .if_icmp .ne 5, 3, [55], []), (53, .iconst 0, 1, [], []), (54, .ireturn, 1, [], []), (55, .iconst 0, 1, [], []), (56, .istore 5, 2, [], []), (58, .iconst 0, 1, [], []), (59, .istore 6, 2, [], []), (61, .iload 6, 2, [], []), (63, .iconst 4, 1, [], []), (64, .if_icmp .ge 87, 3, [151], []), (67, .iload 6, 2, [], []), (69, .iconst 2, 1, [], []), (70, .idiv, 1, [], []), (71, .istore 7, 2, [], []), (73, .iload 6, 2, [], []), (75, .iconst 2, 1, [], []), (76, .irem, 1, [], []), (77, .istore 8, 2, [], []), (79, .iload_n 1, 1, [], []), (80, .iload_n 2, 1, [], []), (81, .iload_n 3, 1, [], []), (82, .iconst 1, 1, [], []), (83, .iload 7, 2, [], []), (85, .isub, 1, [], []), (86, .iload 8, 2, [], []), (88, .invokestatic 486, 3, [0, 255, 5, 1916, 0], []), (91, .iload_n 1, 1, [], []), (92, .iload_n 2, 1, [], []), (93, .iload_n 3, 1, [], []), (94, .iload 7, 2, [], []), (96, .iload 8, 2, [], []), (98, .invokestatic 486, 3, [0, 255, 5, 1916, 0], []), (101, .if_icmp .gt 44, 3, [145], []), (104, .iload_n 1, 1, [], []), (105, .iload_n 2, 1, [], []), (106, .iload_n 3, 1, [], []), (107, .iconst 1, 1, [], []), (108, .iload 8, 2, [], []), (110, .isub, 1, [], []), (111, .iload 7, 2, [], []), (113, .invokestatic 486, 3, [0, 255, 5, 1916, 0], []), (116, .iload_n 1, 1, [], []), (117, .iload_n 2, 1, [], []), (118, .iload_n 3, 1, [], []), (119, .iload 8, 2, [], []), (121, .iload 7, 2, [], []), (123, .invokestatic 486, 3, [0, 255, 5, 1916, 0], []), (126, .if_icmp .le 6, 3, [132], []), (129, .goto 16, 3, [145], []), (132, .iload 5, 2, [], []), (134, .iload 4, 2, [], []), (136, .if_icmp .ne 6, 3, [142], []), (139, .iload 6, 2, [], []), (141, .ireturn, 1, [], []), (142, .iinc 5 1, 3, [], []), (145, .iinc 6 1, 3, [], []), (148, .goto (-87), 3, [61], []), (151, .aload_n 0, 1, [], []), (152, .iload 4, 2, [], []), (154, .iconst (-1), 1, [], []), (155, .if_icmp .ne 7, 3, [162], []), (158, .iconst 0, 1, [], []), (159, .goto 4, 3, [163], []), (162, .iconst 1, 1, [], []), (163, .putfield 145, 3, [11, 0, 0, 0, 0, 1290], []), (166, .iload 4, 2, [], []), (168, .iconst (-1), 1, [], []), (169, .if_icmp .ne 8, 3, [177], []), (172, .iload 5, 2, [], []), (174, .goto 4, 3, [178], []), (177, .iconst 0, 1, [], []), (178, .ireturn, 1, [], [])]
def tb_X13_draws : ZT := [(0, .aload_n 0, 1, [], []), (1, .aload_n 0, 1, [], []), (2, .getfield 490, 3, [11, 59, 2, 0, 0, 1349], []), (5, .ldc2_w 493, 3, [1931], [1103515245]), (8, .lmul, 1, [], []), (9, .ldc2_w 495, 3, [1932], [12345]), (12, .ladd, 1, [], []), (13, .ldc2_w 497, 3, [1933], [2147483648]), (16, .lrem, 1, [], []), (17, .putfield 490, 3, [11, 59, 2, 0, 0, 1349], []), (20, .aload_n 0, 1, [], []), (21, .getfield 490, 3, [11, 59, 2, 0, 0, 1349], []), (24, .ldc2_w 499, 3, [1934], [65536]), (27, .ldiv, 1, [], []), (28, .iload_n 1, 1, [], []), (29, .i2l, 1, [], []), (30, .lrem, 1, [], []), (31, .l2i, 1, [], []), (32, .ireturn, 1, [], [])]
def tb_X13_livesStep : ZT := [(0, .aload_n 0, 1, [], []), (1, .getfield 13, 3, [11, 10, 3, 51, 0, 1300], []), (4, .iconst 0, 1, [], []), (5, .iaload, 1, [], []), (6, .ifCond .le 92, 3, [98], []), (9, .aload_n 0, 1, [], []), (10, .aload_n 0, 1, [], []), (11, .getfield 13, 3, [11, 10, 3, 51, 0, 1300], []), (14, .iconst 0, 1, [], []), (15, .iaload, 1, [], []), (16, .invokevirtual 501, 3, [1, 257, 2, 1927, 0, 11], []), (19, .istore_n 1, 1, [], []), (20, .aload_n 0, 1, [], []), (21, .bipush 6, 2, [], []), (23, .invokevirtual 501, 3, [1, 257, 2, 1927, 0, 11], []), (26, .istore_n 2, 1, [], []), (27, .iload_n 2, 1, [], []), (28, .ifCond .ne 16, 3, [44], []), (31, .aload_n 0, 1, [], []), (32, .getfield 105, 3, [11, 43, 3, 81, 0, 1333], []), (35, .iconst 4, 1, [], []), (36, .iload_n 1, 1, [], []), (37, .iadd, 1, [], []), (38, .aload_n 0, 1, [], []), (39, .iconst 5, 1, [], []), (40, .invokevirtual 501, 3, [1, 257, 2, 1927, 0, 11], []), (43, .iastore, 1, [], []), (44, .iload_n 2, 1, [], []), (45, .iconst 1, 1, [], []), (46, .if_icmp .ne 15, 3, [61], []), (49, .aload_n 0, 1, [], []), (50, .getfield 105, 3, [11, 43, 3, 81, 0, 1333], []), (53, .iconst 2, 1, [], []), (54, .dup2, 1, [], []), (55, .iaload, 1, [], []), (56, .iconst 1, 1, [], []), (57, .iload_n 1, 1, [], []), (58, .ishl, 1, [], []), (59, .ior, 1, [], []), (60, .iastore, 1, [], []), (61, .iload_n 2, 1, [], []), (62, .iconst 2, 1, [], []), (63, .if_icmp .ne 17, 3, [80], []), (66, .aload_n 0, 1, [], []), (67, .getfield 105, 3, [11, 43, 3, 81, 0, 1333], []), (70, .iconst 2, 1, [], []), (71, .dup2, 1, [], []), (72, .iaload, 1, [], []), (73, .iconst 1, 1, [], []), (74, .iload_n 1, 1, [], []), (75, .ishl, 1, [], []), (76, .iconst (-1), 1, [], []), (77, .ixor, 1, [], []), (78, .iand, 1, [], []), (79, .iastore, 1, [], []), (80, .iload_n 2, 1, [], []), (81, .iconst 3, 1, [], []), (82, .if_icmp .ne 16, 3, [98], []), (85, .aload_n 0, 1, [], []), (86, .iload_n 1, 1, [], []), (87, .invokevirtual 447, 3, [1, 220, 2, 1767, 0, 11], []), (90, .ifCond .eq 8, 3, [98], []), (93, .aload_n 0, 1, [], []), (94, .iload_n 1, 1, [], []), (95, .invokevirtual 450, 3, [1, 221, 2, 1771, 0, 11], []), (98, .aload_n 0, 1, [], []), (99, .invokevirtual 453, 3, [1, 212, 1, 1779, 0, 11], []), (102, .pop, 1, [], []), (103, .return_, 1, [], [])]
def tb_X13_days : ZT := [(0, .aload_n 0, 1, [], []), (1, .iconst 0, 1, [], []), (2, .putfield 145, 3, [11, 0, 0, 0, 0, 1290], []), (5, .iload_n 1, 1, [], []), (6, .iconst 0, 1, [], []), (7, .sipush 9999, 3, [], []), (10, .invokestatic 277, 3, [0, 151, 3, 1560, 0], []), (13, .ifCond .eq 22, 3, [35], []), (16, .iload_n 2, 1, [], []), (17, .iconst 1, 1, [], []), (18, .bipush 99, 2, [], []), (20, .invokestatic 277, 3, [0, 151, 3, 1560, 0], []), (23, .ifCond .eq 12, 3, [35], []), (26, .iload_n 3, 1, [], []), (27, .iconst 0, 1, [], []), (28, .iconst 2, 1, [], []), (29, .invokestatic 277, 3, [0, 151, 3, 1560, 0], []), (32, .ifCond .ne 7, 3, [39], []), (35, .ldc_w 456, 3, [1799], [(-1000000)]), (38, .ireturn, 1, [], []), (39, .aload_n 0, 1, [], []), (40, .iload_n 1, 1, [], []), (41, .i2l, 1, [], []), (42, .putfield 490, 3, [11, 59, 2, 0, 0, 1349], []), (45, .aload_n 0, 1, [], []), (46, .getfield 105, 3, [11, 43, 3, 81, 0, 1333], []), (49, .iconst 0, 1, [], []), (50, .aload_n 0, 1, [], []), (51, .getfield 108, 3, [11, 44, 3, 82, 0, 1334], []), (54, .iconst 0, 1, [], []), (55, .invokestatic 440, 3, [0, 186, 4, 1752, 0], []), (58, .iconst 0, 1, [], []), (59, .istore 4, 2, [], []), (61, .iload 4, 2, [], []), (63, .iload_n 2, 1, [], []), (64, .if_icmp .ge 13, 3, [77], []), (67, .aload_n 0, 1, [], []), (68, .invokevirtual 504, 3, [1, 258, 1, 1923, 0, 11], []), (71, .iinc 4 1, 3, [], []), (74, .goto (-13), 3, [61], []), (77, .aload_n 0, 1, [], []), (78, .getfield 105, 3, [11, 43, 3, 81, 0, 1333], []), (81, .iconst 1, 1, [], []), (82, .iaload, 1, [], []), (83, .aload_n 0, 1, [], []), (84, .getfield 108, 3, [11, 44, 3, 82, 0, 1334], []), (87, .iconst 1, 1, [], []), (88, .iaload, 1, [], []), (89, .isub, 1, [], []), (90, .istore 4, 2, [], []), (92, .aload_n 0, 1, [], []), (93, .getfield 105, 3, [11, 43, 3, 81, 0, 1333], []), (96, .iconst 3, 1, [], []), (97, .iaload, 1, [], []), (98, .istore 5, 2, [], []), (100, .aload_n 0, 1, [], []), (101, .invokevirtual 428, 3, [1, 209, 1, 1724, 0, 11], []), (104, .istore 6, 2, [], []), (106, .aload_n 0, 1, [], []), (107, .getfield 108, 3, [11, 44, 3, 82, 0, 1334], []), (110, .iconst 0, 1, [], []), (111, .aload_n 0, 1, [], []), (112, .getfield 105, 3, [11, 43, 3, 81, 0, 1333], []), (115, .iconst 0, 1, [], []), (116, .invokestatic 440, 3, [0, 186, 4, 1752, 0], []), (119, .iload_n 3, 1, [], []), (120, .ifCond .ne 8, 3, [128], []), (123, .iload 4, 2, [], []), (125, .goto 15, 3, [140], []), (128, .iload_n 3, 1, [], []), (129, .iconst 1, 1, [], []), (130, .if_icmp .ne 8, 3, [138], []), (133, .iload 5, 2, [], []), (135, .goto 5, 3, [140], []), (138, .iload 6, 2, [], []), (140, .ireturn, 1, [], [])]
def tb_X13_mark : ZT := [(0, .aload_n 0, 1, [], []), (1, .iconst 0, 1, [], []), (2, .putfield 145, 3, [11, 0, 0, 0, 0, 1290], []), (5, .iload_n 1, 1, [], []), (6, .iconst 0, 1, [], []), (7, .iconst 3, 1, [], []), (8, .invokestatic 277, 3, [0, 151, 3, 1560, 0], []), (11, .ifCond .eq 16, 3, [27], []), (14, .iload_n 2, 1, [], []), (15, .ifCond .eq 14, 3, [29], []), (18, .aload_n 0, 1, [], []), (19, .getfield 120, 3, [11, 48, 3, 86, 0, 1338], []), (22, .iload_n 1, 1, [], []), (23, .baload, 1, [], []), (24, .ifCond .ne 5, 3, [29], []), (27, .iconst 0, 1, [], []), (28, .ireturn, 1, [1], []), (29, .aload_n 0, 1, [], []), (30, .getfield 120, 3, [11, 48, 3, 86, 0, 1338], []), (33, .iload_n 1, 1, [], []), (34, .iconst 1, 1, [], []), (35, .bastore, 1, [], []), (36, .iload_n 2, 1, [], []), (37, .ifCond .eq 9, 3, [46], []), (40, .iconst 1, 1, [], []), (41, .iload_n 1, 1, [], []), (42, .iadd, 1, [], []), (43, .goto 4, 3, [47], []), (46, .iconst 0, 1, [], []), (47, .istore_n 3, 1, [], []), (48, .iload_n 2, 1, [], []), (49, .ifCond .eq 7, 3, [56], []), (52, .iconst 0, 1, [], []), (53, .goto 6, 3, [59], []), (56, .iconst 1, 1, [], []), (57, .iload_n 1, 1, [], []), (58, .iadd, 1, [], []), (59, .istore 4, 2, [], []), (61, .aload_n 0, 1, [], []), (62, .iload_n 3, 1, [], []), (63, .iload 4, 2, [], []), (65, .invokevirtual 357, 3, [1, 188, 3, 1634, 0, 11], []), (68, .aload_n 0, 1, [], []), (69, .iload_n 3, 1, [], []), (70, .iload 4, 2, [], []), (72, .invokevirtual 507, 3, [1, 189, 3, 1939, 0, 11], []), (75, .iload_n 2, 1, [], []), (76, .ifCond .eq 27, 3, [103], []), (79, .aload_n 0, 1, [], []), (80, .getfield 114, 3, [11, 46, 3, 84, 0, 1336], []), (83, .bipush 16, 2, [], []), (85, .iload_n 1, 1, [], []), (86, .imul, 1, [], []), (87, .aload_n 0, 1, [], []), (88, .getfield 105, 3, [11, 43, 3, 81, 0, 1333], []), (91, .iconst 0, 1, [], []), (92, .invokestatic 440, 3, [0, 186, 4, 1752, 0], []), (95, .aload_n 0, 1, [], []), (96, .iconst 0, 1, [], []), (97, .putfield 351, 3, [11, 49, 0, 0, 0, 1339], []), (100, .goto 19, 3, [119], []), (103, .aload_n 0, 1, [], []), (104, .getfield 105, 3, [11, 43, 3, 81, 0, 1333], []), (107, .iconst 0, 1, [], []), (108, .aload_n 0, 1, [], []), (109, .getfield 114, 3, [11, 46, 3, 84, 0, 1336], []), (112, .bipush 16, 2, [], []), (114, .iload_n 1, 1, [], []), (115, .imul, 1, [], []), (116, .invokestatic 440, 3, [0, 186, 4, 1752, 0], []), (119, .iconst 1, 1, [], []), (120, .ireturn, 1, [1], [])]
def tb_X13_count : ZT := [(0, .aload_n 0, 1, [], []), (1, .iconst 0, 1, [], []), (2, .putfield 145, 3, [11, 0, 0, 0, 0, 1290], []), (5, .iload_n 1, 1, [], []), (6, .iconst 0, 1, [], []), (7, .bipush 12, 2, [], []), (9, .invokestatic 277, 3, [0, 151, 3, 1560, 0], []), (12, .ifCond .ne 7, 3, [19], []), (15, .ldc_w 456, 3, [1799], [(-1000000)]), (18, .ireturn, 1, [], []), (19, .iload_n 1, 1, [], []), (20, .iconst 2, 1, [], []), (21, .if_icmp .ge 23, 3, [44], []), (24, .iload_n 1, 1, [], []), (25, .ifCond .ne 12, 3, [37], []), (28, .aload_n 0, 1, [], []), (29, .getfield 13, 3, [11, 10, 3, 51, 0, 1300], []), (32, .iconst 0, 1, [], []), (33, .iaload, 1, [], []), (34, .goto 9, 3, [43], []), (37, .aload_n 0, 1, [], []), (38, .getfield 105, 3, [11, 43, 3, 81, 0, 1333], []), (41, .iconst 0, 1, [], []), (42, .iaload, 1, [], []), (43, .ireturn, 1, [], []), (44, .iload_n 1, 1, [], []), (45, .iconst 5, 1, [], []), (46, .if_icmp .ge 37, 3, [83], []), (49, .iload_n 1, 1, [], []), (50, .iconst 2, 1, [], []), (51, .if_icmp .ne 13, 3, [64], []), (54, .aload_n 0, 1, [], []), (55, .iconst 1, 1, [], []), (56, .bipush 10, 2, [], []), (58, .invokevirtual 361, 3, [1, 194, 3, 1662, 0, 11], []), (61, .goto 21, 3, [82], []), (64, .iload_n 1, 1, [], []), (65, .iconst 3, 1, [], []), (66, .if_icmp .ne 12, 3, [78], []), (69, .aload_n 0, 1, [], []), (70, .iconst 2, 1, [], []), (71, .iconst 0, 1, [], []), (72, .invokevirtual 361, 3, [1, 194, 3, 1662, 0, 11], []), (75, .goto 7, 3, [82], []), (78, .aload_n 0, 1, [], []), (79, .invokevirtual 431, 3, [1, 195, 1, 1787, 0, 11], []), (82, .ireturn, 1, [], []), (83, .iload_n 1, 1, [], []), (84, .bipush 7, 2, [], []), (86, .if_icmp .ge 22, 3, [108], []), (89, .iload_n 1, 1, [], []), (90, .iconst 5, 1, [], []), (91, .if_icmp .ne 10, 3, [101], []), (94, .aload_n 0, 1, [], []), (95, .invokevirtual 460, 3, [1, 210, 1, 1824, 0, 11], []), (98, .goto 9, 3, [107], []), (101, .aload_n 0, 1, [], []), (102, .getfield 105, 3, [11, 43, 3, 81, 0, 1333], []), (105, .iconst 1, 1, [], []), (106, .iaload, 1, [], []), (107, .ireturn, 1, [], []), (108, .iload_n 1, 1, [], []), (109, .bipush 9, 2, [], []), (111, .if_icmp .ge 38, 3, [149], []), (114, .iload_n 1, 1, [], []), (115, .bipush 7, 2, [], []), (117, .if_icmp .ne 25, 3, [142], []), (120, .iconst 1, 1, [], []), (121, .aload_n 0, 1, [], []), (122, .getfield 13, 3, [11, 10, 3, 51, 0, 1300], []), (125, .iconst 0, 1, [], []), (126, .iaload, 1, [], []), (127, .ishl, 1, [], []), (128, .iconst 1, 1, [], []), (129, .isub, 1, [], []), (130, .aload_n 0, 1, [], []), (131, .getfield 105, 3, [11, 43, 3, 81, 0, 1333], []), (134, .iconst 2, 1, [], []), (135, .iaload, 1, [], []), (136, .iconst (-1), 1, [], []), (137, .ixor, 1, [], []), (138, .iand, 1, [], []), (139, .goto 9, 3, [148], []), (142, .aload_n 0, 1, [], []), (143, .getfield 105, 3, [11, 43, 3, 81, 0, 1333], []), (146, .iconst 3, 1, [], []), (147, .iaload, 1, [], []), (148, .ireturn, 1, [], []), (149, .iload_n 1, 1, [], []), (150, .bipush 11, 2, [], []), (152, .if_icmp .ge 25, 3, [177], []), (155, .iload_n 1, 1, [], []), (156, .bipush 9, 2, [], []), (158, .if_icmp .ne 12, 3, [170], []), (161, .aload_n 0, 1, [], []), (162, .getfield 84, 3, [11, 36, 3, 74, 0, 1326], []), (165, .iconst 0, 1, [], []), (166, .iaload, 1, [], []), (167, .goto 9, 3, [176], []), (170, .aload_n 0, 1, [], []), (171, .getfield 96, 3, [11, 40, 3, 78, 0, 1330], []), (174, .iconst 0, 1, [], []), (175, .iaload, 1, [], []), (176, .ireturn, 1, [], []), (177, .iload_n 1, 1, [], []), (178, .bipush 11, 2, [], []), (180, .if_icmp .ne 10, 3, [190], []), (183, .aload_n 0, 1, [], []), (184, .getfield 351, 3, [11, 49, 0, 0, 0, 1339], []), (187, .goto 7, 3, [194], []), (190, .aload_n 0, 1, [], []), (191, .getfield 151, 3, [11, 1, 0, 0, 0, 1291], []), (194, .ireturn, 1, [], [])]
def tb_J9_floorMod_7cf53 : ZT := [(0, .iload_n 0, 1, [], []), (1, .iload_n 1, 1, [], []), (2, .irem, 1, [], []), (3, .istore_n 2, 1, [], []), (4, .iload_n 0, 1, [], []), (5, .iload_n 1, 1, [], []), (6, .ixor, 1, [], []), (7, .ifCond .ge 11, 3, [18], []), (10, .iload_n 2, 1, [], []), (11, .ifCond .eq 7, 3, [18], []), (14, .iload_n 2, 1, [], []), (15, .iload_n 1, 1, [], []), (16, .iadd, 1, [], []), (17, .ireturn, 1, [], []), (18, .iload_n 2, 1, [], []), (19, .ireturn, 1, [], [])]
def tb_J7_fill_53178 : ZT := [(0, .iconst 0, 1, [], []), (1, .istore_n 2, 1, [], []), (2, .aload_n 0, 1, [], []), (3, .arraylength, 1, [], []), (4, .istore_n 3, 1, [], []), (5, .iload_n 2, 1, [], []), (6, .iload_n 3, 1, [], []), (7, .if_icmp .ge 13, 3, [20], []), (10, .aload_n 0, 1, [], []), (11, .iload_n 2, 1, [], []), (12, .iload_n 1, 1, [], []), (13, .iastore, 1, [], []), (14, .iinc 2 1, 3, [], []), (17, .goto (-12), 3, [5], []), (20, .return_, 1, [], [])]
def tb_L_law : ZT := [(0, .new 8, 3, [10, 135], []), (3, .dup, 1, [], []), (4, .invokespecial 15, 3, [1, 96, 1, 137, 0, 10], []), (7, .astore_n 1, 1, [], []), (8, .new 16, 3, [11, 1276], []), (11, .dup, 1, [], []), (12, .invokespecial 18, 3, [1, 149, 1, 1278, 0, 11], []), (15, .astore_n 2, 1, [], []), (16, .iconst 1, 1, [], []), (17, .newarray .long, 2, [103], []), (19, .astore_n 3, 1, [], []), (20, .iconst 0, 1, [], []), (21, .istore 4, 2, [], []), (23, .iload 4, 2, [], []), (25, .aload_n 0, 1, [], []), (26, .arraylength, 1, [], []), (27, .bipush 7, 2, [], []), (29, .isub, 1, [], []), (30, .if_icmp .gt 1344, 3, [1374], []), (33, .aload_n 0, 1, [], []), (34, .iload 4, 2, [], []), (36, .iaload, 1, [], []), (37, .bipush 63, 2, [], []), (39, .iand, 1, [], []), (40, .tableswitch 1328 0 38 #[172, 319, 332, 345, 382, 407, 432, 457, 470, 507, 532, 557, 582, 595, 608, 633, 670, 695, 720, 745, 758, 783, 820, 833, 846, 859, 872, 897, 922, 935, 960, 985, 1022, 1047, 1060, 1109, 1201, 1250, 1303], 172, [1368, 212, 359, 372, 385, 422, 447, 472, 497, 510, 547, 572, 597, 622, 635, 648, 673, 710, 735, 760, 785, 798, 823, 860, 873, 886, 899, 912, 937, 962, 975, 1000, 1025, 1062, 1087, 1100, 1149, 1241, 1290, 1343], [0, 1, 2, 3, 4, 5, 6, 7, 8, 9, 10, 11, 12, 13, 14, 15, 16, 17, 18, 19, 20, 21, 22, 23, 24, 25, 26, 27, 28, 29, 30, 31, 32, 33, 34, 35, 36, 37, 38]), (212, .aload_n 1, 1, [], []), (213, .aload_n 0, 1, [], []), (214, .iload 4, 2, [], []), (216, .iconst 1, 1, [], []), (217, .iadd, 1, [], []), (218, .iaload, 1, [], []), (219, .i2l, 1, [], []), (220, .bipush 32, 2, [], []), (222, .lshl, 1, [], []), (223, .aload_n 0, 1, [], []), (224, .iload 4, 2, [], []), (226, .iconst 2, 1, [], []), (227, .iadd, 1, [], []), (228, .iaload, 1, [], []), (229, .i2l, 1, [], []), (230, .ldc2_w 19, 3, [1947], [4294967295]), (233, .land, 1, [], []), (234, .lor, 1, [], []), (235, .aload_n 0, 1, [], []), (236, .iload 4, 2, [], []), (238, .iconst 3, 1, [], []), (239, .iadd, 1, [], []), (240, .iaload, 1, [], []), (241, .i2l, 1, [], []), (242, .bipush 32, 2, [], []), (244, .lshl, 1, [], []), (245, .aload_n 0, 1, [], []), (246, .iload 4, 2, [], []), (248, .iconst 4, 1, [], []), (249, .iadd, 1, [], []), (250, .iaload, 1, [], []), (251, .i2l, 1, [], []), (252, .ldc2_w 19, 3, [1947], [4294967295]), (255, .land, 1, [], []), (256, .lor, 1, [], []), (257, .aload_n 0, 1, [], []), (258, .iload 4, 2, [], []), (260, .iconst 5, 1, [], []), (261, .iadd, 1, [], []), (262, .iaload, 1, [], []), (263, .i2l, 1, [], []), (264, .bipush 32, 2, [], []), (266, .lshl, 1, [], []), (267, .aload_n 0, 1, [], []), (268, .iload 4, 2, [], []), (270, .bipush 6, 2, [], []), (272, .iadd, 1, [], []), (273, .iaload, 1, [], []), (274, .i2l, 1, [], []), (275, .ldc2_w 19, 3, [1947], [4294967295]), (278, .land, 1, [], []), (279, .lor, 1, [], []), (280, .invokevirtual 21, 3, [1, 97, 4, 577, 0, 10], []), (283, .aload_n 2, 1, [], []), (284, .aload_n 0, 1, [], []), (285, .iload 4, 2, [], []), (287, .iconst 1, 1, [], []), (288, .iadd, 1, [], []), (289, .iaload, 1, [], []), (290, .i2l, 1, [], []), (291, .bipush 32, 2, [], []), (293, .lshl, 1, [], []), (294, .aload_n 0, 1, [], []), (295, .iload 4, 2, [], []), (297, .iconst 2, 1, [], []), (298, .iadd, 1, [], []), (299, .iaload, 1, [], []), (300, .i2l, 1, [], []), (301, .ldc2_w 19, 3, [1947], [4294967295]), (304, .land, 1, [], []), (305, .lor, 1, [], []), (306, .aload_n 0, 1, [], []), (307, .iload 4, 2, [], []), (309, .iconst 3, 1, [], []), (310, .iadd, 1, [], []), (311, .iaload, 1, [], []), (312, .i2l, 1, [], []), (313, .bipush 32, 2, [], []), (315, .lshl, 1, [], []), (316, .aload_n 0, 1, [], []), (317, .iload 4, 2, [], []), (319, .iconst 4, 1, [], []), (320, .iadd, 1, [], []), (321, .iaload, 1, [], []), (322, .i2l, 1, [], []), (323, .ldc2_w 19, 3, [1947], [4294967295]), (326, .land, 1, [], []), (327, .lor, 1, [], []), (328, .aload_n 0, 1, [], []), (329, .iload 4, 2, [], []), (331, .iconst 5, 1, [], []), (332, .iadd, 1, [], []), (333, .iaload, 1, [], []), (334, .i2l, 1, [], []), (335, .bipush 32, 2, [], []), (337, .lshl, 1, [], []), (338, .aload_n 0, 1, [], []), (339, .iload 4, 2, [], []), (341, .bipush 6, 2, [], []), (343, .iadd, 1, [], []), (344, .iaload, 1, [], []), (345, .i2l, 1, [], []), (346, .ldc2_w 19, 3, [1947], [4294967295]), (349, .land, 1, [], []), (350, .lor, 1, [], []), (351, .invokevirtual 25, 3, [1, 153, 4, 1475, 0, 11], []), (354, .if_icmp .eq 1014, 3, [1368], []), (357, .iconst 0, 1, [], []), (358, .ireturn, 1, [1], []), (359, .aload_n 1, 1, [], []), (360, .invokevirtual 26, 3, [1, 98, 1, 585, 0, 10], []), (363, .aload_n 2, 1, [], []), (364, .invokevirtual 30, 3, [1, 191, 1, 1480, 0, 11], []), (367, .if_icmp .eq 1001, 3, [1368], []), (370, .iconst 0, 1, [], []), (371, .ireturn, 1, [1], []), (372, .aload_n 1, 1, [], []), (373, .invokevirtual 31, 3, [1, 99, 1, 772, 0, 10], []), (376, .aload_n 2, 1, [], []), (377, .invokevirtual 34, 3, [1, 192, 1, 1626, 0, 11], []), (380, .if_icmp .eq 988, 3, [1368], []), (383, .iconst 0, 1, [], []), (384, .ireturn, 1, [1], []), (385, .aload_n 1, 1, [], []), (386, .aload_n 0, 1, [], []), (387, .iload 4, 2, [], []), (389, .iconst 1, 1, [], []), (390, .iadd, 1, [], []), (391, .iaload, 1, [], []), (392, .aload_n 0, 1, [], []), (393, .iload 4, 2, [], []), (395, .iconst 2, 1, [], []), (396, .iadd, 1, [], []), (397, .iaload, 1, [], []), (398, .invokevirtual 35, 3, [1, 100, 3, 807, 0, 10], []), (401, .aload_n 2, 1, [], []), (402, .aload_n 0, 1, [], []), (403, .iload 4, 2, [], []), (405, .iconst 1, 1, [], []), (406, .iadd, 1, [], []), (407, .iaload, 1, [], []), (408, .aload_n 0, 1, [], []), (409, .iload 4, 2, [], []), (411, .iconst 2, 1, [], []), (412, .iadd, 1, [], []), (413, .iaload, 1, [], []), (414, .invokevirtual 39, 3, [1, 213, 3, 1638, 0, 11], []), (417, .if_icmp .eq 951, 3, [1368], []), (420, .iconst 0, 1, [], []), (421, .ireturn, 1, [1], []), (422, .aload_n 1, 1, [], []), (423, .aload_n 0, 1, [], []), (424, .iload 4, 2, [], []), (426, .iconst 1, 1, [], []), (427, .iadd, 1, [], []), (428, .iaload, 1, [], []), (429, .invokevirtual 40, 3, [1, 101, 2, 823, 0, 10], []), (432, .aload_n 2, 1, [], []), (433, .aload_n 0, 1, [], []), (434, .iload 4, 2, [], []), (436, .iconst 1, 1, [], []), (437, .iadd, 1, [], []), (438, .iaload, 1, [], []), (439, .invokevirtual 44, 3, [1, 214, 2, 1654, 0, 11], []), (442, .if_icmp .eq 926, 3, [1368], []), (445, .iconst 0, 1, [], []), (446, .ireturn, 1, [1], []), (447, .aload_n 1, 1, [], []), (448, .aload_n 0, 1, [], []), (449, .iload 4, 2, [], []), (451, .iconst 1, 1, [], []), (452, .iadd, 1, [], []), (453, .iaload, 1, [], []), (454, .invokevirtual 45, 3, [1, 102, 2, 899, 0, 10], []), (457, .aload_n 2, 1, [], []), (458, .aload_n 0, 1, [], []), (459, .iload 4, 2, [], []), (461, .iconst 1, 1, [], []), (462, .iadd, 1, [], []), (463, .iaload, 1, [], []), (464, .invokevirtual 48, 3, [1, 215, 2, 1693, 0, 11], []), (467, .if_icmp .eq 901, 3, [1368], []), (470, .iconst 0, 1, [], []), (471, .ireturn, 1, [1], []), (472, .aload_n 1, 1, [], []), (473, .aload_n 0, 1, [], []), (474, .iload 4, 2, [], []), (476, .iconst 1, 1, [], []), (477, .iadd, 1, [], []), (478, .iaload, 1, [], []), (479, .invokevirtual 49, 3, [1, 103, 2, 903, 0, 10], []), (482, .aload_n 2, 1, [], []), (483, .aload_n 0, 1, [], []), (484, .iload 4, 2, [], []), (486, .iconst 1, 1, [], []), (487, .iadd, 1, [], []), (488, .iaload, 1, [], []), (489, .invokevirtual 52, 3, [1, 216, 2, 1720, 0, 11], []), (492, .if_icmp .eq 876, 3, [1368], []), (495, .iconst 0, 1, [], []), (496, .ireturn, 1, [1], []), (497, .aload_n 1, 1, [], []), (498, .invokevirtual 53, 3, [1, 104, 1, 907, 0, 10], []), (501, .aload_n 2, 1, [], []), (502, .invokevirtual 56, 3, [1, 217, 1, 1740, 0, 11], []), (505, .if_icmp .eq 863, 3, [1368], []), (508, .iconst 0, 1, [], []), (509, .ireturn, 1, [1], []), (510, .aload_n 1, 1, [], []), (511, .aload_n 0, 1, [], []), (512, .iload 4, 2, [], []), (514, .iconst 1, 1, [], []), (515, .iadd, 1, [], []), (516, .iaload, 1, [], []), (517, .aload_n 0, 1, [], []), (518, .iload 4, 2, [], []), (520, .iconst 2, 1, [], []), (521, .iadd, 1, [], []), (522, .iaload, 1, [], []), (523, .invokevirtual 57, 3, [1, 105, 3, 911, 0, 10], []), (526, .aload_n 2, 1, [], []), (527, .aload_n 0, 1, [], []), (528, .iload 4, 2, [], []), (530, .iconst 1, 1, [], []), (531, .iadd, 1, [], []), (532, .iaload, 1, [], []), (533, .aload_n 0, 1, [], []), (534, .iload 4, 2, [], []), (536, .iconst 2, 1, [], []), (537, .iadd, 1, [], []), (538, .iaload, 1, [], []), (539, .invokevirtual 60, 3, [1, 219, 3, 1744, 0, 11], []), (542, .if_icmp .eq 826, 3, [1368], []), (545, .iconst 0, 1, [], []), (546, .ireturn, 1, [1], []), (547, .aload_n 1, 1, [], []), (548, .aload_n 0, 1, [], []), (549, .iload 4, 2, [], []), (551, .iconst 1, 1, [], []), (552, .iadd, 1, [], []), (553, .iaload, 1, [], []), (554, .invokevirtual 61, 3, [1, 106, 2, 942, 0, 10], []), (557, .aload_n 2, 1, [], []), (558, .aload_n 0, 1, [], []), (559, .iload 4, 2, [], []), (561, .iconst 1, 1, [], []), (562, .iadd, 1, [], []), (563, .iaload, 1, [], []), (564, .invokevirtual 65, 3, [1, 222, 2, 1755, 0, 11], []), (567, .if_icmp .eq 801, 3, [1368], []), (570, .iconst 0, 1, [], []), (571, .ireturn, 1, [1], []), (572, .aload_n 1, 1, [], []), (573, .aload_n 0, 1, [], []), (574, .iload 4, 2, [], []), (576, .iconst 1, 1, [], []), (577, .iadd, 1, [], []), (578, .iaload, 1, [], []), (579, .invokevirtual 66, 3, [1, 107, 2, 946, 0, 10], []), (582, .aload_n 2, 1, [], []), (583, .aload_n 0, 1, [], []), (584, .iload 4, 2, [], []), (586, .iconst 1, 1, [], []), (587, .iadd, 1, [], []), (588, .iaload, 1, [], []), (589, .invokevirtual 69, 3, [1, 223, 2, 1759, 0, 11], []), (592, .if_icmp .eq 776, 3, [1368], []), (595, .iconst 0, 1, [], []), (596, .ireturn, 1, [1], []), (597, .aload_n 1, 1, [], []), (598, .aload_n 0, 1, [], []), (599, .iload 4, 2, [], []), (601, .iconst 1, 1, [], []), (602, .iadd, 1, [], []), (603, .iaload, 1, [], []), (604, .invokevirtual 70, 3, [1, 108, 2, 950, 0, 10], []), (607, .aload_n 2, 1, [], []), (608, .aload_n 0, 1, [], []), (609, .iload 4, 2, [], []), (611, .iconst 1, 1, [], []), (612, .iadd, 1, [], []), (613, .iaload, 1, [], []), (614, .invokevirtual 73, 3, [1, 224, 2, 1763, 0, 11], []), (617, .if_icmp .eq 751, 3, [1368], []), (620, .iconst 0, 1, [], []), (621, .ireturn, 1, [1], []), (622, .aload_n 1, 1, [], []), (623, .invokevirtual 74, 3, [1, 109, 1, 954, 0, 10], []), (626, .aload_n 2, 1, [], []), (627, .invokevirtual 77, 3, [1, 225, 1, 1775, 0, 11], []), (630, .if_icmp .eq 738, 3, [1368], []), (633, .iconst 0, 1, [], []), (634, .ireturn, 1, [1], []), (635, .aload_n 1, 1, [], []), (636, .invokevirtual 78, 3, [1, 110, 1, 973, 0, 10], []), (639, .aload_n 2, 1, [], []), (640, .invokevirtual 82, 3, [1, 226, 1, 1791, 0, 11], []), (643, .if_icmp .eq 725, 3, [1368], []), (646, .iconst 0, 1, [], []), (647, .ireturn, 1, [1], []), (648, .aload_n 1, 1, [], []), (649, .aload_n 0, 1, [], []), (650, .iload 4, 2, [], []), (652, .iconst 1, 1, [], []), (653, .iadd, 1, [], []), (654, .iaload, 1, [], []), (655, .invokevirtual 83, 3, [1, 111, 2, 980, 0, 10], []), (658, .aload_n 2, 1, [], []), (659, .aload_n 0, 1, [], []), (660, .iload 4, 2, [], []), (662, .iconst 1, 1, [], []), (663, .iadd, 1, [], []), (664, .iaload, 1, [], []), (665, .invokevirtual 86, 3, [1, 228, 2, 1795, 0, 11], []), (668, .if_icmp .eq 700, 3, [1368], []), (671, .iconst 0, 1, [], []), (672, .ireturn, 1, [1], []), (673, .aload_n 1, 1, [], []), (674, .aload_n 0, 1, [], []), (675, .iload 4, 2, [], []), (677, .iconst 1, 1, [], []), (678, .iadd, 1, [], []), (679, .iaload, 1, [], []), (680, .aload_n 0, 1, [], []), (681, .iload 4, 2, [], []), (683, .iconst 2, 1, [], []), (684, .iadd, 1, [], []), (685, .iaload, 1, [], []), (686, .invokevirtual 87, 3, [1, 112, 3, 986, 0, 10], []), (689, .aload_n 2, 1, [], []), (690, .aload_n 0, 1, [], []), (691, .iload 4, 2, [], []), (693, .iconst 1, 1, [], []), (694, .iadd, 1, [], []), (695, .iaload, 1, [], []), (696, .aload_n 0, 1, [], []), (697, .iload 4, 2, [], []), (699, .iconst 2, 1, [], []), (700, .iadd, 1, [], []), (701, .iaload, 1, [], []), (702, .invokevirtual 90, 3, [1, 229, 3, 1804, 0, 11], []), (705, .if_icmp .eq 663, 3, [1368], []), (708, .iconst 0, 1, [], []), (709, .ireturn, 1, [1], []), (710, .aload_n 1, 1, [], []), (711, .aload_n 0, 1, [], []), (712, .iload 4, 2, [], []), (714, .iconst 1, 1, [], []), (715, .iadd, 1, [], []), (716, .iaload, 1, [], []), (717, .invokevirtual 91, 3, [1, 113, 2, 997, 0, 10], []), (720, .aload_n 2, 1, [], []), (721, .aload_n 0, 1, [], []), (722, .iload 4, 2, [], []), (724, .iconst 1, 1, [], []), (725, .iadd, 1, [], []), (726, .iaload, 1, [], []), (727, .invokevirtual 94, 3, [1, 230, 2, 1808, 0, 11], []), (730, .if_icmp .eq 638, 3, [1368], []), (733, .iconst 0, 1, [], []), (734, .ireturn, 1, [1], []), (735, .aload_n 1, 1, [], []), (736, .aload_n 0, 1, [], []), (737, .iload 4, 2, [], []), (739, .iconst 1, 1, [], []), (740, .iadd, 1, [], []), (741, .iaload, 1, [], []), (742, .invokevirtual 95, 3, [1, 114, 2, 1001, 0, 10], []), (745, .aload_n 2, 1, [], []), (746, .aload_n 0, 1, [], []), (747, .iload 4, 2, [], []), (749, .iconst 1, 1, [], []), (750, .iadd, 1, [], []), (751, .iaload, 1, [], []), (752, .invokevirtual 98, 3, [1, 231, 2, 1812, 0, 11], []), (755, .if_icmp .eq 613, 3, [1368], []), (758, .iconst 0, 1, [], []), (759, .ireturn, 1, [1], []), (760, .aload_n 1, 1, [], []), (761, .aload_n 0, 1, [], []), (762, .iload 4, 2, [], []), (764, .iconst 1, 1, [], []), (765, .iadd, 1, [], []), (766, .iaload, 1, [], []), (767, .invokevirtual 99, 3, [1, 115, 2, 1005, 0, 10], []), (770, .aload_n 2, 1, [], []), (771, .aload_n 0, 1, [], []), (772, .iload 4, 2, [], []), (774, .iconst 1, 1, [], []), (775, .iadd, 1, [], []), (776, .iaload, 1, [], []), (777, .invokevirtual 102, 3, [1, 232, 2, 1816, 0, 11], []), (780, .if_icmp .eq 588, 3, [1368], []), (783, .iconst 0, 1, [], []), (784, .ireturn, 1, [1], []), (785, .aload_n 1, 1, [], []), (786, .invokevirtual 103, 3, [1, 116, 1, 1009, 0, 10], []), (789, .aload_n 2, 1, [], []), (790, .invokevirtual 106, 3, [1, 233, 1, 1820, 0, 11], []), (793, .if_icmp .eq 575, 3, [1368], []), (796, .iconst 0, 1, [], []), (797, .ireturn, 1, [1], []), (798, .aload_n 1, 1, [], []), (799, .aload_n 0, 1, [], []), (800, .iload 4, 2, [], []), (802, .iconst 1, 1, [], []), (803, .iadd, 1, [], []), (804, .iaload, 1, [], []), (805, .invokevirtual 107, 3, [1, 117, 2, 1013, 0, 10], []), (808, .aload_n 2, 1, [], []), (809, .aload_n 0, 1, [], []), (810, .iload 4, 2, [], []), (812, .iconst 1, 1, [], []), (813, .iadd, 1, [], []), (814, .iaload, 1, [], []), (815, .invokevirtual 110, 3, [1, 238, 2, 1828, 0, 11], []), (818, .if_icmp .eq 550, 3, [1368], []), (821, .iconst 0, 1, [], []), (822, .ireturn, 1, [1], []), (823, .aload_n 1, 1, [], []), (824, .aload_n 0, 1, [], []), (825, .iload 4, 2, [], []), (827, .iconst 1, 1, [], []), (828, .iadd, 1, [], []), (829, .iaload, 1, [], []), (830, .aload_n 0, 1, [], []), (831, .iload 4, 2, [], []), (833, .iconst 2, 1, [], []), (834, .iadd, 1, [], []), (835, .iaload, 1, [], []), (836, .invokevirtual 111, 3, [1, 118, 3, 1077, 0, 10], []), (839, .aload_n 2, 1, [], []), (840, .aload_n 0, 1, [], []), (841, .iload 4, 2, [], []), (843, .iconst 1, 1, [], []), (844, .iadd, 1, [], []), (845, .iaload, 1, [], []), (846, .aload_n 0, 1, [], []), (847, .iload 4, 2, [], []), (849, .iconst 2, 1, [], []), (850, .iadd, 1, [], []), (851, .iaload, 1, [], []), (852, .invokevirtual 114, 3, [1, 239, 3, 1848, 0, 11], []), (855, .if_icmp .eq 513, 3, [1368], []), (858, .iconst 0, 1, [], []), (859, .ireturn, 1, [1], []), (860, .aload_n 1, 1, [], []), (861, .invokevirtual 115, 3, [1, 119, 1, 1081, 0, 10], []), (864, .aload_n 2, 1, [], []), (865, .invokevirtual 118, 3, [1, 240, 1, 1852, 0, 11], []), (868, .if_icmp .eq 500, 3, [1368], []), (871, .iconst 0, 1, [], []), (872, .ireturn, 1, [1], []), (873, .aload_n 1, 1, [], []), (874, .invokevirtual 119, 3, [1, 120, 1, 1090, 0, 10], []), (877, .aload_n 2, 1, [], []), (878, .invokevirtual 122, 3, [1, 241, 1, 1856, 0, 11], []), (881, .if_icmp .eq 487, 3, [1368], []), (884, .iconst 0, 1, [], []), (885, .ireturn, 1, [1], []), (886, .aload_n 1, 1, [], []), (887, .invokevirtual 123, 3, [1, 121, 1, 1095, 0, 10], []), (890, .aload_n 2, 1, [], []), (891, .invokevirtual 126, 3, [1, 242, 1, 1860, 0, 11], []), (894, .if_icmp .eq 474, 3, [1368], []), (897, .iconst 0, 1, [], []), (898, .ireturn, 1, [1], []), (899, .aload_n 1, 1, [], []), (900, .invokevirtual 127, 3, [1, 122, 1, 1099, 0, 10], []), (903, .aload_n 2, 1, [], []), (904, .invokevirtual 130, 3, [1, 243, 1, 1864, 0, 11], []), (907, .if_icmp .eq 461, 3, [1368], []), (910, .iconst 0, 1, [], []), (911, .ireturn, 1, [1], []), (912, .aload_n 1, 1, [], []), (913, .aload_n 0, 1, [], []), (914, .iload 4, 2, [], []), (916, .iconst 1, 1, [], []), (917, .iadd, 1, [], []), (918, .iaload, 1, [], []), (919, .invokevirtual 131, 3, [1, 123, 2, 1104, 0, 10], []), (922, .aload_n 2, 1, [], []), (923, .aload_n 0, 1, [], []), (924, .iload 4, 2, [], []), (926, .iconst 1, 1, [], []), (927, .iadd, 1, [], []), (928, .iaload, 1, [], []), (929, .invokevirtual 134, 3, [1, 244, 2, 1868, 0, 11], []), (932, .if_icmp .eq 436, 3, [1368], []), (935, .iconst 0, 1, [], []), (936, .ireturn, 1, [1], []), (937, .aload_n 1, 1, [], []), (938, .aload_n 0, 1, [], []), (939, .iload 4, 2, [], []), (941, .iconst 1, 1, [], []), (942, .iadd, 1, [], []), (943, .iaload, 1, [], []), (944, .invokevirtual 135, 3, [1, 124, 2, 1108, 0, 10], []), (947, .aload_n 2, 1, [], []), (948, .aload_n 0, 1, [], []), (949, .iload 4, 2, [], []), (951, .iconst 1, 1, [], []), (952, .iadd, 1, [], []), (953, .iaload, 1, [], []), (954, .invokevirtual 138, 3, [1, 247, 2, 1876, 0, 11], []), (957, .if_icmp .eq 411, 3, [1368], []), (960, .iconst 0, 1, [], []), (961, .ireturn, 1, [1], []), (962, .aload_n 1, 1, [], []), (963, .invokevirtual 139, 3, [1, 125, 1, 1116, 0, 10], []), (966, .aload_n 2, 1, [], []), (967, .invokevirtual 142, 3, [1, 248, 1, 1884, 0, 11], []), (970, .if_icmp .eq 398, 3, [1368], []), (973, .iconst 0, 1, [], []), (974, .ireturn, 1, [1], []), (975, .aload_n 1, 1, [], []), (976, .aload_n 0, 1, [], []), (977, .iload 4, 2, [], []), (979, .iconst 1, 1, [], []), (980, .iadd, 1, [], []), (981, .iaload, 1, [], []), (982, .invokevirtual 143, 3, [1, 126, 2, 1120, 0, 10], []), (985, .aload_n 2, 1, [], []), (986, .aload_n 0, 1, [], []), (987, .iload 4, 2, [], []), (989, .iconst 1, 1, [], []), (990, .iadd, 1, [], []), (991, .iaload, 1, [], []), (992, .invokevirtual 146, 3, [1, 249, 2, 1888, 0, 11], []), (995, .if_icmp .eq 373, 3, [1368], []), (998, .iconst 0, 1, [], []), (999, .ireturn, 1, [1], []), (1000, .aload_n 1, 1, [], []), (1001, .aload_n 0, 1, [], []), (1002, .iload 4, 2, [], []), (1004, .iconst 1, 1, [], []), (1005, .iadd, 1, [], []), (1006, .iaload, 1, [], []), (1007, .invokevirtual 147, 3, [1, 127, 2, 1124, 0, 10], []), (1010, .aload_n 2, 1, [], []), (1011, .aload_n 0, 1, [], []), (1012, .iload 4, 2, [], []), (1014, .iconst 1, 1, [], []), (1015, .iadd, 1, [], []), (1016, .iaload, 1, [], []), (1017, .invokevirtual 150, 3, [1, 245, 2, 1872, 0, 11], []), (1020, .if_icmp .eq 348, 3, [1368], []), (1023, .iconst 0, 1, [], []), (1024, .ireturn, 1, [1], []), (1025, .aload_n 1, 1, [], []), (1026, .aload_n 0, 1, [], []), (1027, .iload 4, 2, [], []), (1029, .iconst 1, 1, [], []), (1030, .iadd, 1, [], []), (1031, .iaload, 1, [], []), (1032, .aload_n 0, 1, [], []), (1033, .iload 4, 2, [], []), (1035, .iconst 2, 1, [], []), (1036, .iadd, 1, [], []), (1037, .iaload, 1, [], []), (1038, .invokevirtual 151, 3, [1, 128, 3, 1128, 0, 10], []), (1041, .aload_n 2, 1, [], []), (1042, .aload_n 0, 1, [], []), (1043, .iload 4, 2, [], []), (1045, .iconst 1, 1, [], []), (1046, .iadd, 1, [], []), (1047, .iaload, 1, [], []), (1048, .aload_n 0, 1, [], []), (1049, .iload 4, 2, [], []), (1051, .iconst 2, 1, [], []), (1052, .iadd, 1, [], []), (1053, .iaload, 1, [], []), (1054, .invokevirtual 155, 3, [1, 251, 3, 1892, 0, 11], []), (1057, .if_icmp .eq 311, 3, [1368], []), (1060, .iconst 0, 1, [], []), (1061, .ireturn, 1, [1], []), (1062, .aload_n 1, 1, [], []), (1063, .aload_n 0, 1, [], []), (1064, .iload 4, 2, [], []), (1066, .iconst 1, 1, [], []), (1067, .iadd, 1, [], []), (1068, .iaload, 1, [], []), (1069, .invokevirtual 156, 3, [1, 129, 2, 1133, 0, 10], []), (1072, .aload_n 2, 1, [], []), (1073, .aload_n 0, 1, [], []), (1074, .iload 4, 2, [], []), (1076, .iconst 1, 1, [], []), (1077, .iadd, 1, [], []), (1078, .iaload, 1, [], []), (1079, .invokevirtual 159, 3, [1, 252, 2, 1896, 0, 11], []), (1082, .if_icmp .eq 286, 3, [1368], []), (1085, .iconst 0, 1, [], []), (1086, .ireturn, 1, [1], []), (1087, .aload_n 1, 1, [], []), (1088, .invokevirtual 160, 3, [1, 130, 1, 1153, 0, 10], []), (1091, .aload_n 2, 1, [], []), (1092, .invokevirtual 163, 3, [1, 253, 1, 1904, 0, 11], []), (1095, .if_icmp .eq 273, 3, [1368], []), (1098, .iconst 0, 1, [], []), (1099, .ireturn, 1, [1], []), (1100, .aload_n 1, 1, [], []), (1101, .aload_n 0, 1, [], []), (1102, .iload 4, 2, [], []), (1104, .iconst 1, 1, [], []), (1105, .iadd, 1, [], []), (1106, .iaload, 1, [], []), (1107, .aload_n 0, 1, [], []), (1108, .iload 4, 2, [], []), (1110, .iconst 2, 1, [], []), (1111, .iadd, 1, [], []), (1112, .iaload, 1, [], []), (1113, .aload_n 0, 1, [], []), (1114, .iload 4, 2, [], []), (1116, .iconst 3, 1, [], []), (1117, .iadd, 1, [], []), (1118, .iaload, 1, [], []), (1119, .invokevirtual 164, 3, [1, 131, 4, 1162, 0, 10], []), (1122, .aload_n 2, 1, [], []), (1123, .aload_n 0, 1, [], []), (1124, .iload 4, 2, [], []), (1126, .iconst 1, 1, [], []), (1127, .iadd, 1, [], []), (1128, .iaload, 1, [], []), (1129, .aload_n 0, 1, [], []), (1130, .iload 4, 2, [], []), (1132, .iconst 2, 1, [], []), (1133, .iadd, 1, [], []), (1134, .iaload, 1, [], []), (1135, .aload_n 0, 1, [], []), (1136, .iload 4, 2, [], []), (1138, .iconst 3, 1, [], []), (1139, .iadd, 1, [], []), (1140, .iaload, 1, [], []), (1141, .invokevirtual 168, 3, [1, 254, 4, 1908, 0, 11], []), (1144, .if_icmp .eq 224, 3, [1368], []), (1147, .iconst 0, 1, [], []), (1148, .ireturn, 1, [1], []), (1149, .aload_n 1, 1, [], []), (1150, .aload_n 0, 1, [], []), (1151, .iload 4, 2, [], []), (1153, .iconst 1, 1, [], []), (1154, .iadd, 1, [], []), (1155, .iaload, 1, [], []), (1156, .aload_n 0, 1, [], []), (1157, .iload 4, 2, [], []), (1159, .iconst 2, 1, [], []), (1160, .iadd, 1, [], []), (1161, .iaload, 1, [], []), (1162, .aload_n 0, 1, [], []), (1163, .iload 4, 2, [], []), (1165, .iconst 3, 1, [], []), (1166, .iadd, 1, [], []), (1167, .iaload, 1, [], []), (1168, .aload_n 0, 1, [], []), (1169, .iload 4, 2, [], []), (1171, .iconst 4, 1, [], []), (1172, .iadd, 1, [], []), (1173, .iaload, 1, [], []), (1174, .aload_n 3, 1, [], []), (1175, .invokestatic 169, 3, [5, 0, 6, 1198], []), (1178, .istore 5, 2, [], []), (1180, .aload_n 2, 1, [], []), (1181, .aload_n 0, 1, [], []), (1182, .iload 4, 2, [], []), (1184, .iconst 1, 1, [], []), (1185, .iadd, 1, [], []), (1186, .iaload, 1, [], []), (1187, .aload_n 0, 1, [], []), (1188, .iload 4, 2, [], []), (1190, .iconst 2, 1, [], []), (1191, .iadd, 1, [], []), (1192, .iaload, 1, [], []), (1193, .aload_n 0, 1, [], []), (1194, .iload 4, 2, [], []), (1196, .iconst 3, 1, [], []), (1197, .iadd, 1, [], []), (1198, .iaload, 1, [], []), (1199, .aload_n 0, 1, [], []), (1200, .iload 4, 2, [], []), (1202, .iconst 4, 1, [], []), (1203, .iadd, 1, [], []), (1204, .iaload, 1, [], []), (1205, .invokevirtual 174, 3, [1, 256, 5, 1912, 0, 11], []), (1208, .istore 6, 2, [], []), (1210, .aload_n 2, 1, [], []), (1211, .invokevirtual 175, 3, [1, 150, 1, 1471, 0, 11], []), (1214, .iload 5, 2, [], []), (1216, .if_icmp .eq 5, 3, [1221], []), (1219, .iconst 0, 1, [], []), (1220, .ireturn, 1, [1], []), (1221, .iload 5, 2, [], []), (1223, .ifCond .ne 15, 3, [1238], []), (1226, .aload_n 3, 1, [], []), (1227, .iconst 0, 1, [], []), (1228, .laload, 1, [], []), (1229, .iload 6, 2, [], []), (1231, .i2l, 1, [], []), (1232, .lcmp, 1, [], []), (1233, .ifCond .eq 5, 3, [1238], []), (1236, .iconst 0, 1, [], []), (1237, .ireturn, 1, [1], []), (1238, .goto 130, 3, [1368], []), (1241, .aload_n 1, 1, [], []), (1242, .aload_n 0, 1, [], []), (1243, .iload 4, 2, [], []), (1245, .iconst 1, 1, [], []), (1246, .iadd, 1, [], []), (1247, .iaload, 1, [], []), (1248, .aload_n 0, 1, [], []), (1249, .iload 4, 2, [], []), (1251, .iconst 2, 1, [], []), (1252, .iadd, 1, [], []), (1253, .iaload, 1, [], []), (1254, .aload_n 0, 1, [], []), (1255, .iload 4, 2, [], []), (1257, .iconst 3, 1, [], []), (1258, .iadd, 1, [], []), (1259, .iaload, 1, [], []), (1260, .invokevirtual 178, 3, [1, 133, 4, 1168, 0, 10], []), (1263, .aload_n 2, 1, [], []), (1264, .aload_n 0, 1, [], []), (1265, .iload 4, 2, [], []), (1267, .iconst 1, 1, [], []), (1268, .iadd, 1, [], []), (1269, .iaload, 1, [], []), (1270, .aload_n 0, 1, [], []), (1271, .iload 4, 2, [], []), (1273, .iconst 2, 1, [], []), (1274, .iadd, 1, [], []), (1275, .iaload, 1, [], []), (1276, .aload_n 0, 1, [], []), (1277, .iload 4, 2, [], []), (1279, .iconst 3, 1, [], []), (1280, .iadd, 1, [], []), (1281, .iaload, 1, [], []), (1282, .invokevirtual 181, 3, [1, 259, 4, 1919, 0, 11], []), (1285, .if_icmp .eq 83, 3, [1368], []), (1288, .iconst 0, 1, [], []), (1289, .ireturn, 1, [1], []), (1290, .aload_n 1, 1, [], []), (1291, .aload_n 0, 1, [], []), (1292, .iload 4, 2, [], []), (1294, .iconst 1, 1, [], []), (1295, .iadd, 1, [], []), (1296, .iaload, 1, [], []), (1297, .aload_n 0, 1, [], []), (1298, .iload 4, 2, [], []), (1300, .iconst 2, 1, [], []), (1301, .iadd, 1, [], []), (1302, .iaload, 1, [], []), (1303, .ifCond .eq 7, 3, [1310], []), (1306, .iconst 1, 1, [], []), (1307, .goto 4, 3, [1311], []), (1310, .iconst 0, 1, [], []), (1311, .invokevirtual 182, 3, [1, 134, 3, 1182, 0, 10], []), (1314, .aload_n 2, 1, [], []), (1315, .aload_n 0, 1, [], []), (1316, .iload 4, 2, [], []), (1318, .iconst 1, 1, [], []), (1319, .iadd, 1, [], []), (1320, .iaload, 1, [], []), (1321, .aload_n 0, 1, [], []), (1322, .iload 4, 2, [], []), (1324, .iconst 2, 1, [], []), (1325, .iadd, 1, [], []), (1326, .iaload, 1, [], []), (1327, .ifCond .eq 7, 3, [1334], []), (1330, .iconst 1, 1, [], []), (1331, .goto 4, 3, [1335], []), (1334, .iconst 0, 1, [], []), (1335, .invokevirtual 186, 3, [1, 260, 3, 1935, 0, 11], []), (1338, .if_icmp .eq 30, 3, [1368], []), (1341, .iconst 0, 1, [], []), (1342, .ireturn, 1, [1], []), (1343, .aload_n 1, 1, [], []), (1344, .aload_n 0, 1, [], []), (1345, .iload 4, 2, [], []), (1347, .iconst 1, 1, [], []), (1348, .iadd, 1, [], []), (1349, .iaload, 1, [], []), (1350, .invokevirtual 187, 3, [1, 135, 2, 1193, 0, 10], []), (1353, .aload_n 2, 1, [], []), (1354, .aload_n 0, 1, [], []), (1355, .iload 4, 2, [], []), (1357, .iconst 1, 1, [], []), (1358, .iadd, 1, [], []), (1359, .iaload, 1, [], []), (1360, .invokevirtual 190, 3, [1, 261, 2, 1943, 0, 11], []), (1363, .if_icmp .eq 5, 3, [1368], []), (1366, .iconst 0, 1, [], []), (1367, .ireturn, 1, [1], []), (1368, .iinc 4 7, 3, [], []), (1371, .goto (-1348), 3, [23], []), (1374, .iconst 1, 1, [], []), (1375, .ireturn, 1, [1], [])]
end
section
/-- how long the row of numbers of a Numbers is -/
def zlN (i : Nat) : Nat := match i with
  | 0 => 6
  | 1 => 8
  | 2 => 8
  | 3 => 8
  | 4 => 3
  | 5 => 1000
  | 6 => 40
  | 7 => 6
  | 8 => 8
  | 9 => 8
  | 10 => 8
  | 11 => 3
  | 12 => 1000
  | 13 => 40
  | 14 => 8
  | 15 => 40
  | 16 => 8
  | 17 => 40
  | 18 => 8
  | 19 => 40
  | 20 => 8
  | 21 => 40
  | 22 => 8
  | _ => 0
/-- how long an array is (sl: the script) -/
def zlen (sl : Nat) (t i : Nat) : Nat := match t with
  | 20 => 6
  | 21 => 6
  | 22 => 6
  | 23 => 6
  | 24 => 6
  | 25 => 32
  | 27 => 6
  | 28 => 6
  | 29 => 6
  | 30 => 6
  | 31 => 6
  | 32 => 6
  | 33 => 6
  | 34 => 180
  | 35 => 300
  | 36 => 30
  | 37 => 6
  | 38 => 6
  | 39 => 42
  | 40 => 6
  | 41 => 6
  | 42 => 1000
  | 43 => 124
  | 44 => 744
  | 45 => 100
  | 46 => 16
  | 47 => 4
  | 48 => 3
  | 50 => 1000
  | 51 => 18
  | 52 => 12
  | 53 => 12
  | 54 => 12
  | 55 => 12
  | 56 => 12
  | 57 => 12
  | 58 => 48
  | 59 => 2
  | 60 => 2
  | 61 => 2000
  | 62 => 7
  | 63 => 7
  | 64 => 7
  | 65 => 7
  | 66 => 7
  | 67 => 7
  | 68 => 7
  | 69 => 7
  | 70 => 7
  | 71 => 7
  | 72 => 7
  | 73 => 20
  | 74 => 6
  | 75 => 240
  | 76 => 240
  | 77 => 240
  | 78 => 5
  | 79 => 40
  | 80 => 40
  | 81 => 16
  | 82 => 16
  | 83 => 16
  | 84 => 64
  | 85 => 256
  | 86 => 4
  | 87 => 6
  | 88 => 6
  | 89 => 744
  | 90 => 124
  | 91 => 100
  | 100 => 30
  | 101 => 30
  | 103 => 1
  | 26 => zlN i
  | 102 => sl
  | _ => 0
/-- the references that stand fast -/
def zFc : ZF := fun t i k => match t with
  | 0 => some i
  | 1 => match k with
    | 0 => some (7 * i + 5)
    | _ => some i
  | 2 => match k with
    | 0 => some (18 + i)
    | 1 => some (15 + 2 * i)
    | _ => some (16 + 2 * i)
  | 3 => some i
  | 4 => match k with
    | 7 => some (7 * i)
    | 8 => some (7 * i + 1)
    | 9 => some (7 * i + 2)
    | 10 => some (7 * i + 3)
    | 11 => some (7 * i + 4)
    | _ => some i
  | 5 => match k with
    | 0 => some 0
    | _ => some 6
  | 6 => some i
  | 7 => some i
  | 8 => some i
  | 9 => some i
  | 10 => match k with
    | 5 => some 1
    | 9 => some 13
    | 10 => some 14
    | _ => some 0
  | 11 => some i
  | 46 => some (2 + k)
  | 47 => some k
  | 48 => some k
  | 100 => some k
  | _ => none
def zkey (i : Nat) : Int := match i with
  | 0 => 22198429125
  | 1 => 486
  | 2 => 52
  | 3 => 3180933
  | 4 => 655
  | 5 => 277925
  | 6 => 8892563
  | 7 => 2506483
  | 8 => 215533
  | 9 => 17376357
  | 10 => 24161459
  | 11 => 24282707
  | 12 => 20317291
  | 13 => 7657651
  | 14 => 677454
  | 15 => 631476
  | 16 => 508078
  | 17 => 431556
  | 18 => 643248
  | 19 => 17171758
  | 20 => 656780
  | 21 => 15748
  | 22 => 20350348
  | 23 => 14836
  | 24 => 1476
  | 25 => 498
  | 26 => 763332
  | 27 => 769614
  | 28 => 1514885
  | 29 => 14982420
  | _ => 0
def zswm (i : Nat) : Int := match i with
  | 0 => 1
  | 3 => 2
  | 7 => 3
  | 8 => 4
  | 9 => 5
  | 10 => 6
  | 11 => 7
  | 12 => 8
  | 13 => 9
  | _ => 0
/-- constants: of a Word free, ordinal; the switch's numbers; the script -/
def zKI (sx : Nat → Int) : ZP := fun t i k => match t with
  | 12 => match k with
    | 0 => if 26 ≤ i then 1 else 0
    | _ => (i : Int)
  | 101 => zswm k
  | 102 => sx k
  | _ => 0
def zKL : ZP := fun _ i _ => zkey i
/-- how many there are of a kind -/
def zcn (t : Nat) : Nat := match t with
  | 0 => 1
  | 1 => 2
  | 2 => 4
  | 3 => 23
  | 4 => 2
  | 5 => 1
  | 6 => 3
  | 7 => 22
  | 8 => 1
  | 9 => 1
  | 10 => 1
  | 11 => 1
  | 12 => 30
  | 20 => 1
  | 21 => 1
  | 22 => 1
  | 23 => 1
  | 24 => 1
  | 25 => 2
  | 26 => 23
  | 27 => 2
  | 28 => 2
  | 29 => 2
  | 30 => 2
  | 31 => 2
  | 32 => 2
  | 33 => 3
  | 34 => 3
  | 35 => 3
  | 36 => 3
  | 37 => 3
  | 38 => 3
  | 39 => 3
  | 40 => 22
  | 41 => 22
  | 42 => 1
  | 43 => 1
  | 44 => 1
  | 45 => 1
  | 46 => 1
  | 47 => 1
  | 48 => 1
  | 50 => 1
  | 51 => 1
  | 52 => 1
  | 53 => 1
  | 54 => 1
  | 55 => 1
  | 56 => 1
  | 57 => 1
  | 58 => 1
  | 59 => 1
  | 60 => 1
  | 61 => 1
  | 62 => 1
  | 63 => 1
  | 64 => 1
  | 65 => 1
  | 66 => 1
  | 67 => 1
  | 68 => 1
  | 69 => 1
  | 70 => 1
  | 71 => 1
  | 72 => 1
  | 73 => 1
  | 74 => 1
  | 75 => 1
  | 76 => 1
  | 77 => 1
  | 78 => 1
  | 79 => 1
  | 80 => 1
  | 81 => 1
  | 82 => 1
  | 83 => 1
  | 84 => 1
  | 85 => 1
  | 86 => 1
  | 87 => 1
  | 88 => 1
  | 89 => 1
  | 90 => 1
  | 91 => 1
  | 100 => 1
  | 101 => 1
  | 102 => 1
  | 103 => 1
  | _ => 0
/-- what stands fast while the law runs its calls -/
def zK0 (sl : Nat) (sx : Nat → Int) : ZK := (zFc, zlen sl, zKI sx, zKL, zcn)
end
section
def znl : List (ZT × Nat) → Nat → Option (ZT × Nat)
  | [], _ => none
  | a :: _, 0 => some a
  | _ :: l, n + 1 => znl l n
/-- the first list says less than the second -/
def zle : ZL → ZL → Prop
  | [], [] => True
  | a :: l, b :: l' => (a = none ∨ a = b) ∧ zle l l'
  | _, _ => False
theorem zle_rf : ∀ l : ZL, zle l l
  | [] => trivial
  | _ :: l => ⟨.inr rfl, zle_rf l⟩
theorem zle_nt : ∀ {l l' : ZL} {i : Nat} {v : ZV}, zle l l' → znt l i = some v → znt l' i = some v
  | [], _, _, _, _, h => by simp [znt] at h
  | a :: l, [], _, _, h, _ => h.elim
  | a :: l, b :: l', 0, v, h, hv => by
    simp only [znt] at hv ⊢
    rcases h.1 with e | e
    · rw [e] at hv; cases hv
    · rw [← e]; exact hv
  | a :: l, b :: l', i + 1, v, h, hv => zle_nt (l := l) (l' := l') h.2 hv
theorem zle_se : ∀ {l l' : ZL} (i : Nat) (x : Option ZV), zle l l' → zle (zse l i x) (zse l' i x)
  | [], [], _, _, _ => trivial
  | [], _ :: _, _, _, h => h.elim
  | _ :: _, [], _, _, h => h.elim
  | _ :: _, _ :: _, 0, _, h => ⟨.inr rfl, h.2⟩
  | _ :: _, _ :: _, i + 1, x, h => ⟨h.1, zle_se i x h.2⟩
theorem zle_sn : ∀ {l l' : ZL} (i : Nat), zle l l' → znt l i = none → zle l (zse l' i none)
  | [], [], _, _, _ => trivial
  | [], _ :: _, _, h, _ => h.elim
  | _ :: _, [], _, h, _ => h.elim
  | a :: _, _ :: _, 0, h, e => ⟨.inl (by simpa [znt] using e), h.2⟩
  | _ :: _, _ :: _, i + 1, h, e => ⟨h.1, zle_sn i h.2 (by simpa [znt] using e)⟩
theorem zle_cl {l l' : ZL} (i : Nat) (h : zle l l') : zle (zcl l i) (zcl l' i) := by
  cases i with
  | zero => exact h
  | succ j =>
    simp only [zcl]
    cases hv : znt l j with
    | none =>
      cases hw : znt l' j with
      | none => exact h
      | some w =>
        rcases w with x | x | x
        · exact h
        · exact zle_sn j h hv
        · exact h
    | some v =>
      rw [zle_nt h hv]
      rcases v with x | x | x
      · exact h
      · exact zle_se j none h
      · exact h

theorem zse_len : ∀ (l : ZL) (i : Nat) (x : Option ZV), (zse l i x).length = l.length
  | [], _, _ => rfl
  | _ :: _, 0, _ => rfl
  | _ :: l, i + 1, x => by simp [zse, zse_len l i x]
theorem zim {r : ZR} {c : Prop} [Decidable c] {a a' b b' : Option ZR} (ha : a = some r → a' = some r) (hb : b = some r → b' = some r) (h : (if c then a else b) = some r) : (if c then a' else b') = some r := by
  by_cases e : c
  · rw [if_pos e] at h ⊢; exact ha h
  · rw [if_neg e] at h ⊢; exact hb h
theorem zbm_mono {r : ZR} {b : Bool} {a a' : Option ZR} (ha : a = some r → a' = some r) (h : zbm b a none = some r) : zbm b a' none = some r := by
  cases b with
  | true => exact ha h
  | false => cases h
theorem zem_mono {r : ZR} {q : Nat} {a0 a1 a2 a3 a4 a5 a6 b0 b1 b2 b3 b4 b5 b6 : Option ZR} (h0 : a0 = some r → b0 = some r) (h1 : a1 = some r → b1 = some r) (h2 : a2 = some r → b2 = some r) (h3 : a3 = some r → b3 = some r) (h4 : a4 = some r → b4 = some r) (h5 : a5 = some r → b5 = some r) (h6 : a6 = some r → b6 = some r) (h : zem q a0 a1 a2 a3 a4 a5 a6 none = some r) : zem q b0 b1 b2 b3 b4 b5 b6 none = some r := by
  match q, h with
  | 0, h => exact h0 h
  | 1, h => exact h1 h
  | 2, h => exact h2 h
  | 3, h => exact h3 h
  | 4, h => exact h4 h
  | 5, h => exact h5 h
  | 6, h => exact h6 h
  | _ + 7, h => exact h
theorem zgf_mono {r : ZR} {M : ZM} {ax : List Nat} {i : Nat} {f f' : ZV → Option ZR} (hf : ∀ v, f v = some r → f' v = some r) (h : zgf M ax i f none = some r) : zgf M ax i f' none = some r := by
  unfold zgf at h ⊢
  split at h
  · split at h <;> first | exact hf _ h | cases h
  · cases h
theorem zpf_mono {r : ZR} {M : ZM} {ax : List Nat} {i : Nat} {v : ZV} {f f' : ZM → Option ZR} (hf : ∀ v, f v = some r → f' v = some r) (h : zpf M ax i v f none = some r) : zpf M ax i v f' none = some r := by
  unfold zpf at h ⊢
  split at h
  · split at h
    · exact hf _ h
    · exact zbm_mono (hf _) h
    · exact hf _ h
    · exact zbm_mono (hf _) h
    · split at h
      · exact hf _ h
      · exact zbm_mono (hf _) h
    · cases h
  · cases h
theorem ziv_mono {r : ZR} {M : ZM} {ax : List Nat} {st : List ZV} {f f' : List ZV → ZM → Option ZR} {g g' : Nat → List ZV → List ZV → Option ZR} (hf : ∀ v M, f v M = some r → f' v M = some r) (hg : ∀ a b c, g a b c = some r → g' a b c = some r) (h : ziv M ax st f g none = some r) : ziv M ax st f' g' none = some r := by
  unfold ziv at h ⊢
  split at h
  · split at h
    · exact zbm_mono (hg _ _ _) h
    · cases h
  · split at h
    · exact zbm_mono (hg _ _ _) h
    · cases h
  · split at h
    · exact zbm_mono (hf _ _) h
    · cases h
  · split at h
    · exact zbm_mono (zem_mono (zem_mono (zim (hf _ _) (fun h => h)) (fun h => h) (fun h => h) (fun h => h) (fun h => h) (fun h => h) (fun h => h)) (fun h => h) (fun h => h) (fun h => h) (fun h => h) (fun h => h) (fun h => h)) h
    · cases h
  · split at h
    · exact zbm_mono (hf _ _) h
    · cases h
  · split at h
    · exact zbm_mono (zim (hf _ _) (hf _ _)) h
    · cases h
  · split at h
    · exact zbm_mono (hf _ _) h
    · cases h
  · split at h
    · exact zbm_mono (hf _ _) h
    · cases h
  · split at h
    · exact zbm_mono (hf _ _) h
    · cases h
  · cases h
section ZMONO
variable {k k' : Nat → ZL → List ZV → ZM → Option ZR} {kr : Option ZV → ZM → Option ZR} {kc kc' : Nat → List ZV → List ZV → Option ZR} {r : ZR}
theorem zld_mono {β : Type} {o o' : Option ZV} {f f' : ZV → Option β} {r : β} (ho : ∀ v, o = some v → o' = some v) (hf : ∀ v, f v = some r → f' v = some r) (h : zld o f none = some r) : zld o' f' none = some r := by
  cases e : o with
  | none => rw [e] at h; cases h
  | some v => rw [e] at h; rw [ho v e]; exact hf v h
set_option maxHeartbeats 4000000 in
theorem zst_mono (hk : ∀ pc ls ls' st M, zle ls ls' → k pc ls st M = some r → k' pc ls' st M = some r) (hc : ∀ mi as rest, kc mi as rest = some r → kc' mi as rest = some r) {e : ZE} {pc : Nat} {ls ls' : ZL} {st : List ZV} {M : ZM} (hl : zle ls ls') (h : zst e pc ls st M k kr kc none = some r) : zst e pc ls' st M k' kr kc' none = some r := by
  obtain ⟨ins, len, ax, cv⟩ := e
  have hle := hl
  have sw : ∀ (x : Int) (cv : List Int) (ts : List Nat) (f f' : Nat → Option ZR) (d d' : Option ZR), (∀ t, f t = some r → f' t = some r) → (d = some r → d' = some r) → zsw x cv ts f d = some r → zsw x cv ts f' d' = some r := by
    intro x cv
    induction cv with
    | nil => intro ts f f' d d' hf hd h; exact hd h
    | cons v vs ih =>
      intro ts f f' d d' hf hd h
      cases ts with
      | nil => exact hd h
      | cons t ts =>
        simp only [zsw] at h ⊢
        split at h
        · next e => rw [if_pos e]; exact hf t h
        · next e => rw [if_neg e]; exact ih ts f f' d d' hf hd h
  have br : ∀ (c : ClassFile.Cond) (x y : Int) (a a' b b' : Option ZR), (a = some r → a' = some r) → (b = some r → b' = some r) → zbr c x y a b = some r → zbr c x y a' b' = some r := by
    intro c x y a a' b b' ha hb h
    cases c <;> simp only [zbr] at h ⊢ <;> split at h <;> (next e => first | (rw [if_pos e]; first | exact ha h | exact hb h) | (rw [if_neg e]; first | exact ha h | exact hb h))
  cases ins
  case aload => exact zld_mono (fun v hv => zle_nt hl hv) (fun v hv => by rcases v with x | x | x <;> first | exact hk _ _ _ _ _ hl hv | exact hv) h
  case aload_n => exact zld_mono (fun v hv => zle_nt hl hv) (fun v hv => by rcases v with x | x | x <;> first | exact hk _ _ _ _ _ hl hv | exact hv) h
  case iload => exact zld_mono (fun v hv => zle_nt hl hv) (fun v hv => by rcases v with x | x | x <;> first | exact hk _ _ _ _ _ hl hv | exact hv) h
  case iload_n => exact zld_mono (fun v hv => zle_nt hl hv) (fun v hv => by rcases v with x | x | x <;> first | exact hk _ _ _ _ _ hl hv | exact hv) h
  case lload => exact zld_mono (fun v hv => zle_nt hl hv) (fun v hv => by rcases v with x | x | x <;> first | exact hk _ _ _ _ _ hl hv | exact hv) h
  case lload_n => exact zld_mono (fun v hv => zle_nt hl hv) (fun v hv => by rcases v with x | x | x <;> first | exact hk _ _ _ _ _ hl hv | exact hv) h
  case iinc => exact zld_mono (fun v hv => zle_nt hl hv) (fun v hv => by rcases v with x | x | x <;> first | exact hk _ _ _ _ _ (zle_se _ _ hl) hv | exact hv) h
  case astore => rcases st with _ | ⟨x | x | x, st⟩ <;> first | exact hk _ _ _ _ _ (zle_se _ _ (zle_cl _ hl)) h | exact h
  case astore_n => rcases st with _ | ⟨x | x | x, st⟩ <;> first | exact hk _ _ _ _ _ (zle_se _ _ (zle_cl _ hl)) h | exact h
  case istore => rcases st with _ | ⟨x | x | x, st⟩ <;> first | exact hk _ _ _ _ _ (zle_se _ _ (zle_cl _ hl)) h | exact h
  case istore_n => rcases st with _ | ⟨x | x | x, st⟩ <;> first | exact hk _ _ _ _ _ (zle_se _ _ (zle_cl _ hl)) h | exact h
  case lstore => rcases st with _ | ⟨x | x | x, st⟩ <;> first | exact hk _ _ _ _ _ (zle_se _ _ (zle_se _ _ (zle_cl _ hl))) h | exact h
  case lstore_n => rcases st with _ | ⟨x | x | x, st⟩ <;> first | exact hk _ _ _ _ _ (zle_se _ _ (zle_se _ _ (zle_cl _ hl))) h | exact h
  case iconst => exact hk _ _ _ _ _ hl h
  case bipush => exact hk _ _ _ _ _ hl h
  case sipush => exact hk _ _ _ _ _ hl h
  case lconst => exact hk _ _ _ _ _ hl h
  case aconst_null => exact hk _ _ _ _ _ hl h
  case goto => exact hk _ _ _ _ _ hl h
  case new => exact zbm_mono (hk _ _ _ _ _ hl) h
  case ldc => rcases cv with _ | ⟨x, cv⟩ <;> first | exact hk _ _ _ _ _ hl h | exact h
  case ldc_w => rcases cv with _ | ⟨x, cv⟩ <;> first | exact hk _ _ _ _ _ hl h | exact h
  case ldc2_w => rcases cv with _ | ⟨x, cv⟩ <;> first | exact hk _ _ _ _ _ hl h | exact h
  case iadd => rcases st with _ | ⟨x | x | x, _ | ⟨y | y | y, st⟩⟩ <;> first | exact hk _ _ _ _ _ hl h | exact h
  case isub => rcases st with _ | ⟨x | x | x, _ | ⟨y | y | y, st⟩⟩ <;> first | exact hk _ _ _ _ _ hl h | exact h
  case imul => rcases st with _ | ⟨x | x | x, _ | ⟨y | y | y, st⟩⟩ <;> first | exact hk _ _ _ _ _ hl h | exact h
  case iand => rcases st with _ | ⟨x | x | x, _ | ⟨y | y | y, st⟩⟩ <;> first | exact hk _ _ _ _ _ hl h | exact h
  case ior => rcases st with _ | ⟨x | x | x, _ | ⟨y | y | y, st⟩⟩ <;> first | exact hk _ _ _ _ _ hl h | exact h
  case ixor => rcases st with _ | ⟨x | x | x, _ | ⟨y | y | y, st⟩⟩ <;> first | exact hk _ _ _ _ _ hl h | exact h
  case ishl => rcases st with _ | ⟨x | x | x, _ | ⟨y | y | y, st⟩⟩ <;> first | exact hk _ _ _ _ _ hl h | exact h
  case ishr => rcases st with _ | ⟨x | x | x, _ | ⟨y | y | y, st⟩⟩ <;> first | exact hk _ _ _ _ _ hl h | exact h
  case ladd => rcases st with _ | ⟨x | x | x, _ | ⟨y | y | y, st⟩⟩ <;> first | exact hk _ _ _ _ _ hl h | exact h
  case lsub => rcases st with _ | ⟨x | x | x, _ | ⟨y | y | y, st⟩⟩ <;> first | exact hk _ _ _ _ _ hl h | exact h
  case lmul => rcases st with _ | ⟨x | x | x, _ | ⟨y | y | y, st⟩⟩ <;> first | exact hk _ _ _ _ _ hl h | exact h
  case land => rcases st with _ | ⟨x | x | x, _ | ⟨y | y | y, st⟩⟩ <;> first | exact hk _ _ _ _ _ hl h | exact h
  case lor => rcases st with _ | ⟨x | x | x, _ | ⟨y | y | y, st⟩⟩ <;> first | exact hk _ _ _ _ _ hl h | exact h
  case lshl => rcases st with _ | ⟨x | x | x, _ | ⟨y | y | y, st⟩⟩ <;> first | exact hk _ _ _ _ _ hl h | exact h
  case lushr => rcases st with _ | ⟨x | x | x, _ | ⟨y | y | y, st⟩⟩ <;> first | exact hk _ _ _ _ _ hl h | exact h
  case lcmp => rcases st with _ | ⟨x | x | x, _ | ⟨y | y | y, st⟩⟩ <;> first | exact hk _ _ _ _ _ hl h | exact h
  case idiv => rcases st with _ | ⟨x | x | x, _ | ⟨y | y | y, st⟩⟩ <;> first | exact zim (fun h => h) (hk _ _ _ _ _ hl) h | exact h
  case irem => rcases st with _ | ⟨x | x | x, _ | ⟨y | y | y, st⟩⟩ <;> first | exact zim (fun h => h) (hk _ _ _ _ _ hl) h | exact h
  case ldiv => rcases st with _ | ⟨x | x | x, _ | ⟨y | y | y, st⟩⟩ <;> first | exact zim (fun h => h) (hk _ _ _ _ _ hl) h | exact h
  case lrem => rcases st with _ | ⟨x | x | x, _ | ⟨y | y | y, st⟩⟩ <;> first | exact zim (fun h => h) (hk _ _ _ _ _ hl) h | exact h
  case ineg => rcases st with _ | ⟨x | x | x, st⟩ <;> first | exact hk _ _ _ _ _ hl h | exact h
  case i2l => rcases st with _ | ⟨x | x | x, st⟩ <;> first | exact hk _ _ _ _ _ hl h | exact h
  case l2i => rcases st with _ | ⟨x | x | x, st⟩ <;> first | exact hk _ _ _ _ _ hl h | exact h
  case i2b => rcases st with _ | ⟨x | x | x, st⟩ <;> first | exact hk _ _ _ _ _ hl h | exact h
  case dup => rcases st with _ | ⟨x | x | x, st⟩ <;> first | exact hk _ _ _ _ _ hl h | exact h
  case pop => rcases st with _ | ⟨x | x | x, st⟩ <;> first | exact hk _ _ _ _ _ hl h | exact h
  case dup2 => rcases st with _ | ⟨x | x | x, _ | ⟨y | y | y, st⟩⟩ <;> first | exact hk _ _ _ _ _ hl h | exact h
  case ifCond => rcases st with _ | ⟨x | x | x, st⟩ <;> first | exact br _ _ _ _ _ _ _ (hk _ _ _ _ _ hl) (hk _ _ _ _ _ hl) h | exact h
  case if_icmp => rcases st with _ | ⟨x | x | x, _ | ⟨y | y | y, st⟩⟩ <;> first | exact br _ _ _ _ _ _ _ (hk _ _ _ _ _ hl) (hk _ _ _ _ _ hl) h | exact h
  case if_acmp => rename_i c _; rcases st with _ | ⟨x | x | ⟨t, x⟩, _ | ⟨y | y | ⟨t2, y⟩, st⟩⟩ <;> first | exact h | (cases c <;> exact zbm_mono (zim (hk _ _ _ _ _ hl) (hk _ _ _ _ _ hl)) h)
  case ifnull => rcases st with _ | ⟨x | x | ⟨t, _ | x⟩, st⟩ <;> first | exact hk _ _ _ _ _ hl h | exact h
  case ifnonnull => rcases st with _ | ⟨x | x | ⟨t, _ | x⟩, st⟩ <;> first | exact hk _ _ _ _ _ hl h | exact h
  case tableswitch => rcases st with _ | ⟨x | x | x, st⟩ <;> rcases ax with _ | ⟨d, ts⟩ <;> first | exact h | exact sw _ _ _ _ _ _ _ (fun t => hk _ _ _ _ _ hl) (hk _ _ _ _ _ hl) h
  case getfield => rcases st with _ | ⟨x | x | ⟨t, _ | x⟩, st⟩ <;> first | exact h | exact zbm_mono (zgf_mono (fun v => hk _ _ _ _ _ hl)) h
  case putfield => rcases st with _ | ⟨v, _ | ⟨x | x | ⟨t, _ | x⟩, st⟩⟩ <;> first | exact h | exact zbm_mono (zpf_mono (fun v => hk _ _ _ _ _ hl)) h
  case getstatic => rcases ax with _ | ⟨a, _ | ⟨b, ax⟩⟩ <;> first | exact h | exact hk _ _ _ _ _ hl h
  case iaload => rcases st with _ | ⟨x | x | x, _ | ⟨y | y | ⟨t, _ | y⟩, st⟩⟩ <;> first | exact h | exact zem_mono (zim (hk _ _ _ _ _ hl) (fun h => h)) (fun h => h) (fun h => h) (fun h => h) (fun h => h) (zim (hk _ _ _ _ _ hl) (fun h => h)) (fun h => h) h
  case baload => rcases st with _ | ⟨x | x | x, _ | ⟨y | y | ⟨t, _ | y⟩, st⟩⟩ <;> first | exact h | exact zem_mono (fun h => h) (fun h => h) (zim (hk _ _ _ _ _ hl) (fun h => h)) (zim (hk _ _ _ _ _ hl) (fun h => h)) (fun h => h) (fun h => h) (fun h => h) h
  case laload => rcases st with _ | ⟨x | x | x, _ | ⟨y | y | ⟨t, _ | y⟩, st⟩⟩ <;> first | exact h | exact zem_mono (fun h => h) (zim (hk _ _ _ _ _ hl) (fun h => h)) (fun h => h) (fun h => h) (fun h => h) (fun h => h) (fun h => h) h
  case aaload => rcases st with _ | ⟨x | x | x, _ | ⟨y | y | ⟨t, _ | y⟩, st⟩⟩ <;> first | exact h | exact zem_mono (fun h => h) (fun h => h) (fun h => h) (fun h => h) (zim (hk _ _ _ _ _ hl) (fun h => h)) (fun h => h) (zim (hk _ _ _ _ _ hl) (fun h => h)) h
  case iastore => rcases st with _ | ⟨v | v | v, _ | ⟨x | x | x, _ | ⟨y | y | ⟨t, _ | y⟩, st⟩⟩⟩ <;> first | exact h | exact zem_mono (zim (hk _ _ _ _ _ hl) (fun h => h)) (fun h => h) (fun h => h) (fun h => h) (fun h => h) (fun h => h) (fun h => h) h
  case lastore => rcases st with _ | ⟨v | v | v, _ | ⟨x | x | x, _ | ⟨y | y | ⟨t, _ | y⟩, st⟩⟩⟩ <;> first | exact h | exact zem_mono (fun h => h) (zim (hk _ _ _ _ _ hl) (fun h => h)) (fun h => h) (fun h => h) (fun h => h) (fun h => h) (fun h => h) h
  case bastore => rcases st with _ | ⟨v | v | v, _ | ⟨x | x | x, _ | ⟨y | y | ⟨t, _ | y⟩, st⟩⟩⟩ <;> first | exact h | exact zem_mono (fun h => h) (fun h => h) (zim (hk _ _ _ _ _ hl) (fun h => h)) (zim (hk _ _ _ _ _ hl) (fun h => h)) (fun h => h) (fun h => h) (fun h => h) h
  case aastore => rcases st with _ | ⟨v | v | ⟨t2, _ | v⟩, _ | ⟨x | x | x, _ | ⟨y | y | ⟨t, _ | y⟩, st⟩⟩⟩ <;> first | exact h | exact zbm_mono (zem_mono (fun h => h) (fun h => h) (fun h => h) (fun h => h) (zim (hk _ _ _ _ _ hl) (fun h => h)) (fun h => h) (fun h => h)) h
  case arraylength => rcases st with _ | ⟨x | x | ⟨t, _ | x⟩, st⟩ <;> first | exact h | exact zem_mono (hk _ _ _ _ _ hl) (hk _ _ _ _ _ hl) (hk _ _ _ _ _ hl) (hk _ _ _ _ _ hl) (hk _ _ _ _ _ hl) (hk _ _ _ _ _ hl) (hk _ _ _ _ _ hl) h
  case newarray => rcases st with _ | ⟨x | x | x, st⟩ <;> first | exact h | exact zim (hk _ _ _ _ _ hl) (fun h => h) h
  case anewarray => rcases st with _ | ⟨x | x | x, st⟩ <;> first | exact h | exact zim (hk _ _ _ _ _ hl) (fun h => h) h
  case invokevirtual => exact ziv_mono (fun v M => hk _ _ _ _ _ hl) (fun a b c => hc a b c) h
  case invokespecial => exact ziv_mono (fun v M => hk _ _ _ _ _ hl) (fun a b c => hc a b c) h
  case invokestatic => exact ziv_mono (fun v M => hk _ _ _ _ _ hl) (fun a b c => hc a b c) h
  case ireturn => exact h
  case lreturn => exact h
  case return_ => exact h
  all_goals exact h
end ZMONO

theorem zex_mono {G : ZG} : ∀ {n n' d : Nat} {tab : ZT} {pc : Nat} {ls ls' : ZL} {st : List ZV} {M : ZM} {r : ZR}, n ≤ n' → zle ls ls' → zex G d tab pc ls st M n = some r → zex G d tab pc ls' st M n' = some r := by
  intro n
  induction n with
  | zero => intro n' d tab pc ls ls' st M r _ _ h; cases h
  | succ n ih =>
    intro n' d tab pc ls ls' st M r hn hl h
    obtain ⟨n', rfl⟩ : ∃ m, n' = m + 1 := ⟨n' - 1, by omega⟩
    have hn2 : n ≤ n' := by omega
    unfold zex at h ⊢
    cases e : zfd tab pc with
    | none => rw [e] at h; cases h
    | some q =>
      rw [e] at h
      refine zst_mono (k := fun pc ls st M => zex G d tab pc ls st M n) (fun pc ls ls' st M hl h => ih hn2 hl h) ?_ hl h
      intro mi as rest h
      cases d with
      | zero => cases h
      | succ d =>
        simp only [zcd] at h ⊢
        cases e2 : G mi with
        | none => rw [e2] at h; cases h
        | some q2 =>
          obtain ⟨tab2, nl⟩ := q2
          rw [e2] at h
          simp only [zcg] at h ⊢
          refine zbm_mono ?_ h
          intro h
          cases e3 : zex G d tab2 0 (zen nl as) [] M n with
          | none => rw [e3] at h; cases h
          | some q3 =>
            obtain ⟨rv, M2⟩ := q3
            rw [e3] at h
            rw [ih hn2 (zle_rf _) e3]
            simp only [zcall] at h ⊢
            exact ih hn2 hl h
end
section
def zG (mi : Nat) : Option (ZT × Nat) := znl [(tb_X1_init, 1), (tb_X1_measure, 3), (tb_X1_take, 7), (tb_X1_give, 5), (tb_X1_bring, 7), (tb_X1_sold, 3), (tb_X1_runStep, 5), (tb_X2_init, 1), (tb_X2_value, 8), (tb_X2_fact, 5), (tb_X2_joined, 3), (tb_X3_init, 1), (tb_X3_lay, 4), (tb_X4_init, 2), (tb_X4_add, 2), (tb_X4_get, 2), (tb_X4_round, 2), (tb_X4_copy, 2), (tb_X5_init, 1), (tb_X5_clear, 1), (tb_X5_addTurbine, 6), (tb_X5_byName, 4), (tb_X5_isTaken, 3), (tb_X5_priceAt, 2), (tb_X5_isSlack, 2), (tb_X5_tenths, 10), (tb_X5_takenOf, 4), (tb_X5_gives, 8), (tb_X5_turnedBy, 1), (tb_X5_left, 2), (tb_X5_drift, 3), (tb_X5_only, 2), (tb_X6_init, 3), (tb_X6_readPark, 3), (tb_X6_readDay, 4), (tb_X6_readParkLine, 2), (tb_X6_readTurbine, 6), (tb_X6_readCable, 3), (tb_X6_readGoal, 2), (tb_X6_readList, 4), (tb_X6_readWakes, 2), (tb_X6_readWears, 1), (tb_X6_readSlack, 1), (tb_X6_readE, 4), (tb_X6_readTest, 3), (tb_X6_readSum, 4), (tb_X6_readProduct, 3), (tb_X6_readPart, 6), (tb_X6_readDayLine, 2), (tb_X6_fail, 2), (tb_X6_once, 2), (tb_X6_passSign, 2), (tb_X6_passWord, 2), (tb_X6_passNumber, 3), (tb_X6_isNumber, 3), (tb_X6_isName, 2), (tb_X6_isTurbine, 1), (tb_X6_kindOf, 1), (tb_X6_deedOf, 1), (tb_X6_factOf, 1), (tb_X7_init, 1), (tb_X7_seek, 9), (tb_X7_foresee, 11), (tb_X7_listTries, 6), (tb_X7_isNew, 5), (tb_X7_isAlike, 5), (tb_X7_angleOf, 2), (tb_X7_keepRow, 3), (tb_X7_next, 3), (tb_X7_addFrom, 6), (tb_X7_giftOf, 4), (tb_X7_sale, 5), (tb_X7_share, 5), (tb_X8_init, 1), (tb_X8_begin, 2), (tb_X8_copy, 2), (tb_X8_everyone, 2), (tb_X8_isOpen, 2), (tb_X8_isBroken, 2), (tb_X8_runs, 2), (tb_X8_can, 4), (tb_X8_act, 6), (tb_X8_wear, 5), (tb_X9_init, 1), (tb_X9_put, 6), (tb_X9_clear, 1), (tb_X9_start, 1), (tb_X9_pass, 2), (tb_X9_takeWord, 4), (tb_X9_takeNumber, 3), (tb_X9_isSign, 1), (tb_X10_init, 1), (tb_X10_guess, 8), (tb_X10_mostAlike, 5), (tb_X10_note, 3), (tb_X10_isAsSeen, 4), (tb_X12_init, 2), (tb_X12_feed, 7), (tb_X12_park, 4), (tb_X12_day, 1), (tb_X12_turbine, 3), (tb_X12_wind, 2), (tb_X12_power, 2), (tb_X12_carried, 2), (tb_X12_home, 1), (tb_X12_turn, 4), (tb_X12_shut, 2), (tb_X12_open, 2), (tb_X12_mend, 2), (tb_X12_step, 1), (tb_X12_undo, 1), (tb_X12_judged, 8), (tb_X12_takes, 3), (tb_X12_later, 3), (tb_X12_total, 4), (tb_X12_breaks, 3), (tb_X12_lost, 1), (tb_X12_best, 2), (tb_X12_alone, 3), (tb_X12_idle, 6), (tb_X12_straight, 1), (tb_X12_full, 3), (tb_X12_dear, 4), (tb_X12_fault, 2), (tb_X12_robbed, 4), (tb_X12_front, 3), (tb_X12_shade, 4), (tb_X12_hops, 5), (tb_X12_see, 3), (tb_X12_winds, 2), (tb_X12_ask, 5), (tb_X12_chance, 7), (tb_X12_rests, 9), (tb_X12_days, 11), (tb_X12_mark, 4), (tb_X12_count, 2), (tb_X12_stands, 2), (tb_X12_act, 4), (tb_X12_remember, 1), (tb_X12_forgetPast, 1), (tb_X12_forgetSearches, 2), (tb_X12_takenNow, 3), (tb_X12_searched, 4), (tb_X12_ownWind, 5), (tb_X12_isDigit, 1), (tb_X12_keeps, 5), (tb_X12_gain, 5), (tb_X12_drawn, 2), (tb_X12_below, 3), (tb_X13_init, 1), (tb_X13_thrown, 1), (tb_X13_within, 3), (tb_X13_between, 3), (tb_X13_feed, 11), (tb_X13_signAt, 2), (tb_X13_nextToken, 2), (tb_X13_isWord, 3), (tb_X13_isSign, 2), (tb_X13_fails, 2), (tb_X13_usual, 3), (tb_X13_puts, 2), (tb_X13_fact, 1), (tb_X13_reads, 6), (tb_X13_opens, 2), (tb_X13_sums, 2), (tb_X13_tests, 3), (tb_X13_worked, 6), (tb_X13_isKept, 1), (tb_X13_turbineNamed, 3), (tb_X13_needsNumber, 3), (tb_X13_needsBoth, 5), (tb_X13_closes, 1), (tb_X13_needsTurbine, 2), (tb_X13_stands, 3), (tb_X13_readsTurbine, 4), (tb_X13_readsCable, 3), (tb_X13_isTold, 3), (tb_X13_readsRow, 4), (tb_X13_readsOne, 3), (tb_X13_readsWakes, 2), (tb_X13_readsGives, 1), (tb_X13_begins, 1), (tb_X13_readsPark, 1), (tb_X13_readsAll, 1), (tb_X13_shifts, 3), (tb_X13_lays, 2), (tb_X13_copies, 5), (tb_X13_readsLine, 3), (tb_X13_laysLines, 4), (tb_X13_laysSeen, 4), (tb_X13_fresh0, 2), (tb_X13_park, 2), (tb_X13_day, 1), (tb_X13_isTurbine, 2), (tb_X13_rowOf, 3), (tb_X13_priceNow, 1), (tb_X13_isShut, 2), (tb_X13_isBroken, 2), (tb_X13_runs, 2), (tb_X13_turnedOf, 2), (tb_X13_looks, 1), (tb_X13_behind, 8), (tb_X13_takesOf, 4), (tb_X13_takenOf, 4), (tb_X13_windOf, 2), (tb_X13_powerOf, 3), (tb_X13_hopsOf, 4), (tb_X13_homeBy, 5), (tb_X13_laysPowers, 2), (tb_X13_homeNow, 1), (tb_X13_powersNow, 3), (tb_X13_soldNow, 1), (tb_X13_passes, 5), (tb_X13_turbine, 3), (tb_X13_wind, 2), (tb_X13_power, 2), (tb_X13_carried, 2), (tb_X13_home, 1), (tb_X13_keeps, 2), (tb_X13_turn, 4), (tb_X13_canMend, 2), (tb_X13_mends, 2), (tb_X13_shut, 2), (tb_X13_open, 2), (tb_X13_mend, 2), (tb_X13_step, 1), (tb_X13_undo, 1), (tb_X13_isDone, 4), (tb_X13_judged, 6), (tb_X13_takes, 3), (tb_X13_later, 3), (tb_X13_total, 4), (tb_X13_breaks, 3), (tb_X13_lost, 2), (tb_X13_turnsAll, 7), (tb_X13_ownedBy, 4), (tb_X13_powerBy, 4), (tb_X13_foundOf, 5), (tb_X13_best, 2), (tb_X13_alone, 3), (tb_X13_idle, 7), (tb_X13_straight, 3), (tb_X13_full, 3), (tb_X13_dear, 5), (tb_X13_fault, 2), (tb_X13_hops, 2), (tb_X13_windsOf, 4), (tb_X13_robbed, 5), (tb_X13_front, 3), (tb_X13_shade, 4), (tb_X13_laysWinds, 4), (tb_X13_see, 3), (tb_X13_winds, 7), (tb_X13_ask, 6), (tb_X13_chance, 7), (tb_X13_getsBy, 5), (tb_X13_rests, 9), (tb_X13_draws, 2), (tb_X13_livesStep, 3), (tb_X13_days, 7), (tb_X13_mark, 5), (tb_X13_count, 2), (tb_J9_floorMod_7cf53, 3), (tb_J7_fill_53178, 4)] mi
def zR (d : Nat) (tab : ZT) (pc : Nat) (ls : ZL) (st : List ZV) (M : ZM) (r : ZR) : Prop := ∃ n, zex zG d tab pc ls st M n = some r
section ZRUN
variable {d : Nat} {tab tab2 : ZT} {pc pc' : Nat} {ls ls' ls2 : ZL} {st st' rest : List ZV} {M M' M1 M2 : ZM} {r : ZR} {rv : Option ZV}
theorem zR_go (k : Nat) (hr : zR d tab pc' ls' st' M' r) (h : ∀ n, zex zG d tab pc ls st M (n + k) = zex zG d tab pc' ls' st' M' n) : zR d tab pc ls st M r := by
  obtain ⟨n, hn⟩ := hr
  exact ⟨n + k, (h n).trans hn⟩
theorem zR_up (h : zR d tab pc ls st M r) (hl : zle ls ls') : zR d tab pc ls' st M r := by
  obtain ⟨n, hn⟩ := h
  exact ⟨n, zex_mono (Nat.le_refl n) hl hn⟩
theorem zR_ret (k : Nat) (h : zex zG d tab pc ls st M k = some r) : zR d tab pc ls st M r := ⟨k, h⟩
theorem zR_call (k : Nat) (hcal : zR d tab2 0 ls2 [] M1 (rv, M2)) (h : ∀ n, zex zG (d + 1) tab pc ls st M (n + k) = zcall (zex zG d tab2 0 ls2 [] M1 n) fun r M => zex zG (d + 1) tab pc' ls' (r.toList ++ rest) M n) (hc : zR (d + 1) tab pc' ls' (rv.toList ++ rest) M2 r) : zR (d + 1) tab pc ls st M r := by
  obtain ⟨n1, h1⟩ := hcal
  obtain ⟨n2, h2⟩ := hc
  refine ⟨(n1 + n2) + k, (h (n1 + n2)).trans ?_⟩
  rw [zex_mono (Nat.le_add_right n1 n2) (zle_rf _) h1]
  exact zex_mono (Nat.le_add_left n2 n1) (zle_rf _) h2
end ZRUN
section ZDEN
variable {α β : Type}
def zB (o : Option (Int × ZM)) (f : Int → ZM → Option β) : Option β := match o with
  | none => none
  | some p => f p.1 p.2
def zBv (o : Option ZM) (f : ZM → Option β) : Option β := match o with
  | none => none
  | some p => f p
def zO (o : Option Nat) (f : Nat → Option β) : Option β := match o with
  | none => none
  | some p => f p
def zN (o : Option Nat) (a : β) (f : Nat → β) : β := match o with
  | none => a
  | some p => f p
def zW (a : α) (f : α → β) : β := f a
theorem zBx {o : Option (Int × ZM)} {f : Int → ZM → Option β} {r : β} (h : zB o f = some r) : ∃ v M1, o = some (v, M1) ∧ f v M1 = some r := by
  cases o with
  | none => cases h
  | some p => exact ⟨p.1, p.2, rfl, h⟩
theorem zBvx {o : Option ZM} {f : ZM → Option β} {r : β} (h : zBv o f = some r) : ∃ M1, o = some M1 ∧ f M1 = some r := by
  cases o with
  | none => cases h
  | some p => exact ⟨p, rfl, h⟩
theorem zOx {o : Option Nat} {f : Nat → Option β} {r : β} (h : zO o f = some r) : ∃ v, o = some v ∧ f v = some r := by
  cases o with
  | none => cases h
  | some p => exact ⟨p, rfl, h⟩
theorem zNx {o : Option Nat} {a : Option β} {f : Nat → Option β} {r : β} (h : zN o a f = some r) : (o = none ∧ a = some r) ∨ ∃ v, o = some v ∧ f v = some r := by
  cases o with
  | none => exact .inl ⟨rfl, h⟩
  | some p => exact .inr ⟨p, rfl, h⟩
theorem zgd {c : Prop} [Decidable c] {a : Option β} {r : β} (h : (if c then a else none) = some r) : c ∧ a = some r := by
  by_cases e : c
  · rw [if_pos e] at h; exact ⟨e, h⟩
  · rw [if_neg e] at h; cases h
theorem zgn {c : Prop} [Decidable c] {a : Option β} {r : β} (h : (if c then none else a) = some r) : ¬ c ∧ a = some r := by
  by_cases e : c
  · rw [if_pos e] at h; cases h
  · rw [if_neg e] at h; exact ⟨e, h⟩
theorem zit {c : Prop} [Decidable c] {a b : Option β} {r : β} (h : (if c then a else b) = some r) : (c ∧ a = some r) ∨ (¬ c ∧ b = some r) := by
  by_cases e : c
  · rw [if_pos e] at h; exact .inl ⟨e, h⟩
  · rw [if_neg e] at h; exact .inr ⟨e, h⟩
end ZDEN
/-- a run that answers an int (a long, nothing), and leaves what stands fast -/
def zLI (d : Nat) (tab : ZT) (pc : Nat) (ls : ZL) (st : List ZV) (M : ZM) (x : Int) (M' : ZM) (K : ZK) : Prop := zR d tab pc ls st M (some (vI x), M') ∧ mK M' = K
def zLL (d : Nat) (tab : ZT) (pc : Nat) (ls : ZL) (st : List ZV) (M : ZM) (x : Int) (M' : ZM) (K : ZK) : Prop := zR d tab pc ls st M (some (vL x), M') ∧ mK M' = K
def zLV (d : Nat) (tab : ZT) (pc : Nat) (ls : ZL) (st : List ZV) (M : ZM) (M' : ZM) (K : ZK) : Prop := zR d tab pc ls st M (none, M') ∧ mK M' = K
def zI {β : Type} (c : Prop) [Decidable c] (a : Option β) : Option β := if c then a else none
theorem zIx {β : Type} {c : Prop} [Decidable c] {a : Option β} {r : β} (h : zI c a = some r) : c ∧ a = some r := zgd h
theorem zrI {a x : Int} {b M' : ZM} (h : some (a, b) = some (x, M')) : a = x ∧ b = M' := by
  have h2 := Option.some.inj h
  exact ⟨congrArg Prod.fst h2, congrArg Prod.snd h2⟩
theorem zrV {b M' : ZM} (h : some b = some M') : b = M' := Option.some.inj h
theorem zWx {α β : Type} {a : α} {f : α → β} {r : β} (h : zW a f = r) : f a = r := h
end
section
/-- of a kind and a field: the plane, the kind of what it refers to, which of the changing references -/
def zfp (t k : Nat) : Nat × Nat × Nat := match t with
  | 0 => match k with
    | 0 => (3, 20, 0)
    | 1 => (3, 21, 0)
    | 2 => (3, 22, 0)
    | 3 => (3, 23, 0)
    | 4 => (3, 24, 0)
    | 5 => (0, 0, 0)
    | _ => (0, 0, 0)
  | 1 => match k with
    | 0 => (3, 3, 0)
    | _ => (3, 25, 0)
  | 2 => match k with
    | 0 => (3, 7, 0)
    | 1 => (3, 3, 0)
    | 2 => (3, 3, 0)
    | _ => (1, 0, 0)
  | 3 => match k with
    | 0 => (3, 26, 0)
    | _ => (0, 0, 0)
  | 4 => match k with
    | 0 => (0, 0, 0)
    | 1 => (3, 27, 0)
    | 2 => (3, 28, 0)
    | 3 => (3, 29, 0)
    | 4 => (3, 30, 0)
    | 5 => (3, 31, 0)
    | 6 => (3, 32, 0)
    | 7 => (3, 3, 0)
    | 8 => (3, 3, 0)
    | 9 => (3, 3, 0)
    | 10 => (3, 3, 0)
    | 11 => (3, 3, 0)
    | 12 => (3, 1, 0)
    | 13 => (0, 0, 0)
    | _ => (0, 0, 0)
  | 5 => match k with
    | 0 => (3, 8, 0)
    | 1 => (3, 3, 0)
    | 2 => (4, 4, 2)
    | 3 => (0, 0, 0)
    | 4 => (0, 0, 0)
    | 5 => (0, 0, 0)
    | _ => (0, 0, 0)
  | 6 => match k with
    | 0 => (3, 33, 0)
    | 1 => (0, 0, 0)
    | 2 => (1, 0, 0)
    | 3 => (3, 34, 0)
    | 4 => (3, 35, 0)
    | 5 => (3, 36, 0)
    | 6 => (3, 37, 0)
    | 7 => (3, 38, 0)
    | _ => (3, 39, 0)
  | 7 => match k with
    | 0 => (3, 40, 0)
    | 1 => (3, 41, 0)
    | 2 => (0, 0, 0)
    | 3 => (0, 0, 0)
    | 4 => (0, 0, 0)
    | _ => (0, 0, 0)
  | 8 => match k with
    | 0 => (3, 42, 0)
    | 1 => (0, 0, 0)
    | 2 => (0, 0, 0)
    | 3 => (0, 0, 0)
    | 4 => (0, 0, 0)
    | 5 => (2, 0, 0)
    | 6 => (4, 12, 3)
    | _ => (0, 0, 0)
  | 9 => match k with
    | 0 => (0, 0, 0)
    | 1 => (0, 0, 0)
    | 2 => (0, 0, 0)
    | 3 => (0, 0, 0)
    | 4 => (3, 43, 0)
    | 5 => (3, 44, 0)
    | _ => (3, 45, 0)
  | 10 => match k with
    | 0 => (3, 8, 0)
    | 1 => (4, 4, 0)
    | 2 => (3, 5, 0)
    | 3 => (4, 4, 1)
    | 4 => (3, 7, 0)
    | 5 => (3, 7, 0)
    | 6 => (3, 46, 0)
    | 7 => (0, 0, 0)
    | 8 => (0, 0, 0)
    | 9 => (3, 3, 0)
    | 10 => (3, 3, 0)
    | 11 => (3, 47, 0)
    | 12 => (3, 0, 0)
    | 13 => (3, 48, 0)
    | _ => (3, 9, 0)
  | 11 => match k with
    | 0 => (0, 0, 0)
    | 1 => (0, 0, 0)
    | 2 => (3, 50, 0)
    | 3 => (0, 0, 0)
    | 4 => (0, 0, 0)
    | 5 => (0, 0, 0)
    | 6 => (0, 0, 0)
    | 7 => (2, 0, 0)
    | 8 => (0, 0, 0)
    | 9 => (0, 0, 0)
    | 10 => (3, 51, 0)
    | 11 => (3, 52, 0)
    | 12 => (3, 53, 0)
    | 13 => (3, 54, 0)
    | 14 => (3, 55, 0)
    | 15 => (3, 56, 0)
    | 16 => (3, 57, 0)
    | 17 => (3, 58, 0)
    | 18 => (3, 59, 0)
    | 19 => (3, 60, 0)
    | 20 => (3, 61, 0)
    | 21 => (0, 0, 0)
    | 22 => (0, 0, 0)
    | 23 => (3, 62, 0)
    | 24 => (3, 63, 0)
    | 25 => (3, 64, 0)
    | 26 => (3, 65, 0)
    | 27 => (3, 66, 0)
    | 28 => (3, 67, 0)
    | 29 => (3, 68, 0)
    | 30 => (3, 69, 0)
    | 31 => (3, 70, 0)
    | 32 => (3, 71, 0)
    | 33 => (3, 72, 0)
    | 34 => (3, 73, 0)
    | 35 => (0, 0, 0)
    | 36 => (3, 74, 0)
    | 37 => (3, 75, 0)
    | 38 => (3, 76, 0)
    | 39 => (3, 77, 0)
    | 40 => (3, 78, 0)
    | 41 => (3, 79, 0)
    | 42 => (3, 80, 0)
    | 43 => (3, 81, 0)
    | 44 => (3, 82, 0)
    | 45 => (3, 83, 0)
    | 46 => (3, 84, 0)
    | 47 => (3, 85, 0)
    | 48 => (3, 86, 0)
    | 49 => (0, 0, 0)
    | 50 => (0, 0, 0)
    | 51 => (0, 0, 0)
    | 52 => (3, 87, 0)
    | 53 => (3, 88, 0)
    | 54 => (0, 0, 0)
    | 55 => (0, 0, 0)
    | 56 => (3, 89, 0)
    | 57 => (3, 90, 0)
    | 58 => (3, 91, 0)
    | _ => (2, 0, 0)
  | _ => (9, 0, 0)
/-- the type of what an array of a kind holds -/
def zty (t : Nat) : FieldType := match t with
  | 27 => .long
  | 52 => .long
  | 103 => .long
  | 42 => .byte
  | 43 => .boolean
  | 63 => .boolean
  | 86 => .boolean
  | 90 => .boolean
  | 46 => .object "WakePark$State"
  | 47 => .object "WakePark$Mark"
  | 48 => .object "WakePark$Search"
  | _ => .int
def zwn (i : Nat) : String := ["TURBINE", "OF", "AT", "CABLE", "TO", "HOME", "HOLDS", "BLOWS", "FROM", "PRICE", "WAKES", "WEARS", "SLACK", "GIVES", "TURN", "SHUT", "OPEN", "MEND", "STEP", "PLAIN", "TALL", "OLD", "SMALL", "NOT", "AND", "OR", "WIND", "WORN", "ANGLE", "NIGHT"].getD i ""
end
section
abbrev ZI : Type := MethodName × ByteArray × Nat × Option FieldType × Bool × List Nat
def znI : List ZI → Nat → Option ZI
  | [], _ => none
  | a :: _, 0 => some a
  | _ :: l, n + 1 => znI l n
def zmi (mi : Nat) : Option ZI := znI [(yX1_init, cX1_init, 1, none, false, [391, 390, 120]), (yX1_measure, cX1_measure, 3, none, false, [830, 828, 120, 829]), (yX1_take, cX1_take, 7, none, false, [838, 836, 120, 837]), (yX1_give, cX1_give, 5, none, false, [873, 871, 120, 872]), (yX1_bring, cX1_bring, 7, none, false, [895, 893, 120, 894]), (yX1_sold, cX1_sold, 3, (some .int), false, [1089, 1087, 120, 1088]), (yX1_runStep, cX1_runStep, 5, (some .int), false, [961, 959, 120, 960]), (yX2_init, cX2_init, 1, none, false, [212, 211, 117]), (yX2_value, cX2_value, 8, (some .int), false, [884, 882, 117, 883]), (yX2_fact, cX2_fact, 5, (some .int), true, [888, 887, 117]), (yX2_joined, cX2_joined, 3, (some .int), true, [891, 890, 117]), (yX3_init, cX3_init, 1, none, false, [473, 472, 123]), (yX3_lay, cX3_lay, 4, none, false, [1189, 1187, 123, 1188]), (yX4_init, cX4_init, 2, none, false, [191, 190, 116]), (yX4_add, cX4_add, 2, (some .boolean), false, [235, 233, 116, 234]), (yX4_get, cX4_get, 2, (some .int), false, [861, 859, 116, 860]), (yX4_round, cX4_round, 2, (some .int), false, [834, 832, 116, 833]), (yX4_copy, cX4_copy, 2, none, false, [800, 798, 116, 799]), (yX5_init, cX5_init, 1, none, false, [185, 184, 115]), (yX5_clear, cX5_clear, 1, none, false, [228, 226, 115, 227]), (yX5_addTurbine, cX5_addTurbine, 6, none, false, [679, 677, 115, 678]), (yX5_byName, cX5_byName, 4, (some .int), false, [644, 642, 115, 643]), (yX5_isTaken, cX5_isTaken, 3, (some .boolean), false, [675, 673, 115, 674]), (yX5_priceAt, cX5_priceAt, 2, (some .int), false, [966, 964, 115, 965]), (yX5_isSlack, cX5_isSlack, 2, (some .boolean), false, [926, 924, 115, 925]), (yX5_tenths, cX5_tenths, 10, (some .int), false, [848, 846, 115, 847]), (yX5_takenOf, cX5_takenOf, 4, (some .int), false, [868, 866, 115, 867]), (yX5_gives, cX5_gives, 8, (some .int), false, [880, 878, 115, 879]), (yX5_turnedBy, cX5_turnedBy, 1, (some .int), true, [854, 853, 115]), (yX5_left, cX5_left, 2, (some .int), true, [876, 875, 115]), (yX5_drift, cX5_drift, 3, (some .int), true, [851, 850, 115]), (yX5_only, cX5_only, 2, none, true, [231, 230, 115]), (yX6_init, cX6_init, 3, none, false, [318, 317, 118]), (yX6_readPark, cX6_readPark, 3, (some .int), false, [592, 590, 118, 591]), (yX6_readDay, cX6_readDay, 4, (some .int), false, [779, 777, 118, 778]), (yX6_readParkLine, cX6_readParkLine, 2, (some .boolean), false, [619, 618, 118, 2]), (yX6_readTurbine, cX6_readTurbine, 6, (some .boolean), false, [635, 634, 118, 4]), (yX6_readCable, cX6_readCable, 3, (some .boolean), false, [687, 686, 118, 10]), (yX6_readGoal, cX6_readGoal, 2, (some .boolean), false, [695, 694, 118, 12]), (yX6_readList, cX6_readList, 4, (some .boolean), false, [710, 709, 118, 14]), (yX6_readWakes, cX6_readWakes, 2, (some .boolean), false, [714, 713, 118, 15]), (yX6_readWears, cX6_readWears, 1, (some .boolean), false, [718, 717, 118, 16]), (yX6_readSlack, cX6_readSlack, 1, (some .boolean), false, [722, 721, 118, 17]), (yX6_readE, cX6_readE, 4, (some .boolean), false, [726, 725, 118, 18]), (yX6_readTest, cX6_readTest, 3, (some .boolean), false, [730, 729, 118, 19]), (yX6_readSum, cX6_readSum, 4, (some .boolean), false, [734, 733, 118, 20]), (yX6_readProduct, cX6_readProduct, 3, (some .boolean), false, [738, 737, 118, 21]), (yX6_readPart, cX6_readPart, 6, (some .boolean), false, [742, 741, 118, 22]), (yX6_readDayLine, cX6_readDayLine, 2, (some .boolean), false, [783, 782, 118, 25]), (yX6_fail, cX6_fail, 2, (some .boolean), false, [623, 622, 118, 3]), (yX6_once, cX6_once, 2, (some .boolean), false, [706, 705, 118, 13]), (yX6_passSign, cX6_passSign, 2, (some .boolean), false, [683, 682, 118, 9]), (yX6_passWord, cX6_passWord, 2, (some .boolean), false, [661, 660, 118, 6]), (yX6_passNumber, cX6_passNumber, 3, (some .boolean), false, [665, 664, 118, 7]), (yX6_isNumber, cX6_isNumber, 3, (some .boolean), false, [669, 668, 118, 8]), (yX6_isName, cX6_isName, 2, (some .boolean), false, [640, 639, 118, 5]), (yX6_isTurbine, cX6_isTurbine, 1, (some .boolean), false, [691, 690, 118, 11]), (yX6_kindOf, cX6_kindOf, 1, (some .int), true, [647, 646, 118]), (yX6_deedOf, cX6_deedOf, 1, (some .int), true, [786, 785, 118]), (yX6_factOf, cX6_factOf, 1, (some .int), true, [745, 744, 118]), (yX7_init, cX7_init, 1, none, false, [499, 498, 124]), (yX7_seek, cX7_seek, 9, none, false, [1024, 1022, 124, 1023]), (yX7_foresee, cX7_foresee, 11, none, false, [1028, 1027, 124, 31]), (yX7_listTries, cX7_listTries, 6, none, false, [1037, 1036, 124, 32]), (yX7_isNew, cX7_isNew, 5, (some .boolean), false, [1041, 1040, 124, 33]), (yX7_isAlike, cX7_isAlike, 5, (some .boolean), false, [1045, 1044, 124, 34]), (yX7_angleOf, cX7_angleOf, 2, (some .int), false, [1053, 1052, 124, 36]), (yX7_keepRow, cX7_keepRow, 3, none, false, [1072, 1071, 124, 40]), (yX7_next, cX7_next, 3, (some .int), false, [1076, 1075, 124, 41]), (yX7_addFrom, cX7_addFrom, 6, none, false, [1049, 1048, 124, 35]), (yX7_giftOf, cX7_giftOf, 4, (some .int), false, [1062, 1061, 124, 38]), (yX7_sale, cX7_sale, 5, (some .int), false, [1058, 1057, 124, 37]), (yX7_share, cX7_share, 5, (some .int), false, [1068, 1067, 124, 39]), (yX8_init, cX8_init, 1, none, false, [348, 347, 119]), (yX8_begin, cX8_begin, 2, none, false, [462, 460, 119, 461]), (yX8_copy, cX8_copy, 2, none, false, [934, 932, 119, 933]), (yX8_everyone, cX8_everyone, 2, (some .int), false, [469, 467, 119, 468]), (yX8_isOpen, cX8_isOpen, 2, (some .boolean), false, [818, 816, 119, 817]), (yX8_isBroken, cX8_isBroken, 2, (some .boolean), false, [822, 820, 119, 821]), (yX8_runs, cX8_runs, 2, (some .boolean), false, [842, 840, 119, 841]), (yX8_can, cX8_can, 4, (some .boolean), false, [922, 920, 119, 921]), (yX8_act, cX8_act, 6, (some .boolean), false, [940, 938, 119, 939]), (yX8_wear, cX8_wear, 5, none, false, [971, 969, 119, 970]), (yX9_init, cX9_init, 1, none, false, [147, 146, 114]), (yX9_put, cX9_put, 6, none, false, [584, 582, 114, 583]), (yX9_clear, cX9_clear, 1, none, false, [763, 761, 114, 762]), (yX9_start, cX9_start, 1, none, false, [597, 595, 114, 596]), (yX9_pass, cX9_pass, 2, none, false, [601, 599, 114, 600]), (yX9_takeWord, cX9_takeWord, 4, none, false, [605, 604, 114, 0]), (yX9_takeNumber, cX9_takeNumber, 3, none, false, [612, 611, 114, 1]), (yX9_isSign, cX9_isSign, 1, (some .boolean), true, [615, 614, 114]), (yX10_init, cX10_init, 1, none, false, [430, 429, 121]), (yX10_guess, cX10_guess, 8, none, false, [1140, 1138, 121, 1139]), (yX10_mostAlike, cX10_mostAlike, 5, (some .int), false, [1160, 1158, 121, 1159]), (yX10_note, cX10_note, 3, none, false, [1151, 1150, 121, 43]), (yX10_isAsSeen, cX10_isAsSeen, 4, (some .boolean), true, [1146, 1145, 121]), (yX12_init, cX12_init, 2, none, false, [139, 138, 113]), (yX12_feed, cX12_feed, 7, (some .int), false, [580, 578, 113, 579]), (yX12_park, cX12_park, 4, (some .int), false, [588, 586, 113, 587]), (yX12_day, cX12_day, 1, (some .int), false, [775, 773, 113, 774]), (yX12_turbine, cX12_turbine, 3, (some .int), false, [810, 808, 113, 809]), (yX12_wind, cX12_wind, 2, (some .int), false, [826, 824, 113, 825]), (yX12_power, cX12_power, 2, (some .int), false, [902, 900, 113, 901]), (yX12_carried, cX12_carried, 2, (some .int), false, [906, 904, 113, 905]), (yX12_home, cX12_home, 1, (some .int), false, [910, 908, 113, 909]), (yX12_turn, cX12_turn, 4, (some .int), false, [914, 912, 113, 913]), (yX12_shut, cX12_shut, 2, (some .boolean), false, [945, 943, 113, 944]), (yX12_open, cX12_open, 2, (some .boolean), false, [949, 947, 113, 948]), (yX12_mend, cX12_mend, 2, (some .boolean), false, [953, 951, 113, 952]), (yX12_step, cX12_step, 1, (some .int), false, [957, 955, 113, 956]), (yX12_undo, cX12_undo, 1, (some .boolean), false, [976, 974, 113, 975]), (yX12_judged, cX12_judged, 8, (some .int), false, [983, 981, 113, 982]), (yX12_takes, cX12_takes, 3, (some .int), false, [989, 987, 113, 988]), (yX12_later, cX12_later, 3, (some .int), false, [1000, 998, 113, 999]), (yX12_total, cX12_total, 4, (some .int), false, [1004, 1002, 113, 1003]), (yX12_breaks, cX12_breaks, 3, (some .int), false, [1008, 1006, 113, 1007]), (yX12_lost, cX12_lost, 1, (some .int), false, [1012, 1010, 113, 1011]), (yX12_best, cX12_best, 2, (some .int), false, [1016, 1014, 113, 1015]), (yX12_alone, cX12_alone, 3, (some .int), false, [1080, 1078, 113, 1079]), (yX12_idle, cX12_idle, 6, (some .int), false, [1084, 1082, 113, 1083]), (yX12_straight, cX12_straight, 1, (some .int), false, [1093, 1091, 113, 1092]), (yX12_full, cX12_full, 3, (some .int), false, [1098, 1096, 113, 1097]), (yX12_dear, cX12_dear, 4, (some .int), false, [1102, 1100, 113, 1101]), (yX12_fault, cX12_fault, 2, (some .int), false, [1107, 1105, 113, 1106]), (yX12_robbed, cX12_robbed, 4, (some .int), false, [1111, 1109, 113, 1110]), (yX12_front, cX12_front, 3, (some .int), false, [1119, 1117, 113, 1118]), (yX12_shade, cX12_shade, 4, (some .int), false, [1123, 1121, 113, 1122]), (yX12_hops, cX12_hops, 5, (some .int), false, [1127, 1125, 113, 1126]), (yX12_see, cX12_see, 3, (some .boolean), false, [1131, 1129, 113, 1130]), (yX12_winds, cX12_winds, 2, (some .int), false, [1136, 1134, 113, 1135]), (yX12_ask, cX12_ask, 5, (some .int), false, [1156, 1154, 113, 1155]), (yX12_chance, cX12_chance, 7, (some .int), false, [1165, 1163, 113, 1164]), (yX12_rests, cX12_rests, 9, (some .int), false, [1205, 1203, 113, 1204]), (yX12_days, cX12_days, 11, (some .int), false, [1171, 1169, 113, 1170]), (yX12_mark, cX12_mark, 4, (some .boolean), false, [1185, 1183, 113, 1184]), (yX12_count, cX12_count, 2, (some .int), false, [1196, 1194, 113, 1195]), (yX12_stands, cX12_stands, 2, (some .boolean), false, [814, 813, 113, 26]), (yX12_act, cX12_act, 4, (some .boolean), false, [918, 917, 113, 27]), (yX12_remember, cX12_remember, 1, none, false, [930, 929, 113, 28]), (yX12_forgetPast, cX12_forgetPast, 1, none, false, [767, 766, 113, 23]), (yX12_forgetSearches, cX12_forgetSearches, 2, none, false, [771, 770, 113, 24]), (yX12_takenNow, cX12_takenNow, 3, (some .int), false, [993, 992, 113, 29]), (yX12_searched, cX12_searched, 4, (some .int), false, [1020, 1019, 113, 30]), (yX12_ownWind, cX12_ownWind, 5, (some .int), false, [1115, 1114, 113, 42]), (yX12_isDigit, cX12_isDigit, 1, (some .boolean), true, [1208, 1207, 113]), (yX12_keeps, cX12_keeps, 5, (some .boolean), true, [1272, 1271, 113]), (yX12_gain, cX12_gain, 5, (some .int), true, [1275, 1274, 113]), (yX12_drawn, cX12_drawn, 2, (some .long), true, [1174, 1173, 113]), (yX12_below, cX12_below, 3, (some .int), true, [1180, 1179, 113]), (yX13_init, cX13_init, 1, none, false, [1280, 1279, 125]), (yX13_thrown, cX13_thrown, 1, (some .int), false, [1474, 1472, 125, 1473]), (yX13_within, cX13_within, 3, (some .boolean), true, [1562, 1561, 125]), (yX13_between, cX13_between, 3, (some .int), true, [1719, 1718, 125]), (yX13_feed, cX13_feed, 11, (some .int), false, [1478, 1476, 125, 1477]), (yX13_signAt, cX13_signAt, 2, (some .int), false, [1499, 1498, 125, 50]), (yX13_nextToken, cX13_nextToken, 2, none, false, [1495, 1494, 125, 49]), (yX13_isWord, cX13_isWord, 3, (some .boolean), false, [1510, 1509, 125, 52]), (yX13_isSign, cX13_isSign, 2, (some .boolean), false, [1574, 1573, 125, 61]), (yX13_fails, cX13_fails, 2, (some .boolean), false, [1518, 1517, 125, 54]), (yX13_usual, cX13_usual, 3, none, false, [1285, 1284, 125, 45]), (yX13_puts, cX13_puts, 2, none, false, [1618, 1617, 125, 71]), (yX13_fact, cX13_fact, 1, (some .int), false, [1610, 1609, 125, 70]), (yX13_reads, cX13_reads, 6, (some .boolean), false, [1606, 1605, 125, 69]), (yX13_opens, cX13_opens, 2, none, false, [1708, 1707, 125, 88]), (yX13_sums, cX13_sums, 2, none, false, [1712, 1711, 125, 89]), (yX13_tests, cX13_tests, 3, none, false, [1716, 1715, 125, 90]), (yX13_worked, cX13_worked, 6, (some .int), false, [1704, 1703, 125, 87]), (yX13_isKept, cX13_isKept, 1, (some .boolean), false, [1522, 1521, 125, 55]), (yX13_turbineNamed, cX13_turbineNamed, 3, (some .int), false, [1551, 1550, 125, 56]), (yX13_needsNumber, cX13_needsNumber, 3, (some .boolean), false, [1559, 1558, 125, 58]), (yX13_needsBoth, cX13_needsBoth, 5, (some .boolean), false, [1555, 1554, 125, 57]), (yX13_closes, cX13_closes, 1, (some .boolean), false, [1570, 1569, 125, 60]), (yX13_needsTurbine, cX13_needsTurbine, 2, (some .boolean), false, [1582, 1581, 125, 63]), (yX13_stands, cX13_stands, 3, (some .boolean), false, [1566, 1565, 125, 59]), (yX13_readsTurbine, cX13_readsTurbine, 4, (some .boolean), false, [1514, 1513, 125, 53]), (yX13_readsCable, cX13_readsCable, 3, (some .boolean), false, [1578, 1577, 125, 62]), (yX13_isTold, cX13_isTold, 3, (some .boolean), false, [1590, 1589, 125, 65]), (yX13_readsRow, cX13_readsRow, 4, (some .boolean), false, [1586, 1585, 125, 64]), (yX13_readsOne, cX13_readsOne, 3, (some .boolean), false, [1598, 1597, 125, 67]), (yX13_readsWakes, cX13_readsWakes, 2, (some .boolean), false, [1594, 1593, 125, 66]), (yX13_readsGives, cX13_readsGives, 1, (some .boolean), false, [1602, 1601, 125, 68]), (yX13_begins, cX13_begins, 1, none, false, [1491, 1490, 125, 48]), (yX13_readsPark, cX13_readsPark, 1, (some .boolean), false, [1505, 1504, 125, 51]), (yX13_readsAll, cX13_readsAll, 1, (some .boolean), false, [1487, 1486, 125, 47]), (yX13_shifts, cX13_shifts, 3, none, true, [1625, 1624, 125]), (yX13_lays, cX13_lays, 2, none, false, [1622, 1621, 125, 72]), (yX13_copies, cX13_copies, 5, none, true, [1754, 1753, 125]), (yX13_readsLine, cX13_readsLine, 3, (some .boolean), false, [1633, 1632, 125, 73]), (yX13_laysLines, cX13_laysLines, 4, none, false, [1637, 1636, 125, 74]), (yX13_laysSeen, cX13_laysSeen, 4, none, false, [1942, 1941, 125, 111]), (yX13_fresh0, cX13_fresh0, 2, none, false, [1289, 1288, 125, 46]), (yX13_park, cX13_park, 2, (some .int), false, [1483, 1481, 125, 1482]), (yX13_day, cX13_day, 1, (some .int), false, [1629, 1627, 125, 1628]), (yX13_isTurbine, cX13_isTurbine, 2, (some .boolean), false, [1645, 1644, 125, 75]), (yX13_rowOf, cX13_rowOf, 3, (some .int), false, [1665, 1664, 125, 79]), (yX13_priceNow, cX13_priceNow, 1, (some .int), false, [1790, 1789, 125, 100]), (yX13_isShut, cX13_isShut, 2, (some .boolean), false, [1649, 1648, 125, 76]), (yX13_isBroken, cX13_isBroken, 2, (some .boolean), false, [1653, 1652, 125, 77]), (yX13_runs, cX13_runs, 2, (some .boolean), false, [1681, 1680, 125, 83]), (yX13_turnedOf, cX13_turnedOf, 2, (some .int), false, [1689, 1688, 125, 85]), (yX13_looks, cX13_looks, 1, none, false, [1661, 1660, 125, 78]), (yX13_behind, cX13_behind, 8, (some .int), false, [1685, 1684, 125, 84]), (yX13_takesOf, cX13_takesOf, 4, (some .int), false, [1677, 1676, 125, 82]), (yX13_takenOf, cX13_takenOf, 4, (some .int), false, [1673, 1672, 125, 81]), (yX13_windOf, cX13_windOf, 2, (some .int), false, [1669, 1668, 125, 80]), (yX13_powerOf, cX13_powerOf, 3, (some .int), false, [1700, 1699, 125, 86]), (yX13_hopsOf, cX13_hopsOf, 4, (some .int), false, [1739, 1738, 125, 94]), (yX13_homeBy, cX13_homeBy, 5, (some .int), false, [1735, 1734, 125, 93]), (yX13_laysPowers, cX13_laysPowers, 2, none, false, [1731, 1730, 125, 92]), (yX13_homeNow, cX13_homeNow, 1, (some .int), false, [1727, 1726, 125, 91]), (yX13_powersNow, cX13_powersNow, 3, (some .int), false, [1827, 1826, 125, 102]), (yX13_soldNow, cX13_soldNow, 1, (some .int), false, [1786, 1785, 125, 99]), (yX13_passes, cX13_passes, 5, (some .int), false, [1782, 1781, 125, 98]), (yX13_turbine, cX13_turbine, 3, (some .int), false, [1641, 1639, 125, 1640]), (yX13_wind, cX13_wind, 2, (some .int), false, [1657, 1655, 125, 1656]), (yX13_power, cX13_power, 2, (some .int), false, [1696, 1694, 125, 1695]), (yX13_carried, cX13_carried, 2, (some .int), false, [1723, 1721, 125, 1722]), (yX13_home, cX13_home, 1, (some .int), false, [1743, 1741, 125, 1742]), (yX13_keeps, cX13_keeps, 2, none, false, [1751, 1750, 125, 95]), (yX13_turn, cX13_turn, 4, (some .int), false, [1747, 1745, 125, 1746]), (yX13_canMend, cX13_canMend, 2, (some .boolean), false, [1770, 1769, 125, 96]), (yX13_mends, cX13_mends, 2, none, false, [1774, 1773, 125, 97]), (yX13_shut, cX13_shut, 2, (some .boolean), false, [1758, 1756, 125, 1757]), (yX13_open, cX13_open, 2, (some .boolean), false, [1762, 1760, 125, 1761]), (yX13_mend, cX13_mend, 2, (some .boolean), false, [1766, 1764, 125, 1765]), (yX13_step, cX13_step, 1, (some .int), false, [1778, 1776, 125, 1777]), (yX13_undo, cX13_undo, 1, (some .boolean), false, [1794, 1792, 125, 1793]), (yX13_isDone, cX13_isDone, 4, (some .boolean), false, [1803, 1802, 125, 101]), (yX13_judged, cX13_judged, 6, (some .int), false, [1798, 1796, 125, 1797]), (yX13_takes, cX13_takes, 3, (some .int), false, [1807, 1805, 125, 1806]), (yX13_later, cX13_later, 3, (some .int), false, [1811, 1809, 125, 1810]), (yX13_total, cX13_total, 4, (some .int), false, [1815, 1813, 125, 1814]), (yX13_breaks, cX13_breaks, 3, (some .int), false, [1819, 1817, 125, 1818]), (yX13_lost, cX13_lost, 2, (some .int), false, [1823, 1821, 125, 1822]), (yX13_turnsAll, cX13_turnsAll, 7, none, false, [1839, 1838, 125, 104]), (yX13_ownedBy, cX13_ownedBy, 4, (some .int), false, [1835, 1834, 125, 103]), (yX13_powerBy, cX13_powerBy, 4, (some .int), false, [1843, 1842, 125, 105]), (yX13_foundOf, cX13_foundOf, 5, (some .int), false, [1847, 1846, 125, 106]), (yX13_best, cX13_best, 2, (some .int), false, [1831, 1829, 125, 1830]), (yX13_alone, cX13_alone, 3, (some .int), false, [1851, 1849, 125, 1850]), (yX13_idle, cX13_idle, 7, (some .int), false, [1855, 1853, 125, 1854]), (yX13_straight, cX13_straight, 3, (some .int), false, [1859, 1857, 125, 1858]), (yX13_full, cX13_full, 3, (some .int), false, [1863, 1861, 125, 1862]), (yX13_dear, cX13_dear, 5, (some .int), false, [1867, 1865, 125, 1866]), (yX13_fault, cX13_fault, 2, (some .int), false, [1871, 1869, 125, 1870]), (yX13_hops, cX13_hops, 2, (some .int), false, [1875, 1873, 125, 1874]), (yX13_windsOf, cX13_windsOf, 4, (some .int), false, [1883, 1882, 125, 107]), (yX13_robbed, cX13_robbed, 5, (some .int), false, [1879, 1877, 125, 1878]), (yX13_front, cX13_front, 3, (some .int), false, [1887, 1885, 125, 1886]), (yX13_shade, cX13_shade, 4, (some .int), false, [1891, 1889, 125, 1890]), (yX13_laysWinds, cX13_laysWinds, 4, (some .int), false, [1903, 1902, 125, 108]), (yX13_see, cX13_see, 3, (some .boolean), false, [1895, 1893, 125, 1894]), (yX13_winds, cX13_winds, 7, (some .int), false, [1899, 1897, 125, 1898]), (yX13_ask, cX13_ask, 6, (some .int), false, [1907, 1905, 125, 1906]), (yX13_chance, cX13_chance, 7, (some .int), false, [1911, 1909, 125, 1910]), (yX13_getsBy, cX13_getsBy, 5, (some .int), true, [1918, 1917, 125]), (yX13_rests, cX13_rests, 9, (some .int), false, [1915, 1913, 125, 1914]), (yX13_draws, cX13_draws, 2, (some .int), false, [1930, 1929, 125, 110]), (yX13_livesStep, cX13_livesStep, 3, none, false, [1926, 1925, 125, 109]), (yX13_days, cX13_days, 7, (some .int), false, [1922, 1920, 125, 1921]), (yX13_mark, cX13_mark, 5, (some .boolean), false, [1938, 1936, 125, 1937]), (yX13_count, cX13_count, 2, (some .int), false, [1946, 1944, 125, 1945]), (yJ9_floorMod_7cf53, cJ9_floorMod_7cf53, 3, (some .int), true, [979, 978, 129]), (yJ7_fill_53178, cJ7_fill_53178, 4, none, true, [465, 464, 122])] mi
def zgdw (w : Jvm.Cond) : Bool := (w.onTables && w.keeps) || (match w with | .arrayClass _ => true | _ => false)
def zbdw (w : Jvm.Cond) : Bool := match w with
  | .fieldLinkNest .. => true
  | .methodLinkNest .. => true
  | .declares _ => true
  | .castable .. => true
  | .privateMethod _ => true
  | .arrayOver (.object _) => true
  | _ => false
/-- the tables' words that calls keep -/
def lw_tz : List Jvm.Cond := lw_tbl.filter (fun w => zgdw w || zbdw w)
def zlk (j : Nat) (c : Jvm.Cond) : Bool := decide (lw_tbl[j]? = some c) && (zgdw c || zbdw c)
theorem zlk_m {j : Nat} {c : Jvm.Cond} (h : zlk j c = true) : c ∈ lw_tz := by
  obtain ⟨h1, h2⟩ := Bool.and_eq_true_iff.mp h
  exact List.mem_filter.mpr ⟨List.mem_of_getElem? (of_decide_eq_true h1), h2⟩
/-- a method that is called: its words are among the tables' -/
def zokm (q : ZI) : Bool := match q with
  | (y, cc, nl, ret, st, js) => match js with
    | j0 :: j1 :: j2 :: r => zlk j0 (.code y cc nl ret) && zlk j2 (.initialized y.cls) && Nat.ble nl 21 && plainFor y && decide (y.cls ≠ "java/lang/invoke/MethodHandle") && decide (y.cls ≠ "java/lang/invoke/VarHandle") && decide (y.cls ≠ "WakeParkLaw") && (match st with
      | true => zlk j1 (.static y)
      | false => zlk j1 (.instanceMethod y) && (match r with
        | [] => decide (y.name = "<init>") && decide (ret = none)
        | j3 :: _ => zlk j3 (.selects y.cls y y)))
    | _ => false
/-- a field of an object: its word, its place, what it holds -/
def zokf (own : String) (idx : Nat) (ax : List Nat) : Bool := match ax with
  | t :: f :: pl :: tg :: rg :: j :: _ => match t with
    | 12 => (Nat.beq f 0 && Nat.beq pl 5 && zlk j (.fieldLink own idx "WakePark$Word" "free" "Z")) || (Nat.beq f 1 && Nat.beq pl 6 && zlk j (.fieldLink own idx "WakePark$Word" "key" "J"))
    | t => Nat.blt t 12 && Nat.blt f (znf t) && decide (zfp t f = (pl, tg, rg)) && (match vwCl[t]? with
      | some c => zlk j (.fieldLink own idx (c.2.1 f).1 (c.2.1 f).2.1 (c.2.1 f).2.2.1)
      | none => false)
  | _ => false
def zokp (own : String) (ini : Bool) (ax : List Nat) : Bool := match ax with
  | t :: f :: _ => Nat.blt t 12 && (match vwCl[t]? with
    | some c => !((c.2.1 f).2.2.2) || (ini && decide ((c.2.1 f).1 = own))
    | none => false)
  | _ => false
def zoks (own : String) (idx : Nat) (ax : List Nat) : Bool := match ax with
  | t :: i :: j :: _ => match t with
    | 12 => Nat.blt i 30 && zlk j (.fieldLink own idx "WakePark$Word" (zwn i) "LWakePark$Word;")
    | 100 => Nat.beq i 0 && zlk j (.fieldLinkNest own idx "WakePark" "WORDS" "[LWakePark$Word;" "WakePark")
    | 101 => Nat.beq i 0 && zlk j (.fieldLink own idx "WakePark$1" "$SwitchMap$WakePark$Word" "[I")
    | _ => false
  | _ => false
/-- invocations; k: 0 on an object, 1 a constructor, 2 static -/
def zokc (own : String) (idx k : Nat) (ax : List Nat) : Bool := match ax with
  | 0 :: mi :: n :: j :: _ => Nat.beq k 2 && (match zmi mi with
    | some q => q.2.2.2.2.1 && zlk j (.methodLink own idx q.1) && decide ((parseMethodDescriptor q.1.desc).map (fun d => d.parameters.length) = some n)
    | none => false)
  | 1 :: mi :: n :: j :: nest :: tg :: _ => (match zmi mi with
    | some q => !q.2.2.2.2.1 && Nat.blt tg 12 && decide ((parseMethodDescriptor q.1.desc).map (fun d => d.parameters.length) = some (n - 1)) && Nat.blt 0 n && (match vwCl[tg]? with
      | some c => decide (q.1.cls = c.1)
      | none => false) && (match nest with
      | 0 => zlk j (.methodLink own idx q.1)
      | _ => zlk j (.methodLinkNest own idx q.1 "WakePark") && Nat.beq k 1) && (match k with
      | 0 => decide (q.1.name ≠ "<init>")
      | 1 => decide (q.1.name = "<init>") && decide (q.2.2.2.1 = none)
      | _ => false)
    | none => false)
  | 2 :: _ :: _ :: j :: _ => Nat.beq k 1 && zlk j (.methodLink own idx Lib.objectInit)
  | 3 :: _ :: _ :: j :: _ => Nat.beq k 2 && zlk j (.methodLink own idx arraycopyName)
  | 4 :: _ :: _ :: j :: _ => Nat.beq k 0 && zlk j (.methodLink own idx ⟨"WakePark$Word", "ordinal", "()I"⟩)
  | 5 :: _ :: _ :: j :: _ => Nat.beq k 2 && zlk j (.methodLink own idx yL_rests) && decide (own = "WakeParkLaw")
  | 6 :: _ :: _ :: j :: _ => Nat.beq k 2 && zlk j (.methodLink own idx Lib.Math.max.name)
  | 7 :: _ :: _ :: j :: _ => Nat.beq k 2 && zlk j (.methodLink own idx Lib.Math.min.name)
  | 8 :: _ :: _ :: j :: _ => Nat.beq k 2 && zlk j (.methodLink own idx Lib.Math.abs.name)
  | _ => false
def zokn (own : String) (idx : Nat) (ax : List Nat) : Bool := match ax with
  | t :: j :: _ => Nat.blt t 12 && (match vwCl[t]? with
    | some c => zlk j (.classLink own idx c.1)
    | none => false)
  | _ => false
def zokq (own : String) (idx : Nat) (ax : List Nat) : Bool := match ax with
  | t :: j :: _ => Nat.beq (zek t) 4 && (match zty t with
    | .object C => zlk j (.classLink own idx C)
    | _ => false)
  | _ => false
def zat (a : ArrayType) : Nat := match a with
  | .int => 0
  | .long => 1
  | .byte => 2
  | .boolean => 3
  | _ => 9
def zhI (cv : List Int) : Int := match cv with
  | x :: _ => x
  | [] => 0
def zr32b (x : Int) : Bool := decide (-2147483648 ≤ x) && decide (x < 2147483648)
def zr64b (x : Int) : Bool := decide (-9223372036854775808 ≤ x) && decide (x < 9223372036854775808)
def zok2 (own : String) (ini : Bool) (nl pc : Nat) (q : ZE) : Bool := match q with
  | (ins, len, ax, cv) => match ins with
    | .aload _ => Nat.beq len 2
    | .iload _ => Nat.beq len 2
    | .lload _ => Nat.beq len 2
    | .astore i => Nat.beq len 2 && Nat.blt i nl
    | .istore i => Nat.beq len 2 && Nat.blt i nl
    | .lstore i => Nat.beq len 2 && Nat.blt (i + 1) nl
    | .astore_n i => Nat.beq len 1 && Nat.blt i nl
    | .istore_n i => Nat.beq len 1 && Nat.blt i nl
    | .lstore_n i => Nat.beq len 1 && Nat.blt (i + 1) nl
    | .iinc i n => Nat.beq len 3 && Nat.blt i nl && zr32b n
    | .iconst n => Nat.beq len 1 && zr32b n
    | .bipush n => Nat.beq len 2 && zr32b n && decide ((Int8.ofInt n).toInt32 = Int32.ofInt n)
    | .sipush n => Nat.beq len 3 && zr32b n && decide ((Int16.ofInt n).toInt32 = Int32.ofInt n)
    | .ldc idx => Nat.beq len 2 && zr32b (zhI cv) && zlk (zhd ax) (.constant own idx (Int32.ofInt (zhI cv)))
    | .ldc_w idx => Nat.beq len 3 && zr32b (zhI cv) && zlk (zhd ax) (.constant own idx (Int32.ofInt (zhI cv)))
    | .ldc2_w idx => Nat.beq len 3 && zr64b (zhI cv) && zlk (zhd ax) (.constantLong own idx (Int64.ofInt (zhI cv)))
    | .goto off => Nat.beq len 3 && decide ((pc : Int) + off = (zhd ax : Int))
    | .ifCond _ off => Nat.beq len 3 && decide ((pc : Int) + off = (zhd ax : Int))
    | .if_icmp _ off => Nat.beq len 3 && decide ((pc : Int) + off = (zhd ax : Int))
    | .if_acmp _ off => Nat.beq len 3 && decide ((pc : Int) + off = (zhd ax : Int))
    | .ifnull off => Nat.beq len 3 && decide ((pc : Int) + off = (zhd ax : Int))
    | .ifnonnull off => Nat.beq len 3 && decide ((pc : Int) + off = (zhd ax : Int))
    | .tableswitch d lo hi offs => decide ((pc : Int) + d = (zhd ax : Int)) && decide (cv = (List.range offs.size).map (fun k : Nat => lo + (k : Int))) && decide (offs.toList.map (fun o => (pc : Int) + o) = (ax.drop 1).map (fun t : Nat => (t : Int))) && decide (hi = lo + (offs.size : Int) - 1)
    | .getfield idx => Nat.beq len 3 && zokf own idx ax
    | .putfield idx => Nat.beq len 3 && zokf own idx ax && zokp own ini ax
    | .getstatic idx => Nat.beq len 3 && zoks own idx ax
    | .invokevirtual idx => Nat.beq len 3 && zokc own idx 0 ax
    | .invokespecial idx => Nat.beq len 3 && zokc own idx 1 ax
    | .invokestatic idx => Nat.beq len 3 && zokc own idx 2 ax
    | .new idx => Nat.beq len 3 && zokn own idx ax
    | .newarray a => Nat.beq len 2 && Nat.beq (zek (zhd ax)) (zat a) && Nat.ble (zek (zhd ax)) 3 && Nat.blt (zhd ax) 104
    | .anewarray idx => Nat.beq len 3 && zokq own idx ax && Nat.blt (zhd ax) 104
    | .dup2 => Nat.beq len 1
    | _ => Nat.beq len 1
def zokr (ret : Option FieldType) (q : ZE) : Bool := match q.1 with
  | .ireturn => match q.2.2.1 with
    | [] => decide (ret = some .int)
    | _ => decide (ret = some .boolean)
  | .lreturn => decide (ret = some .long)
  | .return_ => decide (ret = none)
  | _ => true
def zok (own : String) (ini : Bool) (nl : Nat) (cc : ByteArray) (q : Nat × ZE) : Bool := decide (decode cc q.1 = .ok (q.2.1, q.2.2.1)) && zok2 own ini nl q.1 q.2
def zokt (q : ZI) (tab : ZT) : Bool := tab.all (fun z => zok q.1.cls (decide (q.1.name = "<init>")) q.2.2.1 q.2.1 z && zokr q.2.2.2.1 z.2)
def zckm (mi : Nat) (tab : ZT) (nl : Nat) : Bool := match zmi mi with
  | some q => zokt q tab && Nat.beq q.2.2.1 nl && zokm q
  | none => false
end
section
def zr32 (x : Int) : Prop := -2147483648 ≤ x ∧ x < 2147483648
def zr64 (x : Int) : Prop := -9223372036854775808 ≤ x ∧ x < 9223372036854775808
theorem zr32_toInt {x : Int} (h : zr32 x) : (Int32.ofInt x).toInt = x := Int32.toInt_ofInt_of_le h.1 h.2
theorem zr64_toInt {x : Int} (h : zr64 x) : (Int64.ofInt x).toInt = x := Int64.toInt_ofInt_of_le h.1 h.2
theorem zr32_of (x : Int32) : zr32 x.toInt := ⟨x.le_toInt, x.toInt_lt⟩
theorem zr64_of (x : Int64) : zr64 x.toInt := ⟨x.le_toInt, x.toInt_lt⟩
theorem z32_of (x : Int) : z32 x = (Int32.ofInt x).toInt := Int32.toInt_ofInt.symm
theorem z64_of (x : Int) : z64 x = (Int64.ofInt x).toInt := Int64.toInt_ofInt.symm
theorem z32_r (x : Int) : zr32 (z32 x) := by rw [z32_of]; exact zr32_of _
theorem z64_r (x : Int) : zr64 (z64 x) := by rw [z64_of]; exact zr64_of _
theorem z32_o (x : Int) : Int32.ofInt (z32 x) = Int32.ofInt x := by rw [z32_of, Int32.ofInt_toInt]
theorem z64_o (x : Int) : Int64.ofInt (z64 x) = Int64.ofInt x := by rw [z64_of, Int64.ofInt_toInt]
theorem z32_id {x : Int} (h : zr32 x) : z32 x = x := by rw [z32_of, zr32_toInt h]
theorem z64_id {x : Int} (h : zr64 x) : z64 x = x := by rw [z64_of, zr64_toInt h]
theorem zn_eq {x y : Int} (hx : zr32 x) (hy : zr32 y) : Int32.ofInt x = Int32.ofInt y ↔ x = y := by rw [← Int32.toInt_inj, zr32_toInt hx, zr32_toInt hy]
theorem zn_lt {x y : Int} (hx : zr32 x) (hy : zr32 y) : Int32.ofInt x < Int32.ofInt y ↔ x < y := by rw [Int32.lt_iff_toInt_lt, zr32_toInt hx, zr32_toInt hy]
theorem zn_le {x y : Int} (hx : zr32 x) (hy : zr32 y) : Int32.ofInt x ≤ Int32.ofInt y ↔ x ≤ y := by rw [Int32.le_iff_toInt_le, zr32_toInt hx, zr32_toInt hy]
theorem zl_eq {x y : Int} (hx : zr64 x) (hy : zr64 y) : Int64.ofInt x = Int64.ofInt y ↔ x = y := by rw [← Int64.toInt_inj, zr64_toInt hx, zr64_toInt hy]
theorem zl_lt {x y : Int} (hx : zr64 x) (hy : zr64 y) : Int64.ofInt x < Int64.ofInt y ↔ x < y := by rw [Int64.lt_iff_toInt_lt, zr64_toInt hx, zr64_toInt hy]
theorem zr_0 : zr32 0 := ⟨by decide, by decide⟩
theorem zn_0 {x : Int} (hx : zr32 x) : Int32.ofInt x = 0 ↔ x = 0 := zn_eq hx zr_0
theorem zn_lt0 {x : Int} (hx : zr32 x) : Int32.ofInt x < 0 ↔ x < 0 := zn_lt hx zr_0
theorem zn_nat {x : Int} (hx : zr32 x) : (Int32.ofInt x).toNatClampNeg = x.toNat := Int32.toNatClampNeg_ofInt_of_le hx.1 hx.2
theorem zn_add (x y : Int) : Int32.ofInt x + Int32.ofInt y = Int32.ofInt (z32 (x + y)) := by rw [z32_o, Int32.ofInt_add]
theorem zn_sub (x y : Int) : Int32.ofInt x - Int32.ofInt y = Int32.ofInt (z32 (x - y)) := by rw [z32_o, Int32.ofInt_sub]
theorem zn_mul (x y : Int) : Int32.ofInt x * Int32.ofInt y = Int32.ofInt (z32 (x * y)) := by rw [z32_o, Int32.ofInt_mul]
theorem zn_neg (x : Int) : -Int32.ofInt x = Int32.ofInt (z32 (-x)) := by rw [z32_o, Int32.ofInt_neg]
theorem zl_add (x y : Int) : Int64.ofInt x + Int64.ofInt y = Int64.ofInt (z64 (x + y)) := by rw [z64_o, Int64.ofInt_add]
theorem zl_sub (x y : Int) : Int64.ofInt x - Int64.ofInt y = Int64.ofInt (z64 (x - y)) := by rw [z64_o, Int64.ofInt_sub]
theorem zl_mul (x y : Int) : Int64.ofInt x * Int64.ofInt y = Int64.ofInt (z64 (x * y)) := by rw [z64_o, Int64.ofInt_mul]
theorem zn_div {x y : Int} (hx : zr32 x) (hy : zr32 y) : Int32.ofInt x / Int32.ofInt y = Int32.ofInt (z32 (x.tdiv y)) := by
  apply Int32.toInt_inj.mp
  rw [Int32.toInt_div, zr32_toInt hx, zr32_toInt hy, z32_o, Int32.toInt_ofInt]
theorem zl_div {x y : Int} (hx : zr64 x) (hy : zr64 y) : Int64.ofInt x / Int64.ofInt y = Int64.ofInt (z64 (x.tdiv y)) := by
  apply Int64.toInt_inj.mp
  rw [Int64.toInt_div, zr64_toInt hx, zr64_toInt hy, z64_o, Int64.toInt_ofInt]
theorem zn_rem {x y : Int} (hx : zr32 x) (hy : zr32 y) : Int32.ofInt x - Int32.ofInt x / Int32.ofInt y * Int32.ofInt y = Int32.ofInt (x.tmod y) := by
  rw [zn_div hx hy, z32_o, ← Int32.ofInt_mul, ← Int32.ofInt_sub, Int.tmod_def, Int.mul_comm y]
theorem zl_rem {x y : Int} (hx : zr64 x) (hy : zr64 y) : Int64.ofInt x - Int64.ofInt x / Int64.ofInt y * Int64.ofInt y = Int64.ofInt (x.tmod y) := by
  rw [zl_div hx hy, z64_o, ← Int64.ofInt_mul, ← Int64.ofInt_sub, Int.tmod_def, Int.mul_comm y]
theorem zn_tm {x y : Int} (hx : zr32 x) : zr32 (x.tmod y) := by
  have h := Int.natAbs_tmod x y
  have h2 : x.natAbs % y.natAbs ≤ x.natAbs := Nat.mod_le _ _
  obtain ⟨h3, h4⟩ := hx
  rcases Int.le_total 0 x with hp | hp
  · have h5 : 0 ≤ x.tmod y := Int.tmod_nonneg y hp
    constructor <;> omega
  · have h5 : x.tmod y ≤ 0 := by
      have h6 := Int.tmod_nonneg y (show 0 ≤ -x by omega)
      rw [Int.neg_tmod] at h6
      omega
    constructor <;> omega
theorem zl_tm {x y : Int} (hx : zr64 x) : zr64 (x.tmod y) := by
  have h := Int.natAbs_tmod x y
  have h2 : x.natAbs % y.natAbs ≤ x.natAbs := Nat.mod_le _ _
  obtain ⟨h3, h4⟩ := hx
  rcases Int.le_total 0 x with hp | hp
  · have h5 : 0 ≤ x.tmod y := Int.tmod_nonneg y hp
    constructor <;> omega
  · have h5 : x.tmod y ≤ 0 := by
      have h6 := Int.tmod_nonneg y (show 0 ≤ -x by omega)
      rw [Int.neg_tmod] at h6
      omega
    constructor <;> omega
theorem zn_and (x y : Int) : Int32.ofInt x &&& Int32.ofInt y = Int32.ofInt (z_and x y) := by rw [z_and, Int32.ofInt_toInt]
theorem zn_or (x y : Int) : Int32.ofInt x ||| Int32.ofInt y = Int32.ofInt (z_or x y) := by rw [z_or, Int32.ofInt_toInt]
theorem zn_xor (x y : Int) : Int32.ofInt x ^^^ Int32.ofInt y = Int32.ofInt (z_xor x y) := by rw [z_xor, Int32.ofInt_toInt]
theorem zn_shl (x y : Int) : Int32.ofInt x <<< (Int32.ofInt y &&& 31) = Int32.ofInt (z_shl x y) := by rw [z_shl, Int32.ofInt_toInt]
theorem zn_shr (x y : Int) : Int32.ofInt x >>> (Int32.ofInt y &&& 31) = Int32.ofInt (z_shr x y) := by rw [z_shr, Int32.ofInt_toInt]
theorem zl_and (x y : Int) : Int64.ofInt x &&& Int64.ofInt y = Int64.ofInt (z_land x y) := by rw [z_land, Int64.ofInt_toInt]
theorem zl_or (x y : Int) : Int64.ofInt x ||| Int64.ofInt y = Int64.ofInt (z_lor x y) := by rw [z_lor, Int64.ofInt_toInt]
theorem zl_shl (x y : Int) : Int64.ofInt x <<< ((Int32.ofInt y).toInt64 &&& 63) = Int64.ofInt (z_lshl x y) := by rw [z_lshl, Int64.ofInt_toInt]
theorem zl_ushr (x y : Int) : ((Int64.ofInt x).toUInt64 >>> ((Int32.ofInt y).toInt64.toUInt64 &&& Int64.toUInt64 63)).toInt64 = Int64.ofInt (z_lushr x y) := by rw [z_lushr, Int64.ofInt_toInt]
theorem zl_cmp {x y : Int} (hx : zr64 x) (hy : zr64 y) : lg_cmp (Int64.ofInt x) (Int64.ofInt y) = Int32.ofInt (z_lcmp x y) := by
  unfold lg_cmp z_lcmp
  have e1 : (Int64.ofInt x > Int64.ofInt y) ↔ y < x := zl_lt hy hx
  have e2 := zl_eq hx hy
  by_cases h1 : x < y
  · rw [if_pos h1, if_neg (by rw [e1]; omega), if_neg (by rw [e2]; omega)]; rfl
  · rw [if_neg h1]
    by_cases h2 : x = y
    · rw [if_pos h2, if_neg (by rw [e1]; omega), if_pos (e2.mpr h2)]; rfl
    · rw [if_neg h2, if_pos (e1.mpr (by omega))]; rfl
theorem zl_cmp_r (x y : Int) : zr32 (z_lcmp x y) := by
  unfold z_lcmp
  split
  · exact ⟨by decide, by decide⟩
  · split <;> exact ⟨by decide, by decide⟩
theorem zn_i2l {x : Int} (hx : zr32 x) : (Int32.ofInt x).toInt64 = Int64.ofInt x := by
  apply Int64.toInt_inj.mp
  rw [Int32.toInt_toInt64, zr32_toInt hx, zr64_toInt ⟨by have := hx.1; omega, by have := hx.2; omega⟩]
theorem zn_l2i {x : Int} (hx : zr64 x) : (Int64.ofInt x).toInt32 = Int32.ofInt (z32 x) := by
  rw [z32_o, ← Int32.ofInt_int64ToInt, zr64_toInt hx]
theorem zn_i2b {x : Int} (hx : zr32 x) : (Int32.ofInt x).toInt8.toInt32 = Int32.ofInt (z_i2b x) := by
  apply Int32.toInt_inj.mp
  rw [Int8.toInt_toInt32, Int32.toInt_toInt8, zr32_toInt hx]
  unfold z_i2b
  rw [zr32_toInt]
  have h1 := Int.bmod_lt (x := x) (m := 256) (by decide)
  have h2 := Int.le_bmod (x := x) (m := 256) (by decide)
  constructor <;> omega
theorem z_i2b_r (x : Int) : zr32 (z_i2b x) := by
  unfold z_i2b
  have h1 := Int.bmod_lt (x := x) (m := 256) (by decide)
  have h2 := Int.le_bmod (x := x) (m := 256) (by decide)
  constructor <;> omega
theorem z_b1_r (x : Int) : zr32 (z_b1 x) := by
  unfold z_b1
  constructor <;> omega
theorem zn_b1 {x : Int} (hx : zr32 x) : Int32.ofInt x &&& 1 = Int32.ofInt (z_b1 x) := by
  apply Int32.toInt_inj.mp
  unfold z_b1
  rw [zr32_toInt ⟨by omega, by omega⟩]
  have h : ((Int32.ofInt x) &&& 1).toBitVec = (Int32.ofInt x).toBitVec &&& 1#32 := rfl
  show ((Int32.ofInt x) &&& 1).toBitVec.toInt = _
  rw [h]
  have e : (Int32.ofInt x).toBitVec = BitVec.ofInt 32 x := rfl
  rw [e]
  have h3 : (BitVec.ofInt 32 x &&& 1#32).toNat = (x % 2).toNat := by
    rw [BitVec.toNat_and]
    show (BitVec.ofInt 32 x).toNat &&& 1 = _
    rw [Nat.and_one_is_mod, BitVec.toNat_ofInt]
    omega
  rw [BitVec.toInt_eq_toNat_cond, h3]
  omega
theorem zn_clampin {x : Int} {n : Nat} (hx : zr32 x) (h : 0 ≤ x ∧ x < (n : Int)) : ¬ (Int32.ofInt x < 0 ∨ n ≤ (Int32.ofInt x).toNatClampNeg) := by
  rw [zn_lt0 hx, zn_nat hx]
  omega
end
section
section ZREL
def zcv (ρ : Nat → Nat → Nat) : ZV → Value
  | .inl x => .int (Int32.ofInt x)
  | .inr (.inl x) => .long (Int64.ofInt x)
  | .inr (.inr (t, o)) => va_rf (o.map (ρ t))
/-- a value of ours that has a meaning -/
def zvl (M : ZM) : ZV → Prop
  | .inl x => zr32 x
  | .inr (.inl x) => zr64 x
  | .inr (.inr (t, o)) => ∀ i, o = some i → i < mC M t
def zfv (ρ : Nat → Nat → Nat) (M : ZM) (t i k : Nat) : Value := match (zfp t k).1 with
  | 0 => .int (Int32.ofInt (mI M t i k))
  | 1 => .int (Int32.ofInt (mI M t i k))
  | 2 => .long (Int64.ofInt (mL M t i k))
  | 3 => va_rf ((mF M t i k).map (ρ (zfp t k).2.1))
  | 4 => va_rf ((zrg (mR M) (zfp t k).2.2).map (ρ (zfp t k).2.1))
  | _ => .null
def zav (ρ : Nat → Nat → Nat) (M : ZM) (t i j : Nat) : Value := match zek t with
  | 0 => .int (Int32.ofInt (mI M t i j))
  | 1 => .long (Int64.ofInt (mL M t i j))
  | 2 => .int (Int32.ofInt (mI M t i j))
  | 3 => .int (Int32.ofInt (mI M t i j))
  | 4 => va_rf ((mF M t i j).map (ρ (ztg t)))
  | _ => .null
def zmt (t : Nat) : Bool := Nat.blt t 12 || Nat.ble (zek t) 4
/-- a cell of ours stands in the heap -/
def zcel (ρ : Nat → Nat → Nat) (dC : Nat → ClassId) (dI : Nat → Nat → Nat) (aC : Nat → ClassId) (M : ZM) (H : Heap) (t i : Nat) : Prop :=
  (t < 12 → t_OB (ρ t i) (dC t) (znf t) (dI t) H (zfv ρ M t i)) ∧ (¬ t < 12 → H[ρ t i]? = some (arrV (aC t) (mN M t i) (zav ρ M t i)))
def zHp (ρ : Nat → Nat → Nat) (dC : Nat → ClassId) (dI : Nat → Nat → Nat) (aC : Nat → ClassId) (M : ZM) (H : Heap) : Prop := ∀ t i, zmt t = true → i < mC M t → zcel ρ dC dI aC M H t i
/-- the kind of what a field or an array's place refers to -/
def ztf (t k : Nat) : Nat := if t < 12 then (zfp t k).2.1 else ztg t
/-- such a place there is, and it holds a reference that stands fast -/
def zpin (M : ZM) (t i k : Nat) : Prop := (t < 12 ∧ k < znf t ∧ (zfp t k).1 = 3) ∨ (¬ t < 12 ∧ k < mN M t i)
/-- numbers in their ranges -/
def zW1 (M : ZM) : Prop := ∀ t i k, zr32 (mI M t i k) ∧ zr64 (mL M t i k) ∧ zr32 (mKI M t i k) ∧ zr64 (mKL M t i k)
/-- references to what is there -/
def zW2 (M : ZM) : Prop := ∀ t i k j, i < mC M t → zpin M t i k → mF M t i k = some j → j < mC M (ztf t k)
def zW3 (M : ZM) : Prop := ∀ r j, zrg (mR M) r = some j → j < mC M (if r < 3 then 4 else 12)
/-- what changes lies apart, from B on -/
def zW4 (ρ : Nat → Nat → Nat) (M : ZM) : Prop := ∀ t i t' i', zmt t = true → zmt t' = true → i < mC M t → i' < mC M t' → ρ t i = ρ t' i' → t = t' ∧ i = i'
def zW5 (ρ : Nat → Nat → Nat) (B : Nat) (M : ZM) : Prop := ∀ t i, zmt t = true → i < mC M t → B ≤ ρ t i
def zW6 (M : ZM) : Prop := (mC M 5 = 0 → zrg (mR M) 2 = none) ∧ (mC M 8 = 0 → zrg (mR M) 3 = none) ∧ (mC M 10 = 0 → zrg (mR M) 0 = none ∧ zrg (mR M) 1 = none) ∧ mC M 5 ≤ 1 ∧ mC M 8 ≤ 1 ∧ mC M 10 ≤ 1
def zW7 (M : ZM) : Prop := ∀ t i, ¬ t < 12 → i < mC M t → mN M t i < 2147483648
/-- the constants: as many words as there are, the three rows -/
def zW8 (M : ZM) : Prop := mC M 12 = 30 ∧ mC M 100 = 1 ∧ mC M 101 = 1 ∧ mC M 102 ≤ 1 ∧ mN M 100 0 = 30 ∧ mN M 101 0 = 30 ∧ (∀ k, k < 30 → mF M 100 0 k = some k) ∧ ∀ t, 104 ≤ t → mC M t = 0
def zWf (ρ : Nat → Nat → Nat) (B : Nat) (M : ZM) : Prop := zW1 M ∧ zW2 M ∧ zW3 M ∧ zW4 ρ M ∧ zW5 ρ B M ∧ zW6 M ∧ zW7 M ∧ zW8 M
def zA (B : Nat) : Nat → Prop := fun q => B ≤ q
/-- the constants as they stand in the heap -/
def zcs (ρ : Nat → Nat → Nat) (B sl : Nat) (sx : Nat → Int) (U : State) (H : Heap) : Prop :=
  (∀ i, i < 30 → va_Z "WakePark$Word" (zwn i) "LWakePark$Word;" (.ref (ρ 12 i)) (zA B) U H) ∧
  va_Z "WakePark" "WORDS" "[LWakePark$Word;" (.ref (ρ 100 0)) (zA B) U H ∧
  va_Z "WakePark$1" "$SwitchMap$WakePark$Word" "[I" (.ref (ρ 101 0)) (zA B) U H ∧
  (∀ i, i < 30 → va_O "WakePark$Word" (ρ 12 i) (zA B) U H) ∧
  (∀ i, i < 30 → va_OF "WakePark$Word" "free" "Z" (.int (Int32.ofInt (zKI sx 12 i 0))) (ρ 12 i) (zA B) U H) ∧
  (∀ i, i < 30 → va_OF "WakePark$Word" "key" "J" (.long (Int64.ofInt (zKL 12 i 1))) (ρ 12 i) (zA B) U H) ∧
  (∀ i, i < 30 → va_OF "java/lang/Enum" "ordinal" "I" (.int (Int32.ofInt (zKI sx 12 i 2))) (ρ 12 i) (zA B) U H) ∧
  va_T (.object "WakePark$Word") (ρ 100 0) 30 (fun j => .ref (ρ 12 j)) (zA B) U H ∧
  va_T .int (ρ 101 0) 30 (fun j => .int (Int32.ofInt (zKI sx 101 0 j))) (zA B) U H ∧
  va_T .int (ρ 102 0) sl (fun j => .int (Int32.ofInt (zKI sx 102 0 j))) (zA B) U H ∧
  (∀ i j, i < 30 → j < 30 → ρ 12 i = ρ 12 j → i = j)
/-- the memory's constants are these -/
def zkc (sl : Nat) (sx : Nat → Int) (M : ZM) : Prop := (∀ t i k, mKI M t i k = zKI sx t i k) ∧ (∀ t i k, mKL M t i k = zKL t i k) ∧ (mC M 102 = 1 → mN M 102 0 = sl)
theorem zcs.moved {ρ : Nat → Nat → Nat} {B sl : Nat} {sx : Nat → Int} {u U : State} {H : Heap} (hvm : u.vm.Alike U.vm) (h : zcs ρ B sl sx u H) : zcs ρ B sl sx U H := by
  obtain ⟨h1, h2, h3, h4, h5, h6, h7, h8, h9, h10, h11⟩ := h
  exact ⟨fun i hi => (h1 i hi).moved hvm, h2.moved hvm, h3.moved hvm, fun i hi => (h4 i hi).moved hvm, fun i hi => (h5 i hi).moved hvm, fun i hi => (h6 i hi).moved hvm, fun i hi => (h7 i hi).moved hvm, h8.moved hvm, h9.moved hvm, h10.moved hvm, h11⟩
theorem zcs.kept {ρ : Nat → Nat → Nat} {B sl : Nat} {sx : Nat → Int} {U : State} {H H1 : Heap} (h : zcs ρ B sl sx U H) (hq : ∀ a : Nat, a < H.size → ¬ zA B a → H1[a]? = H[a]?) : zcs ρ B sl sx U H1 := by
  obtain ⟨h1, h2, h3, h4, h5, h6, h7, h8, h9, h10, h11⟩ := h
  exact ⟨fun i hi => (h1 i hi).kept hq, h2.kept hq, h3.kept hq, fun i hi => (h4 i hi).kept hq, fun i hi => (h5 i hi).kept hq, fun i hi => (h6 i hi).kept hq, fun i hi => (h7 i hi).kept hq, h8.kept hq, h9.kept hq, h10.kept hq, h11⟩
theorem zcs.same {ρ ρ' : Nat → Nat → Nat} {B sl : Nat} {sx : Nat → Int} {U : State} {H : Heap} (h : zcs ρ B sl sx U H) (h1 : ∀ i, i < 30 → ρ' 12 i = ρ 12 i) (h2 : ρ' 100 0 = ρ 100 0) (h3 : ρ' 101 0 = ρ 101 0) (h4 : ρ' 102 0 = ρ 102 0) : zcs ρ' B sl sx U H := by
  obtain ⟨a1, a2, a3, a4, a5, a6, a7, a8, a9, a10, a11⟩ := h
  refine ⟨fun i hi => by rw [h1 i hi]; exact a1 i hi, by rw [h2]; exact a2, by rw [h3]; exact a3, fun i hi => by rw [h1 i hi]; exact a4 i hi, fun i hi => by rw [h1 i hi]; exact a5 i hi, fun i hi => by rw [h1 i hi]; exact a6 i hi, fun i hi => by rw [h1 i hi]; exact a7 i hi, ?_, by rw [h3]; exact a9, by rw [h4]; exact a10, fun i j hi hj e => a11 i j hi hj (by rw [← h1 i hi, ← h1 j hj]; exact e)⟩
  obtain ⟨cell, b1, b2, b3, b4, b5, b6, b7⟩ := a8
  exact ⟨cell, by rw [h2]; exact b1, b2, b3, b4, b5, fun j hj => by rw [b6 j hj]; show some (Value.ref (ρ 12 j)) = some (Value.ref (ρ' 12 j)); rw [h1 j hj], by rw [h2]; exact b7⟩
end ZREL
end
section
section ZWR
variable {p : Program} {l : Launch} {e : Env} {R : Room} {s : State} {m : MethodId} {args : Array Value} {below : List Frame} {meth : Method} {c : Code} {H : Heap} {locs : List Loc} {cells slots : Nat} {Q : State → Prop}
variable {cc : ByteArray} {pc : Nat} {ls : Array Slot} {rest : List Value}
/-- an int is answered as the method's type has it -/
theorem zw_ret {Qc : Array Value → State → Outcome → State → Prop} {free : Addr → Prop} {v w : Int32} {ty : FieldType} (hexec : p.tables.exec = Jvm.exec) (hb : c.code = cc) (hr : meth.sig.returnType = some ty) (hn : narrow ty (.int v) = .int w)
    (hq : ∀ t : State, t.heap = H → s.WarmedH t.vm → Qc args s (.returned (some (.int w))) t) (hf : ∀ q ∈ locs, free q.base)
    (hdg : decode cc pc = .ok (.ireturn, 1)) (hlocks : meth.locks = false) : W p l e R s m args below meth c H locs cells slots (MQ below Qc args s cells slots free) (F0 m pc ls [.int v]) := by
  intro T hT X
  obtain ⟨fs, hret, hrun, hended, hW, hframe⟩ := X.leave (v := some (.int w)) (hlocks := hlocks) (fun h => by rw [hr] at h; cases h)
  have hmeth' : T.vm.method? m = some meth := X.method'
  refine ⟨T.setFrames fs, ?_, .returned (some (.int w)), hrun, hended, hq _ hT hW, locs, ⟨⟨_, rfl⟩, hW, hframe⟩, hf⟩
  jvm_step X.here [X.here.top, hexec, hb, hdg, hmeth', hr, hn]
  (try refine ⟨rfl, ?_⟩); (try refine ⟨rfl, ?_⟩)
  first | (intro acts; rw [hret _ acts rfl rfl rfl]) | rw [hret _ _ rfl rfl rfl]
  exact Steps.refl _
/-- what is known of a kind of object: its words, its types, its names -/
def zcl3 (t : Nat) (C : String) (T : u_T) (N : Nat) (ty : Nat → FieldType) : Prop := vwCl[t]? = some (C, T, N) ∧ (∀ w ∈ u_ws C T N, w ∈ lw_tz) ∧ (∀ k, k < N → parseFieldDescriptor (T k).2.2.1 = some (ty k)) ∧ (∀ a, a < N → ∀ b, b < N → a ≠ b → (T a).2.1 ≠ (T b).2.1) ∧ N = znf t
theorem zw_get (hexec : p.tables.exec = Jvm.exec) (hb : c.code = cc) {own C : String} {T : u_T} {ty : Nat → FieldType} {N t index : Nat} {dC : Nat → ClassId} {dI : Nat → Nat → Nat} {tys : List (ClassId × FieldType)} (hts : ∀ w ∈ lw_tz, w.before args s = true) (hC : zcl3 t C T N ty) (hown : s.vm.findClass own = some m.cls) (hK : va_K (dC, dI) vwCl tys s) {a : Nat} {V : Nat → Value} (hO : t_OB a (dC t) N (dI t) H V) (k : Nat) (hk : k < N) (hlink : (Jvm.Cond.fieldLink own index (T k).1 (T k).2.1 (T k).2.2.1).before args s = true) (hdg : decode cc pc = .ok (.getfield index, 3))
    (kk : W p l e R s m args below meth c H locs cells slots Q (F0 m (pc + 3) ls (V k :: rest))) : W p l e R s m args below meth c H locs cells slots Q (F0 m pc ls (.ref a :: rest)) := by
  obtain ⟨cell, q1, q2, q3, q4⟩ := hO
  obtain ⟨hS, hfc, kC, hkC, hkind⟩ := hK.1 t _ hC.1
  obtain ⟨cf, kf, fi, f, hi, hsl⟩ := hS k hk
  exact W.getf hexec hb hown hlink hi (u_facts hfc hkC (u_lays hts hC.2.1 hk) hi).1 q1 (by rw [q3]; exact fun h => by cases h) (v := V k) (by rw [hsl]; exact q4 k hk) rfl rfl hdg kk
theorem zw_ap {C : String} {T : u_T} {ty : Nat → FieldType} {N t : Nat} {dC : Nat → ClassId} {dI : Nat → Nat → Nat} {tys : List (ClassId × FieldType)} (hts : ∀ w ∈ lw_tz, w.before args s = true) (hC : zcl3 t C T N ty) (hK : va_K (dC, dI) vwCl tys s) : ∀ x y, x < N → y < N → x ≠ y → dI t x ≠ dI t y :=
  va_apart (own := "") (D := (dC, dI)) hts hC.2.1 ty hC.2.2.1 hC.2.2.2.1 hK hC.1
theorem zw_put (hexec : p.tables.exec = Jvm.exec) (hb : c.code = cc) {own C : String} {T : u_T} {ty : Nat → FieldType} {N t index : Nat} {dC : Nat → ClassId} {dI : Nat → Nat → Nat} {tys : List (ClassId × FieldType)} (hts : ∀ w ∈ lw_tz, w.before args s = true) (hC : zcl3 t C T N ty) (hown : s.vm.findClass own = some m.cls) (hK : va_K (dC, dI) vwCl tys s) {a : Nat} {V : Nat → Value} (hO : t_OB a (dC t) N (dI t) H V) (k : Nat) (hk : k < N) (hlink : (Jvm.Cond.fieldLink own index (T k).1 (T k).2.1 (T k).2.2.1).before args s = true) (hfin : (T k).2.2.2 = false ∨ ((T k).2.2.2 = true ∧ meth.name = "<init>" ∧ (T k).1 = own)) {v : Value} (hn : narrow (ty k) v = v) (hfit : fits (ty k) v = true) (hdg : decode cc pc = .ok (.putfield index, 3))
    (kk : ∀ (H1 : Heap) (z : Nat), H1.size = H.size → (∀ q : Nat, q ≠ a → H1[q]? = H[q]?) → t_OB a (dC t) N (dI t) H1 (updV V k v) → W p l e R s m args below meth c H1 (locs ++ [⟨a, z⟩]) cells slots Q (F0 m (pc + 3) ls rest)) : W p l e R s m args below meth c H locs cells slots Q (F0 m pc ls (v :: .ref a :: rest)) := by
  have hap := zw_ap hts hC hK
  obtain ⟨cell, q1, q2, q3, q4⟩ := hO
  obtain ⟨hS, hfc, kC, hkC, hkind⟩ := hK.1 t _ hC.1
  obtain ⟨cf, kf, fi, f, hi, hsl⟩ := hS k hk
  have hst := (u_facts hfc hkC (u_lays hts hC.2.1 hk) hi).1
  have hlay := hts _ (hC.2.1 _ (u_in_lay hk))
  unfold u_lay at hlay
  rcases hfin with hf | ⟨hf, hin2, hdecl⟩
  · rw [if_neg (by rw [hf]; decide)] at hlay
    have h6 := u_store hfc hkC hkind hlay hi (hC.2.2.1 k hk) hn hfit
    refine W.putK hexec hb (f := f) ⟨hown, hlink, ⟨_, _, _, hi⟩, hst⟩ (by rw [q2]; exact h6) q1 q3 (by rw [hsl]; exact k2_hasslot (q4 k hk)) rfl rfl hdg fun H' e1 e2 e3 => ?_
    rw [hsl] at e1 ⊢
    exact kk H' _ e2 e3 ⟨_, e1, q2, q3, t_set q4 hap hk v⟩
  · rw [if_pos hf] at hlay
    have hcf : m.cls = cf := by
      obtain ⟨_, _, c', _, _, _, -, -, hf', -, -, -, hown2, -⟩ := Cond.laysFinal_spec hlay
      have e1 : c' = cf := by have := hi.symm.trans hf'; simp at this; exact this.1.symm
      rw [hdecl] at hown2
      rw [← e1]; exact Option.some.inj (hown.symm.trans hown2)
    have h6 := u_fits hfc hkC hkind (Or.inr hlay) hi (hC.2.2.1 k hk) hn hfit
    refine W.putFinK hexec hb hown hlink hi hst hcf hin2 (by rw [q2]; exact h6) q1 q3 (by rw [hsl]; exact k2_hasslot (q4 k hk)) rfl rfl hdg fun H' e1 e2 e3 => ?_
    rw [hsl] at e1 ⊢
    exact kk H' _ e2 e3 ⟨_, e1, q2, q3, t_set q4 hap hk v⟩
theorem zw_copy (hexec : p.tables.exec = Jvm.exec) (hb : c.code = cc) (hml : c.maxLocals = ls.size) {own : String} {index : Nat} (hown : s.vm.findClass own = some m.cls) (hlink : (Jvm.Cond.methodLink own index arraycopyName).before args s = true) (hnat : (Jvm.Cond.native arraycopyName).before args s = true) (hstat : (Jvm.Cond.static arraycopyName).before args s = true) (hini : (Jvm.Cond.initialized "java/lang/System").before args s = true)
    {a0 a : Nat} {c0 c1 : ClassId} {n0 n1 : Nat} {f g : Nat → Int32} (hc0 : H[a0]? = some (arrV c0 n0 (fun j => .int (f j)))) (hc1 : H[a]? = some (arrV c1 n1 (fun j => .int (g j)))) (ht0 : ArrOfT s c0 .int) (ht1 : ArrOfT s c1 .int)
    {sp dp n : Int32} (h1 : ¬ sp < 0) (h2 : ¬ dp < 0) (h3 : ¬ n < 0) (h4 : sp.toNatClampNeg + n.toNatClampNeg ≤ n0) (h5 : dp.toNatClampNeg + n.toNatClampNeg ≤ n1)
    (hframes : 1 ≤ R.frames) (hlocals : (rest.map fun v => v.category).sum + (nativeFrameWords "java/lang/System" "arraycopy" 5 + 11) ≤ R.locals) (hdg : decode cc pc = .ok (.invokestatic index, 3))
    (kk : ∀ (H1 : Heap) (L : List Loc), H1.size = H.size → (∀ q : Nat, q ≠ a → H1[q]? = H[q]?) → H1[a]? = some (arrV c1 n1 (fun j => .int (va_cpy f g sp.toNatClampNeg dp.toNatClampNeg n.toNatClampNeg j))) → (∀ q ∈ L, q.base = a) → W p l e R s m args below meth c H1 (locs ++ L) cells slots Q (F0 m (pc + 3) ls rest)) : W p l e R s m args below meth c H locs cells slots Q (F0 m pc ls (.int n :: .int dp :: .ref a :: .int sp :: .ref a0 :: rest)) := by
  have nn : ∀ z : Int32, ¬ z < 0 → z.toInt = (z.toNatClampNeg : Int) := by
    intro z hz
    have hz0 : (0 : Int) ≤ z.toInt := by
      have := Int32.not_lt.mp hz
      simpa using Int32.le_iff_toInt_le.mp this
    show z.toInt = ((z.toInt.toNat : Nat) : Int)
    omega
  intro T hT X
  obtain ⟨-, k0, hk0, cm0, hkk0⟩ := ht0 n0 (fun j => .int (f j))
  obtain ⟨-, k1, hk1, cm1, hkk1⟩ := ht1 n1 (fun j => .int (g j))
  obtain ⟨vm', X', step⟩ := X.arraycopy hexec hown hlink hnat hstat hini (src := a0) (dst := a) (cs := arrV c0 n0 (fun j => .int (f j))) (cd := arrV c1 n1 (fun j => .int (g j))) (srcPos := sp) (destPos := dp) (n := n) (by rw [hT]; exact hc0) (by rw [hT]; exact hc1)
    (fun _ h => by cases h) (fun _ h => by cases h) (fun h => by cases h) (fun h => by cases h) hk0 hk1 hkk0 hkk1 (by simp [show refKind .int = false from rfl]) h1 h2 h3
    (by rw [nn sp h1, nn n h3, arrV_size]; omega)
    (by rw [nn dp h2, nn n h3, arrV_size]; omega)
    (fun vm₁ _ i hi => by
      have e : (arrV c0 n0 (fun j => Value.int (f j))).slots.getD (sp.toNatClampNeg + i) .null = .int (f (sp.toNatClampNeg + i)) := by
        rw [Array.getD_eq_getD_getElem?, arrV_read _ _ (by omega)]
        rfl
      refine ⟨?_, ?_⟩
      · rw [e]
        rfl
      · rw [e]
        exact trivial)
    (g := F0 m pc ls (.int n :: .int dp :: .ref a :: .int sp :: .ref a0 :: rest)) rfl (by rw [hml]) (rest := rest) rfl (by rw [hb]; exact hdg) hframes (by show 2 * 0 + _ + _ ≤ _; omega)
  have e1 : copied (arrV c0 n0 (fun j => .int (f j))) (arrV c1 n1 (fun j => .int (g j))) sp dp n = arrV c1 n1 (fun j => .int (va_cpy f g sp.toNatClampNeg dp.toNatClampNeg n.toNatClampNeg j)) := va_copied (fun z => .int z) c0 c1 f g h4
  rw [e1] at X' step
  have hl : a < H.size := (Array.getElem?_eq_some_iff.mp hc1).1
  have hheap : ((T.setVm vm').setCell a (arrV c1 n1 (fun j => .int (va_cpy f g sp.toNatClampNeg dp.toNatClampNeg n.toNatClampNeg j)))).heap = H.setIfInBounds a (arrV c1 n1 (fun j => .int (va_cpy f g sp.toNatClampNeg dp.toNatClampNeg n.toNatClampNeg j))) := by rw [← hT]; rfl
  obtain ⟨t, a1, b1⟩ := kk _ _ (by simp) (fun q hq => by simp [Array.getElem?_setIfInBounds, Ne.symm hq]) (by simp [Array.getElem?_setIfInBounds, hl]) (fun q hq => by
      obtain ⟨z, -, hz⟩ := List.mem_map.mp hq
      rw [← hz]) _ hheap X'
  exact ⟨t, step t a1, b1⟩
end ZWR
end
section
/-- memory only grows, and its constants stay -/
def zmo (M M1 : ZM) : Prop := (∀ t, mC M t ≤ mC M1 t) ∧ M.2.2.2.2.1 ≤ M1.2.2.2.2.1 ∧ M.2.2.2.2.2 ≤ M1.2.2.2.2.2 ∧ M1.2.2.2.1.2.2.1 = M.2.2.2.1.2.2.1 ∧ M1.2.2.2.1.2.2.2.1 = M.2.2.2.1.2.2.2.1
theorem zmo_rf (M : ZM) : zmo M M := ⟨fun _ => Nat.le_refl _, Nat.le_refl _, Nat.le_refl _, rfl, rfl⟩
theorem zmo_tr {M M1 M2 : ZM} (h : zmo M M1) (h2 : zmo M1 M2) : zmo M M2 := ⟨fun t => Nat.le_trans (h.1 t) (h2.1 t), Nat.le_trans h.2.1 h2.2.1, Nat.le_trans h.2.2.1 h2.2.2.1, h2.2.2.2.1.trans h.2.2.2.1, h2.2.2.2.2.trans h.2.2.2.2⟩
theorem zmo_new (M : ZM) (t n : Nat) : zmo M (pNew M t n) := ⟨fun t' => by
  show mC M t' ≤ if t' = t then mC M t + 1 else mC M t'
  split
  · next e => rw [e]; exact Nat.le_succ _
  · exact Nat.le_refl _, Nat.le_succ _, Nat.le_add_right _ _, rfl, rfl⟩
theorem zmo_newl (M : ZM) (t i n m : Nat) : zmo M (pNew (pLen M t i n) t m) := zmo_tr (show zmo M (pLen M t i n) from ⟨fun _ => Nat.le_refl _, Nat.le_refl _, Nat.le_refl _, rfl, rfl⟩) (zmo_new _ _ _)
theorem zmo_ce (M : ZM) (n : Nat) : zmo M (pCe M n) := ⟨fun _ => Nat.le_refl _, Nat.le_succ _, Nat.le_add_right _ _, rfl, rfl⟩
section ZMO
variable {β : Type} {P : Prop} {r : β}
theorem zel {c : Prop} [Decidable c] {a b : Option β} (h : (if c then a else b) = some r) (ha : a = some r → P) (hb : b = some r → P) : P := by
  by_cases e : c
  · rw [if_pos e] at h; exact ha h
  · rw [if_neg e] at h; exact hb h
theorem zbl {b : Bool} {a : Option β} (h : zbm b a none = some r) (ha : a = some r → P) : P := by
  cases b with
  | true => exact ha h
  | false => cases h
theorem zml {q : Nat} {a0 a1 a2 a3 a4 a5 a6 : Option β} (h : zem q a0 a1 a2 a3 a4 a5 a6 none = some r) (h0 : a0 = some r → P) (h1 : a1 = some r → P) (h2 : a2 = some r → P) (h3 : a3 = some r → P) (h4 : a4 = some r → P) (h5 : a5 = some r → P) (h6 : a6 = some r → P) : P := by
  match q, h with
  | 0, h => exact h0 h
  | 1, h => exact h1 h
  | 2, h => exact h2 h
  | 3, h => exact h3 h
  | 4, h => exact h4 h
  | 5, h => exact h5 h
  | 6, h => exact h6 h
  | _ + 7, h => cases h
theorem zld_mo {o : Option ZV} {f : ZV → Option β} (hf : ∀ v, f v = some r → P) (h : zld o f none = some r) : P := by
  cases o with
  | none => cases h
  | some v => exact hf v h
theorem zgf_mo {M : ZM} {ax : List Nat} {i : Nat} {f : ZV → Option β} (hf : ∀ v, f v = some r → P) (h : zgf M ax i f none = some r) : P := by
  unfold zgf at h
  split at h
  · split at h <;> first | exact hf _ h | cases h
  · cases h
theorem zpf_mo {M : ZM} {ax : List Nat} {i : Nat} {v : ZV} {f : ZM → Option β} (hf : ∀ M1, f M1 = some r → zmo M M1 → P) (h : zpf M ax i v f none = some r) : P := by
  unfold zpf at h
  split at h
  · split at h
    · exact hf _ h ⟨fun _ => Nat.le_refl _, Nat.le_refl _, Nat.le_refl _, rfl, rfl⟩
    · exact zbl h (fun h => hf _ h ⟨fun _ => Nat.le_refl _, Nat.le_refl _, Nat.le_refl _, rfl, rfl⟩)
    · exact hf _ h ⟨fun _ => Nat.le_refl _, Nat.le_refl _, Nat.le_refl _, rfl, rfl⟩
    · exact zbl h (fun h => hf _ h ⟨fun _ => Nat.le_refl _, Nat.le_refl _, Nat.le_refl _, rfl, rfl⟩)
    · split at h
      · exact hf _ h ⟨fun _ => Nat.le_refl _, Nat.le_refl _, Nat.le_refl _, rfl, rfl⟩
      · exact zbl h (fun h => hf _ h ⟨fun _ => Nat.le_refl _, Nat.le_refl _, Nat.le_refl _, rfl, rfl⟩)
    · cases h
  · cases h
theorem ziv_mo {M : ZM} {ax : List Nat} {st : List ZV} {f : List ZV → ZM → Option β} {g : Nat → List ZV → List ZV → Option β} (hf : ∀ v M1, f v M1 = some r → zmo M M1 → P) (hg : ∀ a b c, g a b c = some r → P) (h : ziv M ax st f g none = some r) : P := by
  unfold ziv at h
  split at h
  · split at h
    · exact zbl h (fun h => hg _ _ _ h)
    · cases h
  · split at h
    · exact zbl h (fun h => hg _ _ _ h)
    · cases h
  · split at h
    · exact zbl h (fun h => hf _ _ h ⟨fun _ => Nat.le_refl _, Nat.le_refl _, Nat.le_refl _, rfl, rfl⟩)
    · cases h
  · split at h
    · exact zbl h (fun h => zml h (fun h => zml h (fun h => zel h (fun h => hf _ _ h ⟨fun _ => Nat.le_refl _, Nat.le_refl _, Nat.le_refl _, rfl, rfl⟩) (fun h => nomatch h)) (fun h => nomatch h) (fun h => nomatch h) (fun h => nomatch h) (fun h => nomatch h) (fun h => nomatch h) (fun h => nomatch h)) (fun h => nomatch h) (fun h => nomatch h) (fun h => nomatch h) (fun h => nomatch h) (fun h => nomatch h) (fun h => nomatch h))
    · cases h
  · split at h
    · exact zbl h (fun h => hf _ _ h ⟨fun _ => Nat.le_refl _, Nat.le_refl _, Nat.le_refl _, rfl, rfl⟩)
    · cases h
  · split at h
    · exact zbl h (fun h => zel h (fun h => hf _ _ h (zmo_ce M 6)) (fun h => hf _ _ h ⟨fun _ => Nat.le_refl _, Nat.le_refl _, Nat.le_refl _, rfl, rfl⟩))
    · cases h
  · split at h
    · exact zbl h (fun h => hf _ _ h ⟨fun _ => Nat.le_refl _, Nat.le_refl _, Nat.le_refl _, rfl, rfl⟩)
    · cases h
  · split at h
    · exact zbl h (fun h => hf _ _ h ⟨fun _ => Nat.le_refl _, Nat.le_refl _, Nat.le_refl _, rfl, rfl⟩)
    · cases h
  · split at h
    · exact zbl h (fun h => hf _ _ h ⟨fun _ => Nat.le_refl _, Nat.le_refl _, Nat.le_refl _, rfl, rfl⟩)
    · cases h
  · cases h
end ZMO
set_option maxHeartbeats 4000000 in
theorem zst_mo {P : Prop} {r : ZR} {k : Nat → ZL → List ZV → ZM → Option ZR} {kr : Option ZV → ZM → Option ZR} {kc : Nat → List ZV → List ZV → Option ZR} {M : ZM} (hk : ∀ pc ls st M1, k pc ls st M1 = some r → zmo M M1 → P) (hr : ∀ v M1, kr v M1 = some r → zmo M M1 → P) (hc : ∀ mi as rest, kc mi as rest = some r → P) {e : ZE} {pc : Nat} {ls : ZL} {st : List ZV} (h : zst e pc ls st M k kr kc none = some r) : P := by
  obtain ⟨ins, len, ax, cv⟩ := e
  have sw : ∀ (x : Int) (cv : List Int) (ts : List Nat) (f : Nat → Option ZR) (d : Option ZR), (∀ t, f t = some r → P) → (d = some r → P) → zsw x cv ts f d = some r → P := by
    intro x cv
    induction cv with
    | nil => intro ts f d hf hd h; exact hd h
    | cons v vs ih =>
      intro ts f d hf hd h
      cases ts with
      | nil => exact hd h
      | cons t ts =>
        simp only [zsw] at h
        exact zel h (hf t) (ih ts f d hf hd)
  have br : ∀ (c : ClassFile.Cond) (x y : Int) (a b : Option ZR), (a = some r → P) → (b = some r → P) → zbr c x y a b = some r → P := by
    intro c x y a b ha hb h
    cases c <;> simp only [zbr] at h <;> first | exact zel h ha hb | exact zel h hb ha
  cases ins
  case aload => exact zld_mo (fun v hv => by rcases v with x | x | x <;> first | exact hk _ _ _ _ hv ⟨fun _ => Nat.le_refl _, Nat.le_refl _, Nat.le_refl _, rfl, rfl⟩ | (cases hv; done)) h
  case aload_n => exact zld_mo (fun v hv => by rcases v with x | x | x <;> first | exact hk _ _ _ _ hv ⟨fun _ => Nat.le_refl _, Nat.le_refl _, Nat.le_refl _, rfl, rfl⟩ | (cases hv; done)) h
  case iload => exact zld_mo (fun v hv => by rcases v with x | x | x <;> first | exact hk _ _ _ _ hv ⟨fun _ => Nat.le_refl _, Nat.le_refl _, Nat.le_refl _, rfl, rfl⟩ | (cases hv; done)) h
  case iload_n => exact zld_mo (fun v hv => by rcases v with x | x | x <;> first | exact hk _ _ _ _ hv ⟨fun _ => Nat.le_refl _, Nat.le_refl _, Nat.le_refl _, rfl, rfl⟩ | (cases hv; done)) h
  case lload => exact zld_mo (fun v hv => by rcases v with x | x | x <;> first | exact hk _ _ _ _ hv ⟨fun _ => Nat.le_refl _, Nat.le_refl _, Nat.le_refl _, rfl, rfl⟩ | (cases hv; done)) h
  case lload_n => exact zld_mo (fun v hv => by rcases v with x | x | x <;> first | exact hk _ _ _ _ hv ⟨fun _ => Nat.le_refl _, Nat.le_refl _, Nat.le_refl _, rfl, rfl⟩ | (cases hv; done)) h
  case iinc => exact zld_mo (fun v hv => by rcases v with x | x | x <;> first | exact hk _ _ _ _ hv ⟨fun _ => Nat.le_refl _, Nat.le_refl _, Nat.le_refl _, rfl, rfl⟩ | (cases hv; done)) h
  case astore => rcases st with _ | ⟨x | x | x, st⟩ <;> first | exact hk _ _ _ _ h ⟨fun _ => Nat.le_refl _, Nat.le_refl _, Nat.le_refl _, rfl, rfl⟩ | (cases h; done)
  case astore_n => rcases st with _ | ⟨x | x | x, st⟩ <;> first | exact hk _ _ _ _ h ⟨fun _ => Nat.le_refl _, Nat.le_refl _, Nat.le_refl _, rfl, rfl⟩ | (cases h; done)
  case istore => rcases st with _ | ⟨x | x | x, st⟩ <;> first | exact hk _ _ _ _ h ⟨fun _ => Nat.le_refl _, Nat.le_refl _, Nat.le_refl _, rfl, rfl⟩ | (cases h; done)
  case istore_n => rcases st with _ | ⟨x | x | x, st⟩ <;> first | exact hk _ _ _ _ h ⟨fun _ => Nat.le_refl _, Nat.le_refl _, Nat.le_refl _, rfl, rfl⟩ | (cases h; done)
  case lstore => rcases st with _ | ⟨x | x | x, st⟩ <;> first | exact hk _ _ _ _ h ⟨fun _ => Nat.le_refl _, Nat.le_refl _, Nat.le_refl _, rfl, rfl⟩ | (cases h; done)
  case lstore_n => rcases st with _ | ⟨x | x | x, st⟩ <;> first | exact hk _ _ _ _ h ⟨fun _ => Nat.le_refl _, Nat.le_refl _, Nat.le_refl _, rfl, rfl⟩ | (cases h; done)
  case ineg => rcases st with _ | ⟨x | x | x, st⟩ <;> first | exact hk _ _ _ _ h ⟨fun _ => Nat.le_refl _, Nat.le_refl _, Nat.le_refl _, rfl, rfl⟩ | (cases h; done)
  case i2l => rcases st with _ | ⟨x | x | x, st⟩ <;> first | exact hk _ _ _ _ h ⟨fun _ => Nat.le_refl _, Nat.le_refl _, Nat.le_refl _, rfl, rfl⟩ | (cases h; done)
  case l2i => rcases st with _ | ⟨x | x | x, st⟩ <;> first | exact hk _ _ _ _ h ⟨fun _ => Nat.le_refl _, Nat.le_refl _, Nat.le_refl _, rfl, rfl⟩ | (cases h; done)
  case i2b => rcases st with _ | ⟨x | x | x, st⟩ <;> first | exact hk _ _ _ _ h ⟨fun _ => Nat.le_refl _, Nat.le_refl _, Nat.le_refl _, rfl, rfl⟩ | (cases h; done)
  case dup => rcases st with _ | ⟨x | x | x, st⟩ <;> first | exact hk _ _ _ _ h ⟨fun _ => Nat.le_refl _, Nat.le_refl _, Nat.le_refl _, rfl, rfl⟩ | (cases h; done)
  case pop => rcases st with _ | ⟨x | x | x, st⟩ <;> first | exact hk _ _ _ _ h ⟨fun _ => Nat.le_refl _, Nat.le_refl _, Nat.le_refl _, rfl, rfl⟩ | (cases h; done)
  case iconst => exact hk _ _ _ _ h ⟨fun _ => Nat.le_refl _, Nat.le_refl _, Nat.le_refl _, rfl, rfl⟩
  case bipush => exact hk _ _ _ _ h ⟨fun _ => Nat.le_refl _, Nat.le_refl _, Nat.le_refl _, rfl, rfl⟩
  case sipush => exact hk _ _ _ _ h ⟨fun _ => Nat.le_refl _, Nat.le_refl _, Nat.le_refl _, rfl, rfl⟩
  case lconst => exact hk _ _ _ _ h ⟨fun _ => Nat.le_refl _, Nat.le_refl _, Nat.le_refl _, rfl, rfl⟩
  case aconst_null => exact hk _ _ _ _ h ⟨fun _ => Nat.le_refl _, Nat.le_refl _, Nat.le_refl _, rfl, rfl⟩
  case goto => exact hk _ _ _ _ h ⟨fun _ => Nat.le_refl _, Nat.le_refl _, Nat.le_refl _, rfl, rfl⟩
  case ldc => rcases cv with _ | ⟨x, cv⟩ <;> first | exact hk _ _ _ _ h ⟨fun _ => Nat.le_refl _, Nat.le_refl _, Nat.le_refl _, rfl, rfl⟩ | (cases h; done)
  case ldc_w => rcases cv with _ | ⟨x, cv⟩ <;> first | exact hk _ _ _ _ h ⟨fun _ => Nat.le_refl _, Nat.le_refl _, Nat.le_refl _, rfl, rfl⟩ | (cases h; done)
  case ldc2_w => rcases cv with _ | ⟨x, cv⟩ <;> first | exact hk _ _ _ _ h ⟨fun _ => Nat.le_refl _, Nat.le_refl _, Nat.le_refl _, rfl, rfl⟩ | (cases h; done)
  case iadd => rcases st with _ | ⟨x | x | x, _ | ⟨y | y | y, st⟩⟩ <;> first | exact hk _ _ _ _ h ⟨fun _ => Nat.le_refl _, Nat.le_refl _, Nat.le_refl _, rfl, rfl⟩ | (cases h; done)
  case isub => rcases st with _ | ⟨x | x | x, _ | ⟨y | y | y, st⟩⟩ <;> first | exact hk _ _ _ _ h ⟨fun _ => Nat.le_refl _, Nat.le_refl _, Nat.le_refl _, rfl, rfl⟩ | (cases h; done)
  case imul => rcases st with _ | ⟨x | x | x, _ | ⟨y | y | y, st⟩⟩ <;> first | exact hk _ _ _ _ h ⟨fun _ => Nat.le_refl _, Nat.le_refl _, Nat.le_refl _, rfl, rfl⟩ | (cases h; done)
  case iand => rcases st with _ | ⟨x | x | x, _ | ⟨y | y | y, st⟩⟩ <;> first | exact hk _ _ _ _ h ⟨fun _ => Nat.le_refl _, Nat.le_refl _, Nat.le_refl _, rfl, rfl⟩ | (cases h; done)
  case ior => rcases st with _ | ⟨x | x | x, _ | ⟨y | y | y, st⟩⟩ <;> first | exact hk _ _ _ _ h ⟨fun _ => Nat.le_refl _, Nat.le_refl _, Nat.le_refl _, rfl, rfl⟩ | (cases h; done)
  case ixor => rcases st with _ | ⟨x | x | x, _ | ⟨y | y | y, st⟩⟩ <;> first | exact hk _ _ _ _ h ⟨fun _ => Nat.le_refl _, Nat.le_refl _, Nat.le_refl _, rfl, rfl⟩ | (cases h; done)
  case ishl => rcases st with _ | ⟨x | x | x, _ | ⟨y | y | y, st⟩⟩ <;> first | exact hk _ _ _ _ h ⟨fun _ => Nat.le_refl _, Nat.le_refl _, Nat.le_refl _, rfl, rfl⟩ | (cases h; done)
  case ishr => rcases st with _ | ⟨x | x | x, _ | ⟨y | y | y, st⟩⟩ <;> first | exact hk _ _ _ _ h ⟨fun _ => Nat.le_refl _, Nat.le_refl _, Nat.le_refl _, rfl, rfl⟩ | (cases h; done)
  case ladd => rcases st with _ | ⟨x | x | x, _ | ⟨y | y | y, st⟩⟩ <;> first | exact hk _ _ _ _ h ⟨fun _ => Nat.le_refl _, Nat.le_refl _, Nat.le_refl _, rfl, rfl⟩ | (cases h; done)
  case lsub => rcases st with _ | ⟨x | x | x, _ | ⟨y | y | y, st⟩⟩ <;> first | exact hk _ _ _ _ h ⟨fun _ => Nat.le_refl _, Nat.le_refl _, Nat.le_refl _, rfl, rfl⟩ | (cases h; done)
  case lmul => rcases st with _ | ⟨x | x | x, _ | ⟨y | y | y, st⟩⟩ <;> first | exact hk _ _ _ _ h ⟨fun _ => Nat.le_refl _, Nat.le_refl _, Nat.le_refl _, rfl, rfl⟩ | (cases h; done)
  case land => rcases st with _ | ⟨x | x | x, _ | ⟨y | y | y, st⟩⟩ <;> first | exact hk _ _ _ _ h ⟨fun _ => Nat.le_refl _, Nat.le_refl _, Nat.le_refl _, rfl, rfl⟩ | (cases h; done)
  case lor => rcases st with _ | ⟨x | x | x, _ | ⟨y | y | y, st⟩⟩ <;> first | exact hk _ _ _ _ h ⟨fun _ => Nat.le_refl _, Nat.le_refl _, Nat.le_refl _, rfl, rfl⟩ | (cases h; done)
  case lshl => rcases st with _ | ⟨x | x | x, _ | ⟨y | y | y, st⟩⟩ <;> first | exact hk _ _ _ _ h ⟨fun _ => Nat.le_refl _, Nat.le_refl _, Nat.le_refl _, rfl, rfl⟩ | (cases h; done)
  case lushr => rcases st with _ | ⟨x | x | x, _ | ⟨y | y | y, st⟩⟩ <;> first | exact hk _ _ _ _ h ⟨fun _ => Nat.le_refl _, Nat.le_refl _, Nat.le_refl _, rfl, rfl⟩ | (cases h; done)
  case lcmp => rcases st with _ | ⟨x | x | x, _ | ⟨y | y | y, st⟩⟩ <;> first | exact hk _ _ _ _ h ⟨fun _ => Nat.le_refl _, Nat.le_refl _, Nat.le_refl _, rfl, rfl⟩ | (cases h; done)
  case dup2 => rcases st with _ | ⟨x | x | x, _ | ⟨y | y | y, st⟩⟩ <;> first | exact hk _ _ _ _ h ⟨fun _ => Nat.le_refl _, Nat.le_refl _, Nat.le_refl _, rfl, rfl⟩ | (cases h; done)
  case idiv => rcases st with _ | ⟨x | x | x, _ | ⟨y | y | y, st⟩⟩ <;> first | exact zel h (fun h => nomatch h) (fun h => hk _ _ _ _ h ⟨fun _ => Nat.le_refl _, Nat.le_refl _, Nat.le_refl _, rfl, rfl⟩) | (cases h; done)
  case irem => rcases st with _ | ⟨x | x | x, _ | ⟨y | y | y, st⟩⟩ <;> first | exact zel h (fun h => nomatch h) (fun h => hk _ _ _ _ h ⟨fun _ => Nat.le_refl _, Nat.le_refl _, Nat.le_refl _, rfl, rfl⟩) | (cases h; done)
  case ldiv => rcases st with _ | ⟨x | x | x, _ | ⟨y | y | y, st⟩⟩ <;> first | exact zel h (fun h => nomatch h) (fun h => hk _ _ _ _ h ⟨fun _ => Nat.le_refl _, Nat.le_refl _, Nat.le_refl _, rfl, rfl⟩) | (cases h; done)
  case lrem => rcases st with _ | ⟨x | x | x, _ | ⟨y | y | y, st⟩⟩ <;> first | exact zel h (fun h => nomatch h) (fun h => hk _ _ _ _ h ⟨fun _ => Nat.le_refl _, Nat.le_refl _, Nat.le_refl _, rfl, rfl⟩) | (cases h; done)
  case ifCond => rcases st with _ | ⟨x | x | x, st⟩ <;> first | exact br _ _ _ _ _ (fun h => hk _ _ _ _ h ⟨fun _ => Nat.le_refl _, Nat.le_refl _, Nat.le_refl _, rfl, rfl⟩) (fun h => hk _ _ _ _ h ⟨fun _ => Nat.le_refl _, Nat.le_refl _, Nat.le_refl _, rfl, rfl⟩) h | (cases h; done)
  case if_icmp => rcases st with _ | ⟨x | x | x, _ | ⟨y | y | y, st⟩⟩ <;> first | exact br _ _ _ _ _ (fun h => hk _ _ _ _ h ⟨fun _ => Nat.le_refl _, Nat.le_refl _, Nat.le_refl _, rfl, rfl⟩) (fun h => hk _ _ _ _ h ⟨fun _ => Nat.le_refl _, Nat.le_refl _, Nat.le_refl _, rfl, rfl⟩) h | (cases h; done)
  case if_acmp => rename_i c _; rcases st with _ | ⟨x | x | ⟨t, x⟩, _ | ⟨y | y | ⟨t2, y⟩, st⟩⟩ <;> first | (cases h; done) | (cases c <;> exact zbl h (fun h => zel h (fun h => hk _ _ _ _ h ⟨fun _ => Nat.le_refl _, Nat.le_refl _, Nat.le_refl _, rfl, rfl⟩) (fun h => hk _ _ _ _ h ⟨fun _ => Nat.le_refl _, Nat.le_refl _, Nat.le_refl _, rfl, rfl⟩)))
  case ifnull => rcases st with _ | ⟨x | x | ⟨t, _ | x⟩, st⟩ <;> first | exact hk _ _ _ _ h ⟨fun _ => Nat.le_refl _, Nat.le_refl _, Nat.le_refl _, rfl, rfl⟩ | (cases h; done)
  case ifnonnull => rcases st with _ | ⟨x | x | ⟨t, _ | x⟩, st⟩ <;> first | exact hk _ _ _ _ h ⟨fun _ => Nat.le_refl _, Nat.le_refl _, Nat.le_refl _, rfl, rfl⟩ | (cases h; done)
  case tableswitch => rcases st with _ | ⟨x | x | x, st⟩ <;> rcases ax with _ | ⟨d, ts⟩ <;> first | (cases h; done) | exact sw _ _ _ _ _ (fun t => (fun h => hk _ _ _ _ h ⟨fun _ => Nat.le_refl _, Nat.le_refl _, Nat.le_refl _, rfl, rfl⟩)) (fun h => hk _ _ _ _ h ⟨fun _ => Nat.le_refl _, Nat.le_refl _, Nat.le_refl _, rfl, rfl⟩) h
  case getfield => rcases st with _ | ⟨x | x | ⟨t, _ | x⟩, st⟩ <;> first | (cases h; done) | exact zbl h (fun h => zgf_mo (fun v => (fun h => hk _ _ _ _ h ⟨fun _ => Nat.le_refl _, Nat.le_refl _, Nat.le_refl _, rfl, rfl⟩)) h)
  case putfield => rcases st with _ | ⟨v, _ | ⟨x | x | ⟨t, _ | x⟩, st⟩⟩ <;> first | (cases h; done) | exact zbl h (fun h => zpf_mo (fun M1 h hm => hk _ _ _ _ h hm) h)
  case getstatic => rcases ax with _ | ⟨a, _ | ⟨b, ax⟩⟩ <;> first | (cases h; done) | exact hk _ _ _ _ h ⟨fun _ => Nat.le_refl _, Nat.le_refl _, Nat.le_refl _, rfl, rfl⟩
  case iaload => rcases st with _ | ⟨x | x | x, _ | ⟨y | y | ⟨t, _ | y⟩, st⟩⟩ <;> first | (cases h; done) | exact zml h (fun h => zel h (fun h => hk _ _ _ _ h ⟨fun _ => Nat.le_refl _, Nat.le_refl _, Nat.le_refl _, rfl, rfl⟩) (fun h => nomatch h)) (fun h => nomatch h) (fun h => nomatch h) (fun h => nomatch h) (fun h => nomatch h) (fun h => zel h (fun h => hk _ _ _ _ h ⟨fun _ => Nat.le_refl _, Nat.le_refl _, Nat.le_refl _, rfl, rfl⟩) (fun h => nomatch h)) (fun h => nomatch h)
  case baload => rcases st with _ | ⟨x | x | x, _ | ⟨y | y | ⟨t, _ | y⟩, st⟩⟩ <;> first | (cases h; done) | exact zml h (fun h => nomatch h) (fun h => nomatch h) (fun h => zel h (fun h => hk _ _ _ _ h ⟨fun _ => Nat.le_refl _, Nat.le_refl _, Nat.le_refl _, rfl, rfl⟩) (fun h => nomatch h)) (fun h => zel h (fun h => hk _ _ _ _ h ⟨fun _ => Nat.le_refl _, Nat.le_refl _, Nat.le_refl _, rfl, rfl⟩) (fun h => nomatch h)) (fun h => nomatch h) (fun h => nomatch h) (fun h => nomatch h)
  case laload => rcases st with _ | ⟨x | x | x, _ | ⟨y | y | ⟨t, _ | y⟩, st⟩⟩ <;> first | (cases h; done) | exact zml h (fun h => nomatch h) (fun h => zel h (fun h => hk _ _ _ _ h ⟨fun _ => Nat.le_refl _, Nat.le_refl _, Nat.le_refl _, rfl, rfl⟩) (fun h => nomatch h)) (fun h => nomatch h) (fun h => nomatch h) (fun h => nomatch h) (fun h => nomatch h) (fun h => nomatch h)
  case aaload => rcases st with _ | ⟨x | x | x, _ | ⟨y | y | ⟨t, _ | y⟩, st⟩⟩ <;> first | (cases h; done) | exact zml h (fun h => nomatch h) (fun h => nomatch h) (fun h => nomatch h) (fun h => nomatch h) (fun h => zel h (fun h => hk _ _ _ _ h ⟨fun _ => Nat.le_refl _, Nat.le_refl _, Nat.le_refl _, rfl, rfl⟩) (fun h => nomatch h)) (fun h => nomatch h) (fun h => zel h (fun h => hk _ _ _ _ h ⟨fun _ => Nat.le_refl _, Nat.le_refl _, Nat.le_refl _, rfl, rfl⟩) (fun h => nomatch h))
  case iastore => rcases st with _ | ⟨v | v | v, _ | ⟨x | x | x, _ | ⟨y | y | ⟨t, _ | y⟩, st⟩⟩⟩ <;> first | (cases h; done) | exact zml h (fun h => zel h (fun h => hk _ _ _ _ h ⟨fun _ => Nat.le_refl _, Nat.le_refl _, Nat.le_refl _, rfl, rfl⟩) (fun h => nomatch h)) (fun h => nomatch h) (fun h => nomatch h) (fun h => nomatch h) (fun h => nomatch h) (fun h => nomatch h) (fun h => nomatch h)
  case bastore => rcases st with _ | ⟨v | v | v, _ | ⟨x | x | x, _ | ⟨y | y | ⟨t, _ | y⟩, st⟩⟩⟩ <;> first | (cases h; done) | exact zml h (fun h => nomatch h) (fun h => nomatch h) (fun h => zel h (fun h => hk _ _ _ _ h ⟨fun _ => Nat.le_refl _, Nat.le_refl _, Nat.le_refl _, rfl, rfl⟩) (fun h => nomatch h)) (fun h => zel h (fun h => hk _ _ _ _ h ⟨fun _ => Nat.le_refl _, Nat.le_refl _, Nat.le_refl _, rfl, rfl⟩) (fun h => nomatch h)) (fun h => nomatch h) (fun h => nomatch h) (fun h => nomatch h)
  case lastore => rcases st with _ | ⟨v | v | v, _ | ⟨x | x | x, _ | ⟨y | y | ⟨t, _ | y⟩, st⟩⟩⟩ <;> first | (cases h; done) | exact zml h (fun h => nomatch h) (fun h => zel h (fun h => hk _ _ _ _ h ⟨fun _ => Nat.le_refl _, Nat.le_refl _, Nat.le_refl _, rfl, rfl⟩) (fun h => nomatch h)) (fun h => nomatch h) (fun h => nomatch h) (fun h => nomatch h) (fun h => nomatch h) (fun h => nomatch h)
  case aastore => rcases st with _ | ⟨v | v | ⟨t2, _ | v⟩, _ | ⟨x | x | x, _ | ⟨y | y | ⟨t, _ | y⟩, st⟩⟩⟩ <;> first | (cases h; done) | exact zbl h (fun h => zml h (fun h => nomatch h) (fun h => nomatch h) (fun h => nomatch h) (fun h => nomatch h) (fun h => zel h (fun h => hk _ _ _ _ h ⟨fun _ => Nat.le_refl _, Nat.le_refl _, Nat.le_refl _, rfl, rfl⟩) (fun h => nomatch h)) (fun h => nomatch h) (fun h => nomatch h))
  case arraylength => rcases st with _ | ⟨x | x | ⟨t, _ | x⟩, st⟩ <;> first | (cases h; done) | exact zml h (fun h => hk _ _ _ _ h ⟨fun _ => Nat.le_refl _, Nat.le_refl _, Nat.le_refl _, rfl, rfl⟩) (fun h => hk _ _ _ _ h ⟨fun _ => Nat.le_refl _, Nat.le_refl _, Nat.le_refl _, rfl, rfl⟩) (fun h => hk _ _ _ _ h ⟨fun _ => Nat.le_refl _, Nat.le_refl _, Nat.le_refl _, rfl, rfl⟩) (fun h => hk _ _ _ _ h ⟨fun _ => Nat.le_refl _, Nat.le_refl _, Nat.le_refl _, rfl, rfl⟩) (fun h => hk _ _ _ _ h ⟨fun _ => Nat.le_refl _, Nat.le_refl _, Nat.le_refl _, rfl, rfl⟩) (fun h => hk _ _ _ _ h ⟨fun _ => Nat.le_refl _, Nat.le_refl _, Nat.le_refl _, rfl, rfl⟩) (fun h => hk _ _ _ _ h ⟨fun _ => Nat.le_refl _, Nat.le_refl _, Nat.le_refl _, rfl, rfl⟩)
  case new => exact zbl h (fun h => hk _ _ _ _ h (zmo_new M _ _))
  case newarray => rcases st with _ | ⟨x | x | x, st⟩ <;> first | (cases h; done) | exact zel h (fun h => hk _ _ _ _ h (zmo_newl M _ _ _ _)) (fun h => nomatch h)
  case anewarray => rcases st with _ | ⟨x | x | x, st⟩ <;> first | (cases h; done) | exact zel h (fun h => hk _ _ _ _ h (zmo_newl M _ _ _ _)) (fun h => nomatch h)
  case invokevirtual => exact ziv_mo (fun v M1 h hm => hk _ _ _ _ h hm) (fun a b c h => hc a b c h) h
  case invokespecial => exact ziv_mo (fun v M1 h hm => hk _ _ _ _ h hm) (fun a b c h => hc a b c h) h
  case invokestatic => exact ziv_mo (fun v M1 h hm => hk _ _ _ _ h hm) (fun a b c h => hc a b c h) h
  case ireturn => rcases st with _ | ⟨x | x | x, _ | ⟨y, st⟩⟩ <;> rcases ax with _ | ⟨a, ax⟩ <;> first | exact hr _ _ h (zmo_rf M) | (cases h; done)
  case lreturn => rcases st with _ | ⟨x | x | x, _ | ⟨y, st⟩⟩ <;> first | exact hr _ _ h (zmo_rf M) | (cases h; done)
  case return_ => rcases st with _ | ⟨x, st⟩ <;> first | exact hr _ _ h (zmo_rf M) | (cases h; done)
  all_goals (first | (cases h; done))
theorem zex_mo : ∀ {n d : Nat} {tab : ZT} {pc : Nat} {ls : ZL} {st : List ZV} {M : ZM} {r : ZR}, zex zG d tab pc ls st M n = some r → zmo M r.2 := by
  intro n
  induction n with
  | zero => intro d tab pc ls st M r h; cases h
  | succ n ih =>
    intro d tab pc ls st M r h
    unfold zex at h
    cases e : zfd tab pc with
    | none => rw [e] at h; cases h
    | some q =>
      rw [e] at h
      refine zst_mo (k := fun pc ls st M => zex zG d tab pc ls st M n) (fun pc ls st M1 h hm => zmo_tr hm (ih h)) (fun v M1 h hm => by cases h; exact hm) ?_ h
      intro mi as rest h
      cases d with
      | zero => cases h
      | succ d =>
        simp only [zcd] at h
        cases e2 : zG mi with
        | none => rw [e2] at h; cases h
        | some q2 =>
          obtain ⟨tab2, nl⟩ := q2
          rw [e2] at h
          simp only [zcg] at h
          refine zbl h ?_
          intro h
          cases e3 : zex zG d tab2 0 (zen nl as) [] M n with
          | none => rw [e3] at h; cases h
          | some q3 =>
            obtain ⟨rv, M2⟩ := q3
            rw [e3] at h
            simp only [zcall] at h
            exact zmo_tr (ih e3) (ih h)
end
section
section ZWF
theorem arrV_cg {c : ClassId} {n : Nat} {f g : Nat → Value} (h : ∀ j, j < n → f j = g j) : arrV c n f = arrV c n g := by
  unfold arrV
  congr 2
  funext j
  exact h j.1 j.2
variable {ρ : Nat → Nat → Nat} {dC : Nat → ClassId} {dI : Nat → Nat → Nat} {aC : Nat → ClassId} {M M1 : ZM} {H H1 : Heap} {t i k B : Nat}
theorem zHp_set (hH : zHp ρ dC dI aC M H) (h4 : zW4 ρ M) (ht : zmt t = true) (hi : i < mC M t) (hc : ∀ t', mC M1 t' = mC M t') (hq : ∀ q, q ≠ ρ t i → H1[q]? = H[q]?) (hnew : zcel ρ dC dI aC M1 H1 t i)
    (hs : ∀ t' i', zmt t' = true → i' < mC M t' → ¬ (t' = t ∧ i' = i) → (∀ k, k < znf t' → zfv ρ M1 t' i' k = zfv ρ M t' i' k) ∧ mN M1 t' i' = mN M t' i' ∧ (∀ j, j < mN M t' i' → zav ρ M1 t' i' j = zav ρ M t' i' j)) : zHp ρ dC dI aC M1 H1 := by
  intro t' i' ht' hi'
  rw [hc] at hi'
  by_cases e : t' = t ∧ i' = i
  · rw [e.1, e.2]; exact hnew
  · have hne : ρ t' i' ≠ ρ t i := fun q => e (h4 t' i' t i ht' ht hi' hi q)
    obtain ⟨a, b⟩ := hH t' i' ht' hi'
    obtain ⟨s1, s2, s3⟩ := hs t' i' ht' hi' e
    refine ⟨fun h => ((a h).kept (hq _ hne)).to (fun k hk => (s1 k hk).symm), fun h => ?_⟩
    rw [hq _ hne, b h, s2]
    exact congrArg some (arrV_cg (fun j hj => (s3 j hj).symm))
theorem mI_pI {t' i' k' : Nat} {x : Int} : mI (pI M t i k x) t' i' k' = if t' = t ∧ i' = i ∧ k' = k then x else mI M t' i' k' := rfl
theorem mL_pL {t' i' k' : Nat} {x : Int} : mL (pL M t i k x) t' i' k' = if t' = t ∧ i' = i ∧ k' = k then x else mL M t' i' k' := rfl
theorem mF_pF {t' i' k' : Nat} {x : Option Nat} : mF (pF M t i k x) t' i' k' = if t' = t ∧ i' = i ∧ k' = k then x else mF M t' i' k' := rfl
theorem zfv_pI {t' i' k' : Nat} {x : Int} (h : ¬ (t' = t ∧ i' = i ∧ k' = k)) : zfv ρ (pI M t i k x) t' i' k' = zfv ρ M t' i' k' := by
  have e : mI (pI M t i k x) t' i' k' = mI M t' i' k' := by rw [mI_pI, if_neg h]
  unfold zfv
  rw [e]
  rfl
theorem zav_pI {t' i' k' : Nat} {x : Int} (h : ¬ (t' = t ∧ i' = i ∧ k' = k)) : zav ρ (pI M t i k x) t' i' k' = zav ρ M t' i' k' := by
  have e : mI (pI M t i k x) t' i' k' = mI M t' i' k' := by rw [mI_pI, if_neg h]
  unfold zav
  rw [e]
  rfl
theorem zfv_pL {t' i' k' : Nat} {x : Int} (h : ¬ (t' = t ∧ i' = i ∧ k' = k)) : zfv ρ (pL M t i k x) t' i' k' = zfv ρ M t' i' k' := by
  have e : mL (pL M t i k x) t' i' k' = mL M t' i' k' := by rw [mL_pL, if_neg h]
  unfold zfv
  rw [e]
  rfl
theorem zav_pL {t' i' k' : Nat} {x : Int} (h : ¬ (t' = t ∧ i' = i ∧ k' = k)) : zav ρ (pL M t i k x) t' i' k' = zav ρ M t' i' k' := by
  have e : mL (pL M t i k x) t' i' k' = mL M t' i' k' := by rw [mL_pL, if_neg h]
  unfold zav
  rw [e]
  rfl
theorem zfv_pF {t' i' k' : Nat} {x : Option Nat} (h : ¬ (t' = t ∧ i' = i ∧ k' = k)) : zfv ρ (pF M t i k x) t' i' k' = zfv ρ M t' i' k' := by
  have e : mF (pF M t i k x) t' i' k' = mF M t' i' k' := by rw [mF_pF, if_neg h]
  unfold zfv
  rw [e]
  rfl
theorem zav_pF {t' i' k' : Nat} {x : Option Nat} (h : ¬ (t' = t ∧ i' = i ∧ k' = k)) : zav ρ (pF M t i k x) t' i' k' = zav ρ M t' i' k' := by
  have e : mF (pF M t i k x) t' i' k' = mF M t' i' k' := by rw [mF_pF, if_neg h]
  unfold zav
  rw [e]
  rfl
/-- a field that changes -/
theorem zHp_obj {v : Value} (hH : zHp ρ dC dI aC M H) (h4 : zW4 ρ M) (ht : t < 12) (hi : i < mC M t) (hc : ∀ t', mC M1 t' = mC M t') (hq : ∀ q, q ≠ ρ t i → H1[q]? = H[q]?) (hO : t_OB (ρ t i) (dC t) (znf t) (dI t) H1 (updV (zfv ρ M t i) k v)) (hv : zfv ρ M1 t i k = v)
    (hs : ∀ t' i' k', zmt t' = true → i' < mC M t' → ¬ (t' = t ∧ i' = i ∧ k' = k) → k' < znf t' → zfv ρ M1 t' i' k' = zfv ρ M t' i' k') (hn : ∀ t' i', mN M1 t' i' = mN M t' i') (ha : ∀ t' i' j, ¬ (t' = t ∧ i' = i) → zav ρ M1 t' i' j = zav ρ M t' i' j) : zHp ρ dC dI aC M1 H1 := by
  have hm : zmt t = true := by simp [zmt, ht]
  refine zHp_set hH h4 hm hi hc hq ⟨fun _ => hO.to (fun k' hk' => ?_), fun h => absurd ht h⟩ (fun t' i' ht' hi' e => ⟨fun k' hk' => hs t' i' k' ht' hi' (fun z => e ⟨z.1, z.2.1⟩) hk', hn t' i', fun j _ => ha t' i' j e⟩)
  unfold updV
  split
  · next e => rw [e]; exact hv.symm
  · next e => exact (hs t i k' hm hi (fun z => e z.2.2) hk').symm
/-- an array's place that changes -/
theorem zHp_arr {v : Value} (hH : zHp ρ dC dI aC M H) (h4 : zW4 ρ M) (hm : zmt t = true) (ht : ¬ t < 12) (hi : i < mC M t) (hc : ∀ t', mC M1 t' = mC M t') (hq : ∀ q, q ≠ ρ t i → H1[q]? = H[q]?) (hO : H1[ρ t i]? = some (arrV (aC t) (mN M t i) (updV (zav ρ M t i) k v))) (hv : zav ρ M1 t i k = v)
    (hs : ∀ t' i' k', ¬ (t' = t ∧ i' = i) → zfv ρ M1 t' i' k' = zfv ρ M t' i' k') (hn : ∀ t' i', mN M1 t' i' = mN M t' i') (ha : ∀ t' i' j, ¬ (t' = t ∧ i' = i ∧ j = k) → zav ρ M1 t' i' j = zav ρ M t' i' j) : zHp ρ dC dI aC M1 H1 := by
  refine zHp_set hH h4 hm hi hc hq ⟨fun h => absurd h ht, fun _ => ?_⟩ (fun t' i' ht' hi' e => ⟨fun k' hk' => hs t' i' k' e, hn t' i', fun j _ => ha t' i' j (fun z => e ⟨z.1, z.2.1⟩)⟩)
  rw [hO, hn]
  refine congrArg some (arrV_cg fun j _ => ?_)
  unfold updV
  split
  · next e => rw [e]; exact hv.symm
  · next e => exact (ha t i j (fun z => e z.2.2)).symm
theorem zHp_pIo {x : Int} (hH : zHp ρ dC dI aC M H) (h4 : zW4 ρ M) (ht : t < 12) (hi : i < mC M t) (hp : (zfp t k).1 = 0 ∨ (zfp t k).1 = 1) (hq : ∀ q, q ≠ ρ t i → H1[q]? = H[q]?) (hO : t_OB (ρ t i) (dC t) (znf t) (dI t) H1 (updV (zfv ρ M t i) k (.int (Int32.ofInt x)))) : zHp ρ dC dI aC (pI M t i k x) H1 := by
  refine zHp_obj (k := k) hH h4 ht hi (fun _ => rfl) hq hO ?_ (fun t' i' k' _ _ e _ => zfv_pI e) (fun _ _ => rfl) (fun t' i' j e => zav_pI (fun z => e ⟨z.1, z.2.1⟩))
  unfold zfv
  rcases hp with hp | hp <;> simp [hp, mI_pI]
theorem zHp_pLo {x : Int} (hH : zHp ρ dC dI aC M H) (h4 : zW4 ρ M) (ht : t < 12) (hi : i < mC M t) (hp : (zfp t k).1 = 2) (hq : ∀ q, q ≠ ρ t i → H1[q]? = H[q]?) (hO : t_OB (ρ t i) (dC t) (znf t) (dI t) H1 (updV (zfv ρ M t i) k (.long (Int64.ofInt x)))) : zHp ρ dC dI aC (pL M t i k x) H1 := by
  refine zHp_obj (k := k) hH h4 ht hi (fun _ => rfl) hq hO ?_ (fun t' i' k' _ _ e _ => zfv_pL e) (fun _ _ => rfl) (fun t' i' j e => zav_pL (fun z => e ⟨z.1, z.2.1⟩))
  unfold zfv
  simp [hp, mL_pL]
theorem zHp_pFo {x : Option Nat} (hH : zHp ρ dC dI aC M H) (h4 : zW4 ρ M) (ht : t < 12) (hi : i < mC M t) (hp : (zfp t k).1 = 3) (hq : ∀ q, q ≠ ρ t i → H1[q]? = H[q]?) (hO : t_OB (ρ t i) (dC t) (znf t) (dI t) H1 (updV (zfv ρ M t i) k (va_rf (x.map (ρ (zfp t k).2.1))))) : zHp ρ dC dI aC (pF M t i k x) H1 := by
  refine zHp_obj (k := k) hH h4 ht hi (fun _ => rfl) hq hO ?_ (fun t' i' k' _ _ e _ => zfv_pF e) (fun _ _ => rfl) (fun t' i' j e => zav_pF (fun z => e ⟨z.1, z.2.1⟩))
  unfold zfv
  simp [hp, mF_pF]
theorem zrg_sr (r : ZRg) (a b : Nat) (ha : a < 4) (hb : b < 4) (x : Option Nat) : zrg (zsr r a x) b = if b = a then x else zrg r b := by
  rcases r with ⟨r1, r2, r3, r4⟩
  have e1 : a = 0 ∨ a = 1 ∨ a = 2 ∨ a = 3 := by omega
  have e2 : b = 0 ∨ b = 1 ∨ b = 2 ∨ b = 3 := by omega
  rcases e1 with rfl | rfl | rfl | rfl <;> rcases e2 with rfl | rfl | rfl | rfl <;> rfl
/-- the four references that change, and where they lie -/
theorem zfp_4c : (List.range 12).all (fun t => (List.range (znf t)).all (fun k => !(Nat.beq (zfp t k).1 4) || (decide (t = 10 ∧ k = 1 ∧ (zfp t k).2 = (4, 0)) || decide (t = 10 ∧ k = 3 ∧ (zfp t k).2 = (4, 1)) || decide (t = 5 ∧ k = 2 ∧ (zfp t k).2 = (4, 2)) || decide (t = 8 ∧ k = 6 ∧ (zfp t k).2 = (12, 3))))) = true := by decide +kernel
theorem zfp_4 (t : Nat) (ht : t < 12) (k : Nat) (hk : k < znf t) (hp : (zfp t k).1 = 4) : (t = 10 ∧ k = 1 ∧ (zfp t k).2 = (4, 0)) ∨ (t = 10 ∧ k = 3 ∧ (zfp t k).2 = (4, 1)) ∨ (t = 5 ∧ k = 2 ∧ (zfp t k).2 = (4, 2)) ∨ (t = 8 ∧ k = 6 ∧ (zfp t k).2 = (12, 3)) := by
  have h := List.all_eq_true.mp (List.all_eq_true.mp zfp_4c t (List.mem_range.mpr ht)) k (List.mem_range.mpr hk)
  rw [hp] at h
  simp only [Bool.or_eq_true, decide_eq_true_eq] at h
  rcases h with h | ((h | h) | h) | h
  · cases h
  · exact .inl h
  · exact .inr (.inl h)
  · exact .inr (.inr (.inl h))
  · exact .inr (.inr (.inr h))
theorem zHp_pRo {x : Option Nat} (hH : zHp ρ dC dI aC M H) (h4 : zW4 ρ M) (h6 : zW6 M) (ht : t < 12) (hi : i < mC M t) (hk : k < znf t) (hp : (zfp t k).1 = 4) (hq : ∀ q, q ≠ ρ t i → H1[q]? = H[q]?) (hO : t_OB (ρ t i) (dC t) (znf t) (dI t) H1 (updV (zfv ρ M t i) k (va_rf (x.map (ρ (zfp t k).2.1))))) : zHp ρ dC dI aC (pR M (zsr (mR M) (zfp t k).2.2 x)) H1 := by
  have hr : ∀ t' k', t' < 12 → k' < znf t' → (zfp t' k').1 = 4 → (zfp t' k').2.2 < 4 := by
    intro t' k' h1 h2 h3
    rcases zfp_4 t' h1 k' h2 h3 with ⟨-, -, e⟩ | ⟨-, -, e⟩ | ⟨-, -, e⟩ | ⟨-, -, e⟩ <;> rw [e] <;> decide
  have hu : ∀ t' k', t' < 12 → k' < znf t' → (zfp t' k').1 = 4 → (zfp t' k').2.2 = (zfp t k).2.2 → t' = t ∧ k' = k := by
    intro t' k' h1 h2 h3 h5
    rcases zfp_4 t' h1 k' h2 h3 with ⟨a1, a2, e⟩ | ⟨a1, a2, e⟩ | ⟨a1, a2, e⟩ | ⟨a1, a2, e⟩ <;> rcases zfp_4 t ht k hk hp with ⟨b1, b2, e'⟩ | ⟨b1, b2, e'⟩ | ⟨b1, b2, e'⟩ | ⟨b1, b2, e'⟩ <;> rw [e, e'] at h5 <;> first | (exact ⟨a1.trans b1.symm, a2.trans b2.symm⟩) | (simp at h5)
  have h1 : mC M t ≤ 1 := by
    rcases zfp_4 t ht k hk hp with ⟨a1, -, -⟩ | ⟨a1, -, -⟩ | ⟨a1, -, -⟩ | ⟨a1, -, -⟩ <;> rw [a1]
    · exact h6.2.2.2.2.2
    · exact h6.2.2.2.2.2
    · exact h6.2.2.2.1
    · exact h6.2.2.2.2.1
  refine zHp_obj (k := k) hH h4 ht hi (fun _ => rfl) hq hO ?_ (fun t' i' k' hm hi' e hk' => ?_) (fun _ _ => rfl) (fun t' i' j e => rfl)
  · unfold zfv
    simp only [hp]
    show va_rf ((zrg (zsr (mR M) (zfp t k).2.2 x) (zfp t k).2.2).map _) = _
    rw [zrg_sr _ _ _ (hr t k ht hk hp) (hr t k ht hk hp), if_pos rfl]
  · by_cases h12 : t' < 12
    · by_cases h44 : (zfp t' k').1 = 4
      · have hne : (zfp t' k').2.2 ≠ (zfp t k).2.2 := by
          intro z
          obtain ⟨z1, z2⟩ := hu t' k' h12 hk' h44 z
          subst z1
          exact e ⟨rfl, by omega, z2⟩
        unfold zfv
        simp only [h44]
        show va_rf ((zrg (zsr (mR M) (zfp t k).2.2 x) (zfp t' k').2.2).map _) = _
        rw [zrg_sr _ _ _ (hr t k ht hk hp) (hr t' k' h12 hk' h44), if_neg hne]
      · unfold zfv
        split
        · rfl
        · rfl
        · rfl
        · rfl
        · next z => exact absurd z h44
        · rfl
    · have : znf t' = 0 := by
        unfold znf
        split <;> first | (exfalso; omega) | rfl
      omega
theorem zek_12 (h : t < 12) : zek t = 9 := by
  have e : t = 0 ∨ t = 1 ∨ t = 2 ∨ t = 3 ∨ t = 4 ∨ t = 5 ∨ t = 6 ∨ t = 7 ∨ t = 8 ∨ t = 9 ∨ t = 10 ∨ t = 11 := by omega
  rcases e with rfl | rfl | rfl | rfl | rfl | rfl | rfl | rfl | rfl | rfl | rfl | rfl <;> rfl
theorem zmt_a (h : zek t ≤ 4) : zmt t = true ∧ ¬ t < 12 := by
  refine ⟨by simp [zmt, h], fun z => ?_⟩
  rw [zek_12 z] at h
  omega
theorem zHp_pIa {x : Int} (hH : zHp ρ dC dI aC M H) (h4 : zW4 ρ M) (hi : i < mC M t) (hp : zek t = 0 ∨ zek t = 2 ∨ zek t = 3) (hq : ∀ q, q ≠ ρ t i → H1[q]? = H[q]?) (hO : H1[ρ t i]? = some (arrV (aC t) (mN M t i) (updV (zav ρ M t i) k (.int (Int32.ofInt x))))) : zHp ρ dC dI aC (pI M t i k x) H1 := by
  obtain ⟨hm, ht⟩ := zmt_a (t := t) (by omega)
  refine zHp_arr (k := k) hH h4 hm ht hi (fun _ => rfl) hq hO ?_ (fun t' i' k' e => zfv_pI (fun z => e ⟨z.1, z.2.1⟩)) (fun _ _ => rfl) (fun t' i' j e => zav_pI e)
  unfold zav
  rcases hp with hp | hp | hp <;> simp [hp, mI_pI]
theorem zHp_pLa {x : Int} (hH : zHp ρ dC dI aC M H) (h4 : zW4 ρ M) (hi : i < mC M t) (hp : zek t = 1) (hq : ∀ q, q ≠ ρ t i → H1[q]? = H[q]?) (hO : H1[ρ t i]? = some (arrV (aC t) (mN M t i) (updV (zav ρ M t i) k (.long (Int64.ofInt x))))) : zHp ρ dC dI aC (pL M t i k x) H1 := by
  obtain ⟨hm, ht⟩ := zmt_a (t := t) (by omega)
  refine zHp_arr (k := k) hH h4 hm ht hi (fun _ => rfl) hq hO ?_ (fun t' i' k' e => zfv_pL (fun z => e ⟨z.1, z.2.1⟩)) (fun _ _ => rfl) (fun t' i' j e => zav_pL e)
  unfold zav
  simp [hp, mL_pL]
theorem zHp_pFa {x : Option Nat} (hH : zHp ρ dC dI aC M H) (h4 : zW4 ρ M) (hi : i < mC M t) (hp : zek t = 4) (hq : ∀ q, q ≠ ρ t i → H1[q]? = H[q]?) (hO : H1[ρ t i]? = some (arrV (aC t) (mN M t i) (updV (zav ρ M t i) k (va_rf (x.map (ρ (ztg t))))))) : zHp ρ dC dI aC (pF M t i k x) H1 := by
  obtain ⟨hm, ht⟩ := zmt_a (t := t) (by omega)
  refine zHp_arr (k := k) hH h4 hm ht hi (fun _ => rfl) hq hO ?_ (fun t' i' k' e => zfv_pF (fun z => e ⟨z.1, z.2.1⟩)) (fun _ _ => rfl) (fun t' i' j e => zav_pF e)
  unfold zav
  simp [hp, mF_pF]
theorem zHp_cp {t1 i1 sp dp n : Nat} (hH : zHp ρ dC dI aC M H) (h4 : zW4 ρ M) (hi : i < mC M t) (hp1 : zek t1 = 0) (hp : zek t = 0) (hq : ∀ q, q ≠ ρ t i → H1[q]? = H[q]?) (hO : H1[ρ t i]? = some (arrV (aC t) (mN M t i) (fun j => .int (va_cpy (fun j => Int32.ofInt (mI M t1 i1 j)) (fun j => Int32.ofInt (mI M t i j)) sp dp n j)))) : zHp ρ dC dI aC (pCp M t1 i1 sp t i dp n) H1 := by
  obtain ⟨hm, ht⟩ := zmt_a (t := t) (by omega)
  have hI : ∀ t' i' k', mI (pCp M t1 i1 sp t i dp n) t' i' k' = if t' = t ∧ i' = i ∧ dp ≤ k' ∧ k' < dp + n then mI M t1 i1 (sp + (k' - dp)) else mI M t' i' k' := fun _ _ _ => rfl
  refine zHp_set hH h4 hm hi (fun _ => rfl) hq ⟨fun h => absurd h ht, fun _ => ?_⟩ (fun t' i' ht' hi' e => ⟨fun k' hk' => ?_, rfl, fun j _ => ?_⟩)
  · rw [hO]
    show some (arrV _ (mN M t i) _) = some (arrV _ (mN M t i) _)
    refine congrArg some (arrV_cg fun j _ => ?_)
    unfold zav va_cpy
    rw [hI]
    simp only [hp]
    by_cases h : dp ≤ j ∧ j < dp + n
    · simp [h]
    · simp [h]
  · have e2 : mI (pCp M t1 i1 sp t i dp n) t' i' k' = mI M t' i' k' := by rw [hI, if_neg (fun z => e ⟨z.1, z.2.1⟩)]
    unfold zfv
    rw [e2]
    rfl
  · have e2 : mI (pCp M t1 i1 sp t i dp n) t' i' j = mI M t' i' j := by rw [hI, if_neg (fun z => e ⟨z.1, z.2.1⟩)]
    unfold zav
    rw [e2]
    rfl
theorem zWf_pI {x : Int} (h : zWf ρ B M) (hx : zr32 x) : zWf ρ B (pI M t i k x) := by
  refine ⟨fun t' i' k' => ⟨?_, (h.1 t' i' k').2⟩, h.2⟩
  rw [mI_pI]
  split
  · exact hx
  · exact (h.1 t' i' k').1
theorem zWf_pL {x : Int} (h : zWf ρ B M) (hx : zr64 x) : zWf ρ B (pL M t i k x) := by
  refine ⟨fun t' i' k' => ⟨(h.1 t' i' k').1, ?_, (h.1 t' i' k').2.2⟩, h.2⟩
  rw [mL_pL]
  split
  · exact hx
  · exact (h.1 t' i' k').2.1
theorem zWf_cp {t1 i1 sp dp n : Nat} (h : zWf ρ B M) : zWf ρ B (pCp M t1 i1 sp t i dp n) := by
  refine ⟨fun t' i' k' => ⟨?_, (h.1 t' i' k').2⟩, h.2⟩
  show zr32 (if t' = t ∧ i' = i ∧ dp ≤ k' ∧ k' < dp + n then mI M t1 i1 (sp + (k' - dp)) else mI M t' i' k')
  split
  · exact (h.1 _ _ _).1
  · exact (h.1 t' i' k').1
theorem zWf_pF {j : Nat} (h : zWf ρ B M) (hj : j < mC M (ztf t k)) (ht : t ≠ 100) : zWf ρ B (pF M t i k (some j)) := by
  obtain ⟨h1, h2, h3, h4, h5, h6, h7, h8⟩ := h
  refine ⟨h1, fun t' i' k' j' hi' hp e => ?_, h3, h4, h5, h6, h7, ⟨h8.1, h8.2.1, h8.2.2.1, h8.2.2.2.1, h8.2.2.2.2.1, h8.2.2.2.2.2.1, fun k' hk' => ?_, h8.2.2.2.2.2.2.2⟩⟩
  · rw [mF_pF] at e
    split at e
    · next z =>
      obtain ⟨rfl, rfl, rfl⟩ := z
      cases e
      exact hj
    · exact h2 t' i' k' j' hi' hp e
  · rw [mF_pF, if_neg (fun z => ht z.1.symm)]
    exact h8.2.2.2.2.2.2.1 k' hk'
theorem zWf_pR {rg : Nat} {o : Option Nat} (h : zWf ρ B M) (hr : rg < 4) (ho : ∀ j, o = some j → j < mC M (if rg < 3 then 4 else 12)) (h5 : rg = 2 → 0 < mC M 5) (h8 : rg = 3 → 0 < mC M 8) (h10 : rg < 2 → 0 < mC M 10) : zWf ρ B (pR M (zsr (mR M) rg o)) := by
  obtain ⟨a1, a2, a3, a4, a5, a6, a7, a8⟩ := h
  have key : ∀ q, q < 4 → zrg (zsr (mR M) rg o) q = if q = rg then o else zrg (mR M) q := fun q hq => zrg_sr _ _ _ hr hq o
  have big : ∀ (r : ZRg) (q : Nat), ¬ q < 4 → zrg r q = zrg r 3 := by
    intro r q hq
    match q, hq with
    | 0, hq => omega
    | 1, hq => omega
    | 2, hq => omega
    | 3, hq => omega
    | q + 4, _ => rfl
  refine ⟨a1, a2, fun q j e => ?_, a4, a5, ⟨fun z => ?_, fun z => ?_, fun z => ⟨?_, ?_⟩, a6.2.2.2⟩, a7, a8⟩
  · change zrg (zsr (mR M) rg o) q = some j at e
    show j < mC M _
    by_cases hq : q < 4
    · rw [key q hq] at e
      split at e
      · next z => rw [z]; exact ho j e
      · exact a3 q j e
    · rw [big _ q hq, key 3 (by omega)] at e
      have hz : (if q < 3 then 4 else 12) = 12 := if_neg (by omega)
      rw [hz]
      split at e
      · next z => have := ho j e; rw [← z] at this; exact this
      · exact a3 3 j e
  · show zrg (zsr (mR M) rg o) 2 = none
    rw [key 2 (by omega)]
    split
    · next w => have := h5 w.symm; have : mC M 5 = 0 := z; omega
    · exact a6.1 z
  · show zrg (zsr (mR M) rg o) 3 = none
    rw [key 3 (by omega)]
    split
    · next w => have := h8 w.symm; have : mC M 8 = 0 := z; omega
    · exact a6.2.1 z
  · show zrg (zsr (mR M) rg o) 0 = none
    rw [key 0 (by omega)]
    split
    · next w => have := h10 (by omega); have : mC M 10 = 0 := z; omega
    · exact (a6.2.2.1 z).1
  · show zrg (zsr (mR M) rg o) 1 = none
    rw [key 1 (by omega)]
    split
    · next w => have := h10 (by omega); have : mC M 10 = 0 := z; omega
    · exact (a6.2.2.1 z).2
end ZWF
end
section
section ZNEW
/-- the new cell's address beside the others' -/
def zrn (ρ : Nat → Nat → Nat) (t c h : Nat) : Nat → Nat → Nat := fun t' i' => if t' = t ∧ i' = c then h else ρ t' i'
/-- a memory with one more of kind t -/
def znx (M M1 : ZM) (t : Nat) : Prop :=
  (∀ t' i' k, ¬ (t' = t ∧ i' = mC M t) → mI M1 t' i' k = mI M t' i' k ∧ mL M1 t' i' k = mL M t' i' k ∧ mF M1 t' i' k = mF M t' i' k) ∧
  (∀ k, mI M1 t (mC M t) k = 0 ∧ mL M1 t (mC M t) k = 0 ∧ mF M1 t (mC M t) k = none) ∧
  (∀ t', mC M1 t' = if t' = t then mC M t + 1 else mC M t') ∧ mR M1 = mR M ∧ (∀ t' i', ¬ (t' = t ∧ i' = mC M t) → mN M1 t' i' = mN M t' i') ∧
  (∀ t' i' k, mKI M1 t' i' k = mKI M t' i' k ∧ mKL M1 t' i' k = mKL M t' i' k)
theorem znx_o (M : ZM) (t n : Nat) : znx M (pNew M t n) t := by
  refine ⟨fun t' i' k h => ⟨?_, ?_, ?_⟩, fun k => ⟨?_, ?_, ?_⟩, fun t' => rfl, rfl, fun t' i' _ => rfl, fun _ _ _ => ⟨rfl, rfl⟩⟩
  · show (if t' = t ∧ i' = mC M t then (0 : Int) else mI M t' i' k) = _
    rw [if_neg h]
  · show (if t' = t ∧ i' = mC M t then (0 : Int) else mL M t' i' k) = _
    rw [if_neg h]
  · show (if t' = t ∧ i' = mC M t then none else mF M t' i' k) = _
    rw [if_neg h]
  · show (if t = t ∧ mC M t = mC M t then (0 : Int) else mI M t _ k) = _
    rw [if_pos ⟨rfl, rfl⟩]
  · show (if t = t ∧ mC M t = mC M t then (0 : Int) else mL M t _ k) = _
    rw [if_pos ⟨rfl, rfl⟩]
  · show (if t = t ∧ mC M t = mC M t then none else mF M t _ k) = _
    rw [if_pos ⟨rfl, rfl⟩]
theorem znx_a (M : ZM) (t l n : Nat) : znx M (pNew (pLen M t (mC M t) l) t n) t := by
  obtain ⟨h1, h2, h3, h4, h5, h6⟩ := znx_o (pLen M t (mC M t) l) t n
  refine ⟨h1, h2, h3, h4, fun t' i' h => ?_, h6⟩
  show (if t' = t ∧ i' = mC M t then l else mN M t' i') = _
  rw [if_neg h]
theorem znx_len (M : ZM) (t l n : Nat) : mN (pNew (pLen M t (mC M t) l) t n) t (mC M t) = l := by
  show (if t = t ∧ mC M t = mC M t then l else mN M t _) = _
  rw [if_pos ⟨rfl, rfl⟩]
variable {ρ : Nat → Nat → Nat} {dC : Nat → ClassId} {dI : Nat → Nat → Nat} {aC : Nat → ClassId} {M M1 : ZM} {H H1 : Heap} {t B : Nat}
theorem zHp_lt (hH : zHp ρ dC dI aC M H) {t i : Nat} (ht : zmt t = true) (hi : i < mC M t) : ρ t i < H.size := by
  obtain ⟨a, b⟩ := hH t i ht hi
  by_cases h : t < 12
  · obtain ⟨cell, h1, -⟩ := a h
    exact (Array.getElem?_eq_some_iff.mp h1).1
  · exact (Array.getElem?_eq_some_iff.mp (b h)).1
theorem zHp_new (hH : zHp ρ dC dI aC M H) (hW : zWf ρ B M) (hx : znx M M1 t) (hm : zmt t = true) (hq : ∀ q, q < H.size → H1[q]? = H[q]?) (hnew : zcel (zrn ρ t (mC M t) H.size) dC dI aC M1 H1 t (mC M t)) : zHp (zrn ρ t (mC M t) H.size) dC dI aC M1 H1 := by
  obtain ⟨x1, x2, x3, x4, x5, x6⟩ := hx
  obtain ⟨w1, w2, w3, -⟩ := hW
  have old : ∀ {tg j : Nat}, j < mC M tg → zrn ρ t (mC M t) H.size tg j = ρ tg j := by
    intro tg j hj
    unfold zrn
    rw [if_neg (fun z => by rw [z.1, z.2] at hj; exact absurd hj (Nat.lt_irrefl _))]
  intro t' i' ht' hi'
  by_cases e : t' = t ∧ i' = mC M t
  · rw [e.1, e.2]; exact hnew
  · have hi : i' < mC M t' := by
      rw [x3] at hi'
      split at hi'
      · next z => rw [z]; have : i' ≠ mC M t := fun w => e ⟨z, w⟩; omega
      · exact hi'
    obtain ⟨a, b⟩ := hH t' i' ht' hi
    have hlt := zHp_lt hH ht' hi
    refine ⟨fun h => ?_, fun h => ?_⟩
    · rw [old hi]
      refine ((a h).kept (hq _ hlt)).to (fun k hk => ?_)
      unfold zfv
      rw [(x1 t' i' k e).1, (x1 t' i' k e).2.1, (x1 t' i' k e).2.2, x4]
      split
      · rfl
      · rfl
      · rfl
      · next hp =>
        cases hf : mF M t' i' k with
        | none => rfl
        | some j =>
          have hj : j < mC M (zfp t' k).2.1 := by
            have := w2 t' i' k j hi (.inl ⟨h, hk, hp⟩) hf
            unfold ztf at this
            rw [if_pos h] at this
            exact this
          show va_rf (some _) = va_rf (some _)
          rw [old hj]
      · next hp =>
        cases hf : zrg (mR M) (zfp t' k).2.2 with
        | none => rfl
        | some j =>
          have hj : j < mC M (zfp t' k).2.1 := by
            have := w3 _ j hf
            rcases zfp_4 t' h k hk hp with ⟨-, -, z⟩ | ⟨-, -, z⟩ | ⟨-, -, z⟩ | ⟨-, -, z⟩ <;> rw [z] at this ⊢ <;> exact this
          show va_rf (some _) = va_rf (some _)
          rw [old hj]
      · rfl
    · rw [old hi, hq _ hlt, b h, x5 t' i' e]
      refine congrArg some (arrV_cg fun j hj => ?_)
      unfold zav
      rw [(x1 t' i' j e).1, (x1 t' i' j e).2.1, (x1 t' i' j e).2.2]
      split
      · rfl
      · rfl
      · rfl
      · rfl
      · next hp =>
        cases hf : mF M t' i' j with
        | none => rfl
        | some q =>
          have hj2 : q < mC M (ztg t') := by
            have := w2 t' i' j q hi (.inr ⟨h, hj⟩) hf
            unfold ztf at this
            rw [if_neg h] at this
            exact this
          show va_rf (some _) = va_rf (some _)
          rw [old hj2]
      · rfl
theorem zWf_new (hH : zHp ρ dC dI aC M H) (hW : zWf ρ B M) (hx : znx M M1 t) (hm : zmt t = true) (hB : B ≤ H.size) (hw : znw M t = true) (h104 : t < 104) (hl : ¬ t < 12 → mN M1 t (mC M t) < 2147483648) : zWf (zrn ρ t (mC M t) H.size) B M1 := by
  obtain ⟨x1, x2, x3, x4, x5, x6⟩ := hx
  obtain ⟨w1, w2, w3, w4, w5, w6, w7, w8⟩ := hW
  have hne : t ≠ 12 ∧ t ≠ 100 ∧ t ≠ 101 ∧ t ≠ 102 := by
    refine ⟨?_, ?_, ?_, ?_⟩ <;> (intro z; rw [z] at hm; revert hm; decide)
  have le : ∀ t', mC M t' ≤ mC M1 t' := by
    intro t'
    rw [x3]
    split
    · next z => rw [z]; exact Nat.le_succ _
    · exact Nat.le_refl _
  have inv : ∀ {t' i' : Nat}, i' < mC M1 t' → (t' = t ∧ i' = mC M t) ∨ (¬ (t' = t ∧ i' = mC M t) ∧ i' < mC M t') := by
    intro t' i' hi'
    by_cases e : t' = t ∧ i' = mC M t
    · exact .inl e
    · refine .inr ⟨e, ?_⟩
      rw [x3] at hi'
      split at hi'
      · next z => rw [z]; have : i' ≠ mC M t := fun w => e ⟨z, w⟩; omega
      · exact hi'
  have old : ∀ {tg j : Nat}, ¬ (tg = t ∧ j = mC M t) → zrn ρ t (mC M t) H.size tg j = ρ tg j := by
    intro tg j hj
    unfold zrn
    rw [if_neg hj]
  have cn : ∀ t', t' ≠ t → mC M1 t' = mC M t' := fun t' z => by rw [x3, if_neg z]
  refine ⟨fun t' i' k => ?_, fun t' i' k j hi' hp e => ?_, fun r j e => ?_, fun t1 i1 t2 i2 h1 h2 g1 g2 e => ?_, fun t' i' h1 g1 => ?_, ?_, fun t' i' h12 g1 => ?_, ?_⟩
  · by_cases e : t' = t ∧ i' = mC M t
    · rw [e.1, e.2, (x2 k).1, (x2 k).2.1, (x6 _ _ _).1, (x6 _ _ _).2]
      exact ⟨⟨by decide, by decide⟩, ⟨by decide, by decide⟩, (w1 _ _ _).2.2⟩
    · rw [(x1 t' i' k e).1, (x1 t' i' k e).2.1, (x6 _ _ _).1, (x6 _ _ _).2]
      exact w1 t' i' k
  · rcases inv hi' with z | ⟨z, hi⟩
    · rw [z.1, z.2, (x2 k).2.2] at e; cases e
    · rw [(x1 t' i' k z).2.2] at e
      refine Nat.lt_of_lt_of_le (w2 t' i' k j hi ?_ e) (le _)
      rcases hp with hp | hp
      · exact .inl hp
      · rw [x5 t' i' z] at hp; exact .inr hp
  · rw [x4] at e
    exact Nat.lt_of_lt_of_le (w3 r j e) (le _)
  · rcases inv g1 with z1 | ⟨z1, i1'⟩ <;> rcases inv g2 with z2 | ⟨z2, i2'⟩
    · exact ⟨z1.1.trans z2.1.symm, z1.2.trans z2.2.symm⟩
    · rw [old z2] at e
      unfold zrn at e
      rw [if_pos z1] at e
      have := zHp_lt hH h2 i2'
      omega
    · rw [old z1] at e
      unfold zrn at e
      rw [if_pos z2] at e
      have := zHp_lt hH h1 i1'
      omega
    · rw [old z1, old z2] at e
      exact w4 t1 i1 t2 i2 h1 h2 i1' i2' e
  · rcases inv g1 with z1 | ⟨z1, i1'⟩
    · unfold zrn
      rw [if_pos z1]
      exact hB
    · rw [old z1]
      exact w5 t' i' h1 i1'
  · have one : ∀ q, (q = 5 ∨ q = 8 ∨ q = 10) → mC M q ≤ 1 → mC M1 q ≤ 1 := by
      intro q hq hle
      rw [x3]
      split
      · next z =>
        subst z
        rcases hq with rfl | rfl | rfl <;> (have := Nat.eq_of_beq_eq_true hw; omega)
      · exact hle
    unfold zW6; rw [x4]
    exact ⟨fun z => w6.1 (by have := le 5; omega), fun z => w6.2.1 (by have := le 8; omega), fun z => w6.2.2.1 (by have := le 10; omega), one 5 (.inl rfl) w6.2.2.2.1, one 8 (.inr (.inl rfl)) w6.2.2.2.2.1, one 10 (.inr (.inr rfl)) w6.2.2.2.2.2⟩
  · rcases inv g1 with z1 | ⟨z1, i1'⟩
    · rw [z1.1, z1.2]; exact hl (by rw [← z1.1]; exact h12)
    · rw [x5 t' i' z1]; exact w7 t' i' h12 i1'
  · obtain ⟨v1, v2, v3, v4, v5, v6, v7, v8⟩ := w8
    refine ⟨by rw [cn 12 (Ne.symm hne.1)]; exact v1, by rw [cn 100 (Ne.symm hne.2.1)]; exact v2, by rw [cn 101 (Ne.symm hne.2.2.1)]; exact v3, by rw [cn 102 (Ne.symm hne.2.2.2)]; exact v4, by rw [x5 100 0 (fun z => hne.2.1 z.1.symm)]; exact v5, by rw [x5 101 0 (fun z => hne.2.2.1 z.1.symm)]; exact v6, fun k hk => by rw [(x1 100 0 k (fun z => hne.2.1 z.1.symm)).2.2]; exact v7 k hk, fun q hq => by rw [cn q (by omega)]; exact v8 q hq⟩
end ZNEW
end
section
section ZSD
def zLR (ρ : Nat → Nat → Nat) (ls : ZL) (lsC : Array Slot) (nl : Nat) : Prop := lsC.size = nl ∧ lv_wf lsC ∧ ∀ i v, znt ls i = some v → lsC[i]? = some (.val (zcv ρ v))
def zal (ρ : Nat → Nat → Nat) : Nat → ZL → List (Nat × Value)
  | _, [] => []
  | i, none :: l => zal ρ (i + 1) l
  | i, some v :: l => (i, zcv ρ v) :: zal ρ (i + 1) l
theorem zal_mem {ρ : Nat → Nat → Nat} : ∀ {l : ZL} {i j : Nat} {v : ZV}, znt l j = some v → (i + j, zcv ρ v) ∈ zal ρ i l
  | [], _, _, _, h => by simp [znt] at h
  | a :: l, i, 0, v, h => by
    have e : a = some v := h
    rw [e]
    exact List.mem_cons_self
  | a :: l, i, j + 1, v, h => by
    have h2 := zal_mem (ρ := ρ) (l := l) (i := i + 1) (j := j) (v := v) h
    have e : i + 1 + j = i + (j + 1) := by omega
    rw [e] at h2
    cases a with
    | none => exact h2
    | some w => exact List.mem_cons_of_mem _ h2
theorem zal_of {ρ : Nat → Nat → Nat} : ∀ {l : ZL} {i : Nat} {q : Nat × Value}, q ∈ zal ρ i l → ∃ j v, q = (i + j, zcv ρ v) ∧ znt l j = some v
  | [], _, _, h => by cases h
  | none :: l, i, q, h => by
    obtain ⟨j, v, e, hv⟩ := zal_of (l := l) (i := i + 1) h
    exact ⟨j + 1, v, by rw [e]; congr 1; omega, hv⟩
  | some w :: l, i, q, h => by
    rcases List.mem_cons.mp h with e | h
    · exact ⟨0, w, e, rfl⟩
    · obtain ⟨j, v, e, hv⟩ := zal_of (l := l) (i := i + 1) h
      exact ⟨j + 1, v, by rw [e]; congr 1; omega, hv⟩
theorem zLR.has {ρ : Nat → Nat → Nat} {ls : ZL} {lsC : Array Slot} {nl : Nat} (h : zLR ρ ls lsC nl) : lv_has lsC nl (zal ρ 0 ls) := by
  refine ⟨h.1, h.2.1, fun q hq => ?_⟩
  obtain ⟨j, v, e, hv⟩ := zal_of hq
  rw [e, Nat.zero_add]
  exact h.2.2 j v hv
theorem znt_se : ∀ (l : ZL) (i j : Nat) (x : Option ZV) (v : ZV), znt (zse l i x) j = some v → (j = i ∧ x = some v) ∨ (j ≠ i ∧ znt l j = some v)
  | [], i, j, x, v, h => by simp [zse, znt] at h
  | a :: l, 0, 0, x, v, h => .inl ⟨rfl, h⟩
  | a :: l, 0, j + 1, x, v, h => .inr ⟨by omega, h⟩
  | a :: l, i + 1, 0, x, v, h => .inr ⟨by omega, h⟩
  | a :: l, i + 1, j + 1, x, v, h => by
    rcases znt_se l i j x v h with ⟨e, h2⟩ | ⟨e, h2⟩
    · exact .inl ⟨by omega, h2⟩
    · exact .inr ⟨by omega, h2⟩
theorem znt_cl {l : ZL} {i j : Nat} {v : ZV} (h : znt (zcl l i) j = some v) : znt l j = some v ∧ (j + 1 = i → (zcv (fun _ _ => 0) v).category ≠ 2) := by
  cases i with
  | zero => exact ⟨h, fun e => by omega⟩
  | succ k =>
    simp only [zcl] at h
    split at h
    · next y e =>
      rcases znt_se l k j none v h with ⟨_, h2⟩ | ⟨e2, h2⟩
      · cases h2
      · exact ⟨h2, fun z => by omega⟩
    · next e =>
      refine ⟨h, fun z => ?_⟩
      have hj : j = k := by omega
      subst hj
      rcases v with x | x | ⟨t, o⟩
      · show (1:Nat) ≠ 2; decide
      · exact absurd h (e x)
      · cases o <;> (show (1:Nat) ≠ 2; decide)
theorem zcv_cat (ρ : Nat → Nat → Nat) (v : ZV) : (zcv ρ v).category = (zcv (fun _ _ => 0) v).category := by
  rcases v with x | x | ⟨t, o⟩
  · rfl
  · rfl
  · cases o <;> rfl
theorem zLR_s1 {ρ : Nat → Nat → Nat} {ls : ZL} {lsC : Array Slot} {nl i : Nat} {x : ZV} (h : lv_has lsC nl ((i, zcv ρ x) :: (zal ρ 0 ls).filter (fun q => !(q.1 == i) && !(q.1 + 1 == i && q.2.category == 2)))) : zLR ρ (zse (zcl ls i) i (some x)) lsC nl := by
  refine ⟨h.1, h.2.1, fun j v hv => ?_⟩
  rcases znt_se _ _ _ _ _ hv with ⟨e, h2⟩ | ⟨e, h2⟩
  · cases h2
    rw [e]
    exact h.2.2 _ List.mem_cons_self
  · obtain ⟨h3, h4⟩ := znt_cl h2
    have hm := zal_mem (ρ := ρ) (i := 0) h3
    rw [Nat.zero_add] at hm
    refine h.2.2 (j, zcv ρ v) (List.mem_cons_of_mem _ (List.mem_filter.mpr ⟨hm, ?_⟩))
    have h5 : (j == i) = false := by simpa using e
    by_cases h6 : j + 1 = i
    · have := h4 h6
      rw [← zcv_cat ρ] at this
      simp [h5, this]
    · simp [h5, h6]
theorem zLR_s2 {ρ : Nat → Nat → Nat} {ls : ZL} {lsC : Array Slot} {nl i : Nat} {x : ZV} (h : lv_has lsC nl ((i, zcv ρ x) :: (zal ρ 0 ls).filter (fun q => !(q.1 == i) && (!(q.1 == i + 1) && !(q.1 + 1 == i && q.2.category == 2))))) : zLR ρ (zse (zse (zcl ls i) i (some x)) (i + 1) none) lsC nl := by
  refine ⟨h.1, h.2.1, fun j v hv => ?_⟩
  rcases znt_se _ _ _ _ _ hv with ⟨_, h2⟩ | ⟨e1, h1⟩
  · cases h2
  · rcases znt_se _ _ _ _ _ h1 with ⟨e, h2⟩ | ⟨e, h2⟩
    · cases h2
      rw [e]
      exact h.2.2 _ List.mem_cons_self
    · obtain ⟨h3, h4⟩ := znt_cl h2
      have hm := zal_mem (ρ := ρ) (i := 0) h3
      rw [Nat.zero_add] at hm
      refine h.2.2 (j, zcv ρ v) (List.mem_cons_of_mem _ (List.mem_filter.mpr ⟨hm, ?_⟩))
      have h5 : (j == i) = false := by simpa using e
      have h7 : (j == i + 1) = false := by simpa using e1
      by_cases h6 : j + 1 = i
      · have := h4 h6
        rw [← zcv_cat ρ] at this
        simp [h5, h7, this]
      · simp [h5, h7, h6]
theorem zLR_inc {ρ : Nat → Nat → Nat} {ls : ZL} {ls0 lsC : Array Slot} {nl i : Nat} {x y : Int} (h0 : zLR ρ ls ls0 nl) (hx : znt ls i = some (.inl y)) (h : lv_has lsC nl ((i, zcv ρ (.inl x)) :: (zal ρ 0 ls).filter (fun q => !(q.1 == i) && !(q.1 + 1 == i && q.2.category == 2)))) : zLR ρ (zse ls i (some (.inl x))) lsC nl := by
  refine ⟨h.1, h.2.1, fun j v hv => ?_⟩
  rcases znt_se _ _ _ _ _ hv with ⟨e, h2⟩ | ⟨e, h2⟩
  · cases h2
    rw [e]
    exact h.2.2 _ List.mem_cons_self
  · have hm := zal_mem (ρ := ρ) (i := 0) h2
    rw [Nat.zero_add] at hm
    refine h.2.2 (j, zcv ρ v) (List.mem_cons_of_mem _ (List.mem_filter.mpr ⟨hm, ?_⟩))
    have h5 : (j == i) = false := by simpa using e
    by_cases h6 : j + 1 = i
    · have hc : (zcv ρ v).category ≠ 2 := by
        intro hc
        have h7 := h0.2.1.1 j _ (h0.2.2 j v h2) hc
        rw [h6, h0.2.2 i _ hx] at h7
        cases h7
      simp [h5, hc]
    · simp [h5, h6]
theorem zen_nt {ρ : Nat → Nat → Nat} : ∀ {as : List ZV} {n i j : Nat} {v : ZV}, znt (zen n as) j = some v → (i + j, zcv ρ v) ∈ lv_args i (as.map (zcv ρ))
  | as, 0, i, j, v, h => by simp [zen, znt] at h
  | [], n + 1, i, j, v, h => by
    exfalso
    have : ∀ n j, znt (zen n []) j = none := by
      intro n
      induction n with
      | zero => intro j; simp [zen, znt]
      | succ n ih =>
        intro j
        cases j with
        | zero => rfl
        | succ j => exact ih j
    rw [this] at h
    cases h
  | .inl x :: l, n + 1, i, 0, v, h => by
    cases h
    exact List.mem_cons_self
  | .inl x :: l, n + 1, i, j + 1, v, h => by
    have h2 := zen_nt (ρ := ρ) (as := l) (n := n) (i := i + 1) (j := j) (v := v) h
    have e : i + 1 + j = i + (j + 1) := by omega
    rw [e] at h2
    exact List.mem_cons_of_mem _ h2
  | .inr (.inr (t, o)) :: l, n + 1, i, 0, v, h => by
    cases h
    exact List.mem_cons_self
  | .inr (.inr (t, o)) :: l, n + 1, i, j + 1, v, h => by
    have h2 := zen_nt (ρ := ρ) (as := l) (n := n) (i := i + 1) (j := j) (v := v) h
    have e : i + 1 + j = i + (j + 1) := by omega
    rw [e] at h2
    refine List.mem_cons_of_mem _ ?_
    have hc : ¬ (zcv ρ (.inr (.inr (t, o)))).category = 2 := by cases o <;> simp [zcv, va_rf, Value.category]
    rw [if_neg hc]
    exact h2
  | .inr (.inl x) :: l, 1, i, j, v, h => by simp [zen, znt] at h
  | .inr (.inl x) :: l, n + 2, i, 0, v, h => by
    cases h
    exact List.mem_cons_self
  | .inr (.inl x) :: l, n + 2, i, 1, v, h => by
    exfalso
    have e : znt (zen (n + 2) (.inr (.inl x) :: l)) 1 = none := rfl
    rw [e] at h
    cases h
  | .inr (.inl x) :: l, n + 2, i, j + 2, v, h => by
    have h2 := zen_nt (ρ := ρ) (as := l) (n := n) (i := i + 2) (j := j) (v := v) h
    have e : i + 2 + j = i + (j + 2) := by omega
    rw [e] at h2
    exact List.mem_cons_of_mem _ h2
theorem zen_in : ∀ {as : List ZV} {n j : Nat} {v : ZV}, znt (zen n as) j = some v → v ∈ as
  | as, 0, j, v, h => by simp [zen, znt] at h
  | [], n + 1, j, v, h => by
    have h2 := zen_nt (ρ := fun _ _ => 0) (i := 0) h
    cases h2
  | .inl x :: l, n + 1, 0, v, h => by cases h; exact List.mem_cons_self
  | .inl x :: l, n + 1, j + 1, v, h => List.mem_cons_of_mem _ (zen_in (as := l) (n := n) (j := j) h)
  | .inr (.inr q) :: l, n + 1, 0, v, h => by cases h; exact List.mem_cons_self
  | .inr (.inr q) :: l, n + 1, j + 1, v, h => List.mem_cons_of_mem _ (zen_in (as := l) (n := n) (j := j) h)
  | .inr (.inl x) :: l, 1, j, v, h => by simp [zen, znt] at h
  | .inr (.inl x) :: l, n + 2, 0, v, h => by cases h; exact List.mem_cons_self
  | .inr (.inl x) :: l, n + 2, 1, v, h => by
    exfalso
    have e : znt (zen (n + 2) (.inr (.inl x) :: l)) 1 = none := rfl
    rw [e] at h
    cases h
  | .inr (.inl x) :: l, n + 2, j + 2, v, h => List.mem_cons_of_mem _ (zen_in (as := l) (n := n) (j := j) h)
theorem zsz_len (ρ : Nat → Nat → Nat) : ∀ as : List ZV, (lg_sl (as.map (zcv ρ))).length = zsz as
  | [] => rfl
  | .inl x :: l => by
    have := zsz_len ρ l
    simp only [lg_sl, List.map_cons, List.flatMap_cons, List.length_append, zsz] at this ⊢
    rw [this]
    simp [zcv, Value.category]
    omega
  | .inr (.inl x) :: l => by
    have := zsz_len ρ l
    simp only [lg_sl, List.map_cons, List.flatMap_cons, List.length_append, zsz] at this ⊢
    rw [this]
    simp [zcv, Value.category]
    omega
  | .inr (.inr (t, o)) :: l => by
    have := zsz_len ρ l
    simp only [lg_sl, List.map_cons, List.flatMap_cons, List.length_append, zsz] at this ⊢
    rw [this]
    cases o <;> simp [zcv, va_rf, Value.category] <;> omega
theorem zpo_spec : ∀ {n : Nat} {acc st as r : List ZV}, zpo n acc st = some (as, r) → ∃ pre, as = pre ++ acc ∧ st = pre.reverse ++ r ∧ pre.length = n
  | 0, acc, st, as, r, h => by
    simp only [zpo, Option.some.injEq, Prod.mk.injEq] at h
    exact ⟨[], by rw [← h.1]; rfl, by rw [← h.2]; rfl, rfl⟩
  | n + 1, acc, [], as, r, h => by simp [zpo] at h
  | n + 1, acc, v :: st, as, r, h => by
    obtain ⟨pre, h1, h2, h3⟩ := zpo_spec (n := n) (acc := v :: acc) (st := st) h
    exact ⟨pre ++ [v], by rw [h1]; simp, by rw [h2]; simp, by simp [h3]⟩
theorem zcat_sum (ρ : Nat → Nat → Nat) : ∀ r : List ZV, ((r.map (zcv ρ)).map fun v => v.category).sum ≤ 2 * r.length
  | [] => by simp
  | v :: l => by
    have := zcat_sum ρ l
    have h2 : (zcv ρ v).category ≤ 2 := by
      rcases v with x | x | ⟨t, o⟩
      · show (1:Nat) ≤ 2; decide
      · show (2:Nat) ≤ 2; decide
      · cases o <;> (show (1:Nat) ≤ 2; decide)
    simp only [List.map_cons, List.sum_cons, List.length_cons]
    omega
end ZSD
end
section
section ZH
theorem zand2 {a b : Bool} (h : (a && b) = true) : a = true ∧ b = true := by simpa using h
theorem zbx {β : Type} {r : β} {b : Bool} {a : Option β} (h : zbm b a none = some r) : b = true ∧ a = some r := by
  cases b with
  | true => exact ⟨rfl, h⟩
  | false => cases h
theorem zemx {β : Type} {r : β} {q : Nat} {a0 a1 a2 a3 a4 a5 a6 : Option β} (h : zem q a0 a1 a2 a3 a4 a5 a6 none = some r) : (q = 0 ∧ a0 = some r) ∨ (q = 1 ∧ a1 = some r) ∨ (q = 2 ∧ a2 = some r) ∨ (q = 3 ∧ a3 = some r) ∨ (q = 4 ∧ a4 = some r) ∨ (q = 5 ∧ a5 = some r) ∨ (q = 6 ∧ a6 = some r) := by
  match q, h with
  | 0, h => exact .inl ⟨rfl, h⟩
  | 1, h => exact .inr (.inl ⟨rfl, h⟩)
  | 2, h => exact .inr (.inr (.inl ⟨rfl, h⟩))
  | 3, h => exact .inr (.inr (.inr (.inl ⟨rfl, h⟩)))
  | 4, h => exact .inr (.inr (.inr (.inr (.inl ⟨rfl, h⟩))))
  | 5, h => exact .inr (.inr (.inr (.inr (.inr (.inl ⟨rfl, h⟩)))))
  | 6, h => exact .inr (.inr (.inr (.inr (.inr (.inr ⟨rfl, h⟩)))))
  | _ + 7, h => cases h
theorem zr32_b {x : Int} (h : zr32b x = true) : zr32 x := by
  obtain ⟨a, b⟩ := zand2 h
  exact ⟨of_decide_eq_true a, of_decide_eq_true b⟩
theorem zr64_b {x : Int} (h : zr64b x = true) : zr64 x := by
  obtain ⟨a, b⟩ := zand2 h
  exact ⟨of_decide_eq_true a, of_decide_eq_true b⟩
theorem zr64_fin (n : Fin 2) : zr64 ((n : Nat) : Int) := ⟨by omega, by omega⟩
theorem zl_0 {x : Int} (hx : zr64 x) : Int64.ofInt x = 0 ↔ x = 0 := zl_eq (y := 0) hx ⟨by decide, by decide⟩
theorem zge2 {x y : Int} (hx : zr32 x) (hy : zr32 y) (z : Int32.ofInt y ≤ Int32.ofInt x) : ¬ x < y := by have := (zn_le hy hx).mp z; omega
theorem znge2 {x y : Int} (hx : zr32 x) (hy : zr32 y) (z : ¬ Int32.ofInt y ≤ Int32.ofInt x) : x < y := by
  have : ¬ y ≤ x := fun w => z ((zn_le hy hx).mpr w)
  omega
theorem zgt2 {x y : Int} (hx : zr32 x) (hy : zr32 y) (z : Int32.ofInt y < Int32.ofInt x) : y < x := (zn_lt hy hx).mp z
theorem zngt2 {x y : Int} (hx : zr32 x) (hy : zr32 y) (z : ¬ Int32.ofInt y < Int32.ofInt x) : ¬ y < x := fun w => z ((zn_lt hy hx).mpr w)
theorem zle2 {x y : Int} (hx : zr32 x) (hy : zr32 y) (z : Int32.ofInt x ≤ Int32.ofInt y) : ¬ y < x := by have := (zn_le hx hy).mp z; omega
theorem znle2 {x y : Int} (hx : zr32 x) (hy : zr32 y) (z : ¬ Int32.ofInt x ≤ Int32.ofInt y) : y < x := by
  have : ¬ x ≤ y := fun w => z ((zn_le hx hy).mpr w)
  omega
theorem zge0 {x : Int} (hx : zr32 x) (z : 0 ≤ Int32.ofInt x) : ¬ x < 0 := zge2 hx zr_0 z
theorem znge0 {x : Int} (hx : zr32 x) (z : ¬ 0 ≤ Int32.ofInt x) : x < 0 := znge2 hx zr_0 z
theorem zgt0 {x : Int} (hx : zr32 x) (z : 0 < Int32.ofInt x) : 0 < x := zgt2 hx zr_0 z
theorem zngt0 {x : Int} (hx : zr32 x) (z : ¬ 0 < Int32.ofInt x) : ¬ 0 < x := zngt2 hx zr_0 z
theorem zle0 {x : Int} (hx : zr32 x) (z : Int32.ofInt x ≤ 0) : ¬ 0 < x := zle2 hx zr_0 z
theorem znle0 {x : Int} (hx : zr32 x) (z : ¬ Int32.ofInt x ≤ 0) : 0 < x := znle2 hx zr_0 z
theorem zacm {ρ : Nat → Nat → Nat} {B sl : Nat} {sx : Nat → Int} {M : ZM} {U : State} {H : Heap} {x y : Option Nat} (hW : zWf ρ B M) (hc : zcs ρ B sl sx U H) (hx : zvl M (.inr (.inr (12, x)))) (hy : zvl M (.inr (.inr (12, y)))) : (x.map (ρ 12) = y.map (ρ 12)) ↔ x = y := by
  have h30 : mC M 12 = 30 := hW.2.2.2.2.2.2.2.1
  have inj := hc.2.2.2.2.2.2.2.2.2.2
  refine ⟨fun h => ?_, fun h => by rw [h]⟩
  cases x with
  | none => cases y with
    | none => rfl
    | some b => cases h
  | some a => cases y with
    | none => cases h
    | some b =>
      have h1 : a < mC M 12 := hx a rfl
      have h2 : b < mC M 12 := hy b rfl
      have e : ρ 12 a = ρ 12 b := Option.some.inj h
      rw [inj a b (by omega) (by omega) e]
theorem zswg {β : Type} {r : β} {x lo : Int} {pc : Nat} {f : Nat → Option β} {d : Option β} : ∀ (os : List Int) (b : Nat) (ts : List Nat), os.map (fun o => (pc : Int) + o) = ts.map (fun t : Nat => (t : Int)) → zsw x ((List.range' b os.length).map (fun k : Nat => lo + (k : Int))) ts f d = some r →
    ((x < lo + (b : Int) ∨ lo + (b : Int) + (os.length : Int) ≤ x) ∧ d = some r) ∨ ∃ (k : Nat) (tgt : Nat) (off : Int), x = lo + ((b + k : Nat) : Int) ∧ os[k]? = some off ∧ (pc : Int) + off = (tgt : Int) ∧ f tgt = some r
  | [], b, ts, ht, h => .inl ⟨by simp; omega, h⟩
  | o :: os, b, [], ht, h => by simp at ht
  | o :: os, b, t :: ts, ht, h => by
    simp only [List.length_cons, List.range'_succ, List.map_cons, zsw] at h
    simp only [List.map_cons, List.cons.injEq] at ht
    by_cases e : x = lo + (b : Int)
    · rw [if_pos e] at h
      exact .inr ⟨0, t, o, by simpa using e, rfl, ht.1, h⟩
    · rw [if_neg e] at h
      rcases zswg os (b + 1) ts ht.2 h with ⟨h1, h2⟩ | ⟨k, tgt, off, h1, h2, h3, h4⟩
      · refine .inl ⟨?_, h2⟩
        simp only [List.length_cons]
        omega
      · exact .inr ⟨k + 1, tgt, off, by rw [h1]; congr 1; omega, by simpa using h2, h3, h4⟩
theorem zswx {β : Type} {r : β} {x lo : Int} {pc d0 : Nat} {offs : Array Int} {cv : List Int} {ts : List Nat} {f : Nat → Option β} {d : Option β} (hcv : cv = (List.range offs.size).map (fun k : Nat => lo + (k : Int))) (htg : offs.toList.map (fun o => (pc : Int) + o) = ((d0 :: ts).drop 1).map (fun t : Nat => (t : Int))) (h : zsw x cv ts f d = some r) :
    ((x < lo ∨ lo + (offs.size : Int) ≤ x) ∧ d = some r) ∨ ∃ (k : Nat) (tgt : Nat) (off : Int), x = lo + (k : Int) ∧ offs[k]? = some off ∧ (pc : Int) + off = (tgt : Int) ∧ f tgt = some r := by
  rw [hcv, List.range_eq_range'] at h
  rw [← Array.length_toList] at h ⊢
  rcases zswg offs.toList 0 ts htg h with ⟨h1, h2⟩ | ⟨k, tgt, off, h1, h2, h3, h4⟩
  · exact .inl ⟨by simpa using h1, h2⟩
  · exact .inr ⟨k, tgt, off, by simpa using h1, by simpa using h2, h3, h4⟩
/-- the plane of a field by its type -/
def zpty (pl : Nat) (ty : FieldType) : Prop := (pl = 0 ∧ ty = .int) ∨ (pl = 1 ∧ ty = .boolean) ∨ (pl = 2 ∧ ty = .long) ∨ ((pl = 3 ∨ pl = 4) ∧ ∀ o : Option Nat, narrow ty (va_rf o) = va_rf o ∧ fits ty (va_rf o) = true ∧ defaultValue ty = .null)
def zptb (pl : Nat) (ty : FieldType) : Bool := match pl, ty with
  | 0, .int => true
  | 1, .boolean => true
  | 2, .long => true
  | 3, .object _ => true
  | 3, .array _ => true
  | 4, .object _ => true
  | _, _ => false
theorem zpt_of {pl : Nat} {ty : FieldType} (h : zptb pl ty = true) : zpty pl ty := by
  unfold zptb at h
  split at h
  · exact .inl ⟨rfl, rfl⟩
  · exact .inr (.inl ⟨rfl, rfl⟩)
  · exact .inr (.inr (.inl ⟨rfl, rfl⟩))
  · exact .inr (.inr (.inr ⟨.inl rfl, fun o => by cases o <;> exact ⟨rfl, rfl, rfl⟩⟩))
  · exact .inr (.inr (.inr ⟨.inl rfl, fun o => by cases o <;> exact ⟨rfl, rfl, rfl⟩⟩))
  · exact .inr (.inr (.inr ⟨.inr rfl, fun o => by cases o <;> exact ⟨rfl, rfl, rfl⟩⟩))
  · cases h
theorem zin_1 : ∀ w ∈ u_ws RX1 TX1 7, w ∈ lw_tz := by decide +kernel
theorem zin_2 : ∀ w ∈ u_ws RX2 TX2 2, w ∈ lw_tz := by decide +kernel
theorem zin_3 : ∀ w ∈ u_ws RX3 TX3 4, w ∈ lw_tz := by decide +kernel
theorem zin_4 : ∀ w ∈ u_ws RX4 TX4 2, w ∈ lw_tz := by decide +kernel
theorem zin_5 : ∀ w ∈ u_ws RX5 TX5 15, w ∈ lw_tz := by decide +kernel
theorem zin_6 : ∀ w ∈ u_ws RX6 TX6 7, w ∈ lw_tz := by decide +kernel
theorem zin_7 : ∀ w ∈ u_ws RX7 TX7 9, w ∈ lw_tz := by decide +kernel
theorem zin_8 : ∀ w ∈ u_ws RX8 TX8 6, w ∈ lw_tz := by decide +kernel
theorem zin_9 : ∀ w ∈ u_ws RX9 TX9 8, w ∈ lw_tz := by decide +kernel
theorem zin_10 : ∀ w ∈ u_ws RX10 TX10 7, w ∈ lw_tz := by decide +kernel
theorem zin_12 : ∀ w ∈ u_ws RX12 TX12 15, w ∈ lw_tz := by decide +kernel
theorem zin_13 : ∀ w ∈ u_ws RX13 TX13 60, w ∈ lw_tz := by decide +kernel
def zplok (t N : Nat) (ty : Nat → FieldType) : Bool := (List.range N).all (fun k => zptb (zfp t k).1 (ty k))
theorem zpl_of {t N : Nat} {ty : Nat → FieldType} (h : zplok t N ty = true) : ∀ k, k < N → zpty (zfp t k).1 (ty k) := fun k hk => zpt_of (List.all_eq_true.mp h k (List.mem_range.mpr hk))
theorem zclT {t : Nat} {q : vw_C} (h : vwCl[t]? = some q) : ∃ ty, zcl3 t q.1 q.2.1 q.2.2 ty ∧ (∀ k, k < q.2.2 → zpty (zfp t k).1 (ty k)) ∧ t < 12 := by
  have ht : t < 12 := (List.getElem?_eq_some_iff.mp h).1
  have e : t = 0 ∨ t = 1 ∨ t = 2 ∨ t = 3 ∨ t = 4 ∨ t = 5 ∨ t = 6 ∨ t = 7 ∨ t = 8 ∨ t = 9 ∨ t = 10 ∨ t = 11 := by omega
  rcases e with rfl | rfl | rfl | rfl | rfl | rfl | rfl | rfl | rfl | rfl | rfl | rfl <;> cases h
  · exact ⟨tyX1, ⟨rfl, zin_1, tyX1_ok, nmX1, rfl⟩, zpl_of (by decide +kernel), ht⟩
  · exact ⟨tyX2, ⟨rfl, zin_2, tyX2_ok, nmX2, rfl⟩, zpl_of (by decide +kernel), ht⟩
  · exact ⟨tyX3, ⟨rfl, zin_3, tyX3_ok, nmX3, rfl⟩, zpl_of (by decide +kernel), ht⟩
  · exact ⟨tyX4, ⟨rfl, zin_4, tyX4_ok, nmX4, rfl⟩, zpl_of (by decide +kernel), ht⟩
  · exact ⟨tyX5, ⟨rfl, zin_5, tyX5_ok, nmX5, rfl⟩, zpl_of (by decide +kernel), ht⟩
  · exact ⟨tyX6, ⟨rfl, zin_6, tyX6_ok, nmX6, rfl⟩, zpl_of (by decide +kernel), ht⟩
  · exact ⟨tyX7, ⟨rfl, zin_7, tyX7_ok, nmX7, rfl⟩, zpl_of (by decide +kernel), ht⟩
  · exact ⟨tyX8, ⟨rfl, zin_8, tyX8_ok, nmX8, rfl⟩, zpl_of (by decide +kernel), ht⟩
  · exact ⟨tyX9, ⟨rfl, zin_9, tyX9_ok, nmX9, rfl⟩, zpl_of (by decide +kernel), ht⟩
  · exact ⟨tyX10, ⟨rfl, zin_10, tyX10_ok, nmX10, rfl⟩, zpl_of (by decide +kernel), ht⟩
  · exact ⟨tyX12, ⟨rfl, zin_12, tyX12_ok, nmX12, rfl⟩, zpl_of (by decide +kernel), ht⟩
  · exact ⟨tyX13, ⟨rfl, zin_13, tyX13_ok, nmX13, rfl⟩, zpl_of (by decide +kernel), ht⟩
theorem zty_of {t : Nat} (h : zek t ≤ 3) : (zek t = 0 → zty t = .int) ∧ (zek t = 1 → zty t = .long) ∧ (zek t = 2 → zty t = .byte) ∧ (zek t = 3 → zty t = .boolean) := by
  unfold zek at h ⊢
  unfold zty
  split <;> simp_all
  all_goals first | omega | (split <;> decide)
def zks (dC : Nat → ClassId) (dI : Nat → Nat → Nat) (aC : Nat → ClassId) (U : State) : Prop := va_K (dC, dI) vwCl ((List.range 104).map (fun t => (aC t, zty t))) U
theorem zks_at {dC : Nat → ClassId} {dI : Nat → Nat → Nat} {aC : Nat → ClassId} {U : State} (h : zks dC dI aC U) {t : Nat} (ht : t < 104) : ArrOfT U (aC t) (zty t) ∧ va_RA U (aC t) (zty t) := h.2 t (aC t, zty t) (by simp [ht])
end ZH
end
section
section ZMAIN
def zag (ρ0 ρ : Nat → Nat → Nat) (M0 : ZM) : Prop := (∀ t i, i < mC M0 t → ρ t i = ρ0 t i) ∧ ρ 102 0 = ρ0 102 0
/-- the frame: which method runs, in which state -/
def zFr (y : MethodName) (cc : ByteArray) (nl : Nat) (p : Program) (s : State) (m : MethodId) (args : Array Value) (meth : Method) (c : Code) : Prop :=
  p.tables.exec = Jvm.exec ∧ c.code = cc ∧ c.maxLocals = nl ∧ s.vm.findClass y.cls = some m.cls ∧ (∀ w ∈ lw_tz, w.before args s = true) ∧ (y.name = "<init>" → meth.name = "<init>")
/-- our state and the machine's -/
def zctx (dC : Nat → ClassId) (dI : Nat → Nat → Nat) (aC : Nat → ClassId) (B sl : Nat) (sx : Nat → Int) (ρ : Nat → Nat → Nat) (M : ZM) (H : Heap) (s : State) (ls : ZL) (lsC : Array Slot) (nl : Nat) (st : List ZV) (locs : List Loc) : Prop :=
  zHp ρ dC dI aC M H ∧ zWf ρ B M ∧ zkc sl sx M ∧ zcs ρ B sl sx s s.heap ∧ zks dC dI aC s ∧ zLR ρ ls lsC nl ∧ (∀ i v, znt ls i = some v → zvl M v) ∧ (∀ v, v ∈ st → zvl M v) ∧ B ≤ s.heap.size ∧ va_S (zA B) s.heap H locs
/-- what is wanted where the method returns -/
def zRt (cc : ByteArray) (pc : Nat) (ret : Option FieldType) (r : Option ZV) (WW : List Value → Prop) : Prop :=
  (decode cc pc = .ok (.return_, 1) → ret = none → r = none → WW []) ∧
  (∀ x, decode cc pc = .ok (.ireturn, 1) → zr32 x → (ret = some .int → r = some (.inl x) → WW [.int (Int32.ofInt x)]) ∧ (ret = some .boolean → r = some (.inl (z_b1 x)) → WW [.int (Int32.ofInt x)])) ∧
  (∀ x, decode cc pc = .ok (.lreturn, 1) → zr64 x → ret = some .long → r = some (.inr (.inl x)) → WW [.long (Int64.ofInt x)])
def zcells (M : ZM) : Nat := M.2.2.2.2.1
def zslots (M : ZM) : Nat := M.2.2.2.2.2
/-- the law's rests, called: proved apart -/
def zR5 (l : Launch) (dC : Nat → ClassId) (dI : Nat → Nat → Nat) (aC : Nat → ClassId) (B sl : Nat) (sx : Nat → Int) : Prop :=
  ∀ {p : Program} {e : Env} {s : State} {m : MethodId} {args : Array Value} {below : List Frame} {meth : Method} {c : Code} {R : Room} {H : Heap} {locs : List Loc} {cells slots : Nat} {lsC : Array Slot} {Q : State → Prop} {y : MethodName} {cc : ByteArray} {nl pc idx : Nat} {ρ : Nat → Nat → Nat} {M : ZM} {x o : Nat} {p0 p1 p2 p3 : Int} {rest : List Value},
  zFr y cc nl p s m args meth c → lsC.size = nl → y.cls = "WakeParkLaw" → decode cc pc = .ok (.invokestatic idx, 3) → (Jvm.Cond.methodLink y.cls idx yL_rests).before args s = true → zr32 p0 → zr32 p1 → zr32 p2 → zr32 p3 → (rest.map fun v => v.category).sum ≤ 8 →
  5 ≤ R.frames → 400 ≤ R.locals → (zrt p0 p1 p2 p3 = 1 → cells + 1 ≤ R.cells ∧ slots + 6 ≤ R.slots) → cells ≤ R.cells → slots ≤ R.slots →
  zHp ρ dC dI aC M H → zWf ρ B M → zcs ρ B sl sx s s.heap → zks dC dI aC s → B ≤ s.heap.size → va_S (zA B) s.heap H locs → x < mC M 10 → o < mC M 103 →
  (zrt p0 p1 p2 p3 = 1 → ∀ (H1 : Heap) (L : List Loc), H.size ≤ H1.size → (∀ q, q < H.size → H1[q]? = H[q]?) → (∀ q ∈ L, zA B q.base) → W p l e R s m args below meth c H1 (locs ++ L) (cells + 1) (slots + 6) Q (F0 m (pc + 3) lsC (.int 1 :: rest))) →
  (¬ zrt p0 p1 p2 p3 = 1 → ∀ (H1 : Heap) (L : List Loc), zr64 (zrv p0 p1 p2 p3) → H1.size = H.size → (∀ q, q ≠ ρ 103 o → H1[q]? = H[q]?) → H1[ρ 103 o]? = some (arrV (aC 103) (mN M 103 o) (updV (zav ρ M 103 o) 0 (.long (Int64.ofInt (zrv p0 p1 p2 p3))))) → (∀ q ∈ L, zA B q.base) → W p l e R s m args below meth c H1 (locs ++ L) cells slots Q (F0 m (pc + 3) lsC (.int 0 :: rest))) →
  W p l e R s m args below meth c H locs cells slots Q (F0 m pc lsC (.ref (ρ 103 o) :: .int (Int32.ofInt p3) :: .int (Int32.ofInt p2) :: .int (Int32.ofInt p1) :: .int (Int32.ofInt p0) :: .ref (ρ 10 x) :: rest))
/-- the place of a word, called: proved apart -/
def zR4 (l : Launch) (B sl : Nat) (sx : Nat → Int) : Prop :=
  ∀ {p : Program} {e : Env} {s : State} {m : MethodId} {args : Array Value} {below : List Frame} {meth : Method} {c : Code} {R : Room} {H : Heap} {locs : List Loc} {cells slots : Nat} {lsC : Array Slot} {Q : State → Prop} {y : MethodName} {cc : ByteArray} {nl pc idx : Nat} {ρ : Nat → Nat → Nat} {i : Nat} {rest : List Value},
  zFr y cc nl p s m args meth c → lsC.size = nl → decode cc pc = .ok (.invokevirtual idx, 3) → (Jvm.Cond.methodLink y.cls idx ⟨"WakePark$Word", "ordinal", "()I"⟩).before args s = true → (rest.map fun v => v.category).sum ≤ 8 →
  1 ≤ R.frames → 200 ≤ R.locals → cells ≤ R.cells → slots ≤ R.slots → zcs ρ B sl sx s s.heap → B ≤ s.heap.size → va_S (zA B) s.heap H locs → i < 30 →
  W p l e R s m args below meth c H locs cells slots Q (F0 m (pc + 3) lsC (.int (Int32.ofInt (zKI sx 12 i 2)) :: rest)) →
  W p l e R s m args below meth c H locs cells slots Q (F0 m pc lsC (.ref (ρ 12 i) :: rest))
/-- what the own machine does in n steps, the machine does -/
def zSnd (l : Launch) (dC : Nat → ClassId) (dI : Nat → Nat → Nat) (aC : Nat → ClassId) (B sl : Nat) (sx : Nat → Int) (hl : Bool) (n : Nat) : Prop :=
  ∀ {d : Nat} {tab : ZT} {pc : Nat} {ls : ZL} {st : List ZV} {M : ZM} {r : Option ZV} {M' : ZM}, zex zG d tab pc ls st M n = some (r, M') →
  ∀ {p : Program} {e : Env} {s : State} {m : MethodId} {args : Array Value} {below : List Frame} {meth : Method} {c : Code} {R : Room} {H : Heap} {locs : List Loc} {lsC : Array Slot} {ρ ρ0 : Nat → Nat → Nat} {M0 : ZM} {y : MethodName} {cc : ByteArray} {nl : Nat} {ret : Option FieldType} {Q : State → Prop} {sp : Nat → Bool},
  zFr y cc nl p s m args meth c → (y.cls = "WakeParkLaw" → hl = true ∧ 4 ≤ d) → (∀ z ∈ tab, sp z.1 = true → z.2.1 = .return_) → tab.all (fun z => sp z.1 || (zok y.cls (decide (y.name = "<init>")) nl cc z && zokr ret z.2)) = true → zctx dC dI aC B sl sx ρ M H s ls lsC nl st locs → zag ρ0 ρ M0 → zmo M0 M →
  (d + 1 ≤ R.frames ∧ 64 * d + 200 ≤ R.locals ∧ zcells M' - zcells M0 ≤ R.cells ∧ zslots M' - zslots M0 ≤ R.slots) →
  (∀ (pc' : Nat) (ρ' : Nat → Nat → Nat) (H' : Heap) (locs' : List Loc) (lsC' : Array Slot), zHp ρ' dC dI aC M' H' → zWf ρ' B M' → zkc sl sx M' → zag ρ0 ρ' M0 → va_S (zA B) s.heap H' locs' → zRt cc pc' ret r (fun vs => W p l e R s m args below meth c H' locs' (zcells M' - zcells M0) (zslots M' - zslots M0) Q (F0 m pc' lsC' vs)) ∧ (sp pc' = true → r = none → lsC'.size = nl → W p l e R s m args below meth c H' locs' (zcells M' - zcells M0) (zslots M' - zslots M0) Q (F0 m pc' lsC' []))) →
  W p l e R s m args below meth c H locs (zcells M - zcells M0) (zslots M - zslots M0) Q (F0 m pc lsC (st.map (zcv ρ)))
theorem zor2 {a b : Bool} (h : (a || b) = true) : a = true ∨ b = true := by simpa using h
theorem zek_4 {t : Nat} (h : zek t = 4) : t = 46 ∨ t = 47 ∨ t = 48 := by
  unfold zek at h
  split at h <;> first | (cases h; done) | (simp; done) | skip
  split at h <;> cases h
theorem zek_5 {t : Nat} (h : zek t = 5) : t = 101 ∨ t = 102 := by
  unfold zek at h
  split at h <;> first | (cases h; done) | (simp; done) | skip
  split at h <;> cases h
theorem zek_6 {t : Nat} (h : zek t = 6) : t = 100 := by
  unfold zek at h
  split at h <;> first | (cases h; done) | rfl | skip
  split at h <;> cases h
theorem zty_4 {t : Nat} (h : zek t = 4) : (zty t).isReference = true := by
  rcases zek_4 h with rfl | rfl | rfl <;> rfl
theorem zcar {ρ : Nat → Nat → Nat} {B sl t i : Nat} {sx : Nat → Int} {M : ZM} {s : State} (hW : zWf ρ B M) (hk : zkc sl sx M) (hc : zcs ρ B sl sx s s.heap) (hz : zek t = 5) (hi : i < mC M t) : ∃ N, ∃ f : Nat → Value, va_T .int (ρ t i) N f (zA B) s s.heap ∧ mN M t i = N ∧ ∀ j, j < N → f j = .int (Int32.ofInt (mKI M t i j)) := by
  have w8 := hW.2.2.2.2.2.2.2
  rcases zek_5 hz with rfl | rfl
  · have h0 : i = 0 := by rw [w8.2.2.1] at hi; omega
    subst h0
    exact ⟨30, _, hc.2.2.2.2.2.2.2.2.1, w8.2.2.2.2.2.1, fun j hj => by rw [hk.1]⟩
  · have h0 : i = 0 := by have := w8.2.2.2.1; omega
    subst h0
    exact ⟨sl, _, hc.2.2.2.2.2.2.2.2.2.1, hk.2.2 (by have := w8.2.2.2.1; omega), fun j hj => by rw [hk.1]⟩
section ZCN
variable {dC : Nat → ClassId} {dI : Nat → Nat → Nat} {aC : Nat → ClassId} {B sl : Nat} {sx : Nat → Int} {ρ : Nat → Nat → Nat} {M M1 : ZM} {H H1 : Heap} {s : State} {ls : ZL} {lsC : Array Slot} {nl : Nat} {st : List ZV} {locs : List Loc} {t : Nat}
theorem zcv_same {ρ' : Nat → Nat → Nat} (h : ∀ t i, i < mC M t → ρ' t i = ρ t i) {v : ZV} (hv : zvl M v) : zcv ρ' v = zcv ρ v := by
  rcases v with x | x | ⟨t, o⟩
  · rfl
  · rfl
  · cases o with
    | none => rfl
    | some i => show va_rf (some _) = va_rf (some _); rw [h t i (hv i rfl)]
theorem zvl_up (h : ∀ t, mC M t ≤ mC M1 t) {v : ZV} (hv : zvl M v) : zvl M1 v := by
  rcases v with x | x | ⟨t, o⟩
  · exact hv
  · exact hv
  · exact fun i hi => Nat.lt_of_lt_of_le (hv i hi) (h t)
theorem zmap_same {ρ' : Nat → Nat → Nat} (h : ∀ t i, i < mC M t → ρ' t i = ρ t i) (hs : ∀ v, v ∈ st → zvl M v) : st.map (zcv ρ') = st.map (zcv ρ) := List.map_congr_left fun v hv => zcv_same h (hs v hv)
theorem zcs_up {ρ' : Nat → Nat → Nat} {U : State} {HH : Heap} (hW : zWf ρ B M) (h : ∀ t i, i < mC M t → ρ' t i = ρ t i) (h102 : ρ' 102 0 = ρ 102 0) (hc : zcs ρ B sl sx U HH) : zcs ρ' B sl sx U HH := by
  have w8 := hW.2.2.2.2.2.2.2
  exact hc.same (fun i hi => h 12 i (by rw [w8.1]; exact hi)) (h 100 0 (by rw [w8.2.1]; decide)) (h 101 0 (by rw [w8.2.2.1]; decide)) h102
theorem zctx_new (hC : zctx dC dI aC B sl sx ρ M H s ls lsC nl st locs) (hx : znx M M1 t) (hm : zmt t = true) (hw : znw M t = true) (h104 : t < 104) (hl : ¬ t < 12 → mN M1 t (mC M t) < 2147483648) (hz : H1.size = H.size + 1) (hq : ∀ q, q < H.size → H1[q]? = H[q]?) (hnew : zcel (zrn ρ t (mC M t) H.size) dC dI aC M1 H1 t (mC M t)) :
    zctx dC dI aC B sl sx (zrn ρ t (mC M t) H.size) M1 H1 s ls lsC nl (.inr (.inr (t, some (mC M t))) :: st) locs ∧ (∀ t' i', i' < mC M t' → zrn ρ t (mC M t) H.size t' i' = ρ t' i') ∧ zrn ρ t (mC M t) H.size t (mC M t) = H.size := by
  obtain ⟨hH, hW, hk, hc, hs, hL, hlv, hsv, hB, hS⟩ := hC
  have old : ∀ t' i', i' < mC M t' → zrn ρ t (mC M t) H.size t' i' = ρ t' i' := by
    intro t' i' hi
    unfold zrn
    rw [if_neg (fun z => by rw [z.1, z.2] at hi; exact absurd hi (Nat.lt_irrefl _))]
  have new : zrn ρ t (mC M t) H.size t (mC M t) = H.size := by unfold zrn; rw [if_pos ⟨rfl, rfl⟩]
  have hne : t ≠ 102 := by intro z; rw [z] at hm; revert hm; decide
  have h102 : zrn ρ t (mC M t) H.size 102 0 = ρ 102 0 := by unfold zrn; rw [if_neg (fun z => hne z.1.symm)]
  have le : ∀ t', mC M t' ≤ mC M1 t' := by
    intro t'
    rw [hx.2.2.1]
    split
    · next z => rw [z]; exact Nat.le_succ _
    · exact Nat.le_refl _
  refine ⟨⟨zHp_new hH hW hx hm hq hnew, zWf_new hH hW hx hm (Nat.le_trans hB hS.1) hw h104 hl, ⟨fun a b c => by rw [(hx.2.2.2.2.2 a b c).1]; exact hk.1 a b c, fun a b c => by rw [(hx.2.2.2.2.2 a b c).2]; exact hk.2.1 a b c, fun z => ?_⟩, zcs_up hW old h102 hc, hs, ⟨hL.1, hL.2.1, fun i v hv => ?_⟩, fun i v hv => zvl_up le (hlv i v hv), List.forall_mem_cons.mpr ⟨fun i hi => ?_, fun v hv => zvl_up le (hsv v hv)⟩, hB, ⟨by have := hS.1; omega, fun q h1 h2 => ?_, hS.2.2⟩⟩, old, new⟩
  · rw [hx.2.2.1, if_neg (Ne.symm hne)] at z
    rw [hx.2.2.2.2.1 102 0 (fun w => hne w.1.symm)]
    exact hk.2.2 z
  · rw [zcv_same old (hlv i v hv)]
    exact hL.2.2 i v hv
  · cases hi
    rw [hx.2.2.1, if_pos rfl]
    exact Nat.lt_succ_self _
  · rw [hq q (Nat.lt_of_lt_of_le h1 hS.1)]
    exact hS.2.1 q h1 h2
end ZCN
section ZCALL
variable {l : Launch} {dC : Nat → ClassId} {dI : Nat → Nat → Nat} {aC : Nat → ClassId} {B sl : Nat} {sx : Nat → Int}
/-- the words that calls don't carry of themselves -/
def zbad (U : State) : Prop := ∀ w ∈ lw_tz, zbdw w = true → w.before #[] U = true
theorem zbad.same {u U : State} (h : u.vm = U.vm) (hz : zbad u) : zbad U := by
  intro w hw hb
  have h0 := hz w hw hb
  cases w <;> first | (cases hb; done) | exact va_tabs rfl h h0 | skip
  next ty => cases ty <;> first | (cases hb; done) | exact va_AO.moved (by rw [h]; exact Vm.Alike.refl _) h0
theorem zbad.moved {u U : State} (h : u.WarmedH U.vm) (hz : zbad u) : zbad U := by
  intro w hw hb
  have h0 := hz w hw hb
  cases w <;> first | (cases hb; done) | exact va_Nw.warmF h h0 | exact va_Nw.warmM h h0 | exact va_Nw.warmD h h0 | exact va_Nw.warmC h h0 | exact va_tabs rfl (rfl : (u.setVm U.vm).vm = U.vm) (by rw [Cond.privateMethod_setVm h.alike]; exact h0) | exact va_tabs rfl (rfl : (u.setVm U.vm).vm = U.vm) (by rw [Cond.publicMethod_setVm h.alike]; exact h0) | skip
  next ty => cases ty <;> first | (cases hb; done) | exact va_AO.moved h.alike h0
theorem zbad.of {A : Array Value} {U : State} (h : ∀ w ∈ lw_tz, w.before A U = true) : zbad U := by
  intro w hw hb
  have h0 := h w hw
  cases w <;> first | (cases hb; done) | exact va_tabs rfl rfl h0 | skip
  next ty => cases ty <;> first | (cases hb; done) | exact h0
theorem zbad.use {A : Array Value} {U : State} (h : zbad U) {w : Jvm.Cond} (hw : w ∈ lw_tz) (hb : zbdw w = true) : w.before A U = true := by
  have h0 := h w hw hb
  cases w <;> first | (cases hb; done) | exact va_tabs rfl rfl h0 | skip
  next ty => cases ty <;> first | (cases hb; done) | exact h0
def zPc (dC : Nat → ClassId) (dI : Nat → Nat → Nat) (aC : Nat → ClassId) (B sl : Nat) (sx : Nat → Int) (ρ : Nat → Nat → Nat) (M : ZM) (as : List ZV) : Array Value → State → Prop := fun v U => v = (as.map (zcv ρ)).toArray ∧ zHp ρ dC dI aC M U.heap ∧ zcs ρ B sl sx U U.heap ∧ zks dC dI aC U ∧ zbad U ∧ B ≤ U.heap.size
def zQc (dC : Nat → ClassId) (dI : Nat → Nat → Nat) (aC : Nat → ClassId) (B sl : Nat) (sx : Nat → Int) (ρ : Nat → Nat → Nat) (M : ZM) (rv : Option ZV) (M2 : ZM) : Array Value → State → Outcome → State → Prop := fun _ st oc t => ∃ ρ', zag ρ ρ' M ∧ oc = .returned (rv.map (zcv ρ')) ∧ zHp ρ' dC dI aC M2 t.heap ∧ zWf ρ' B M2 ∧ zkc sl sx M2 ∧ (∀ v, rv = some v → zvl M2 v) ∧ st.heap.size ≤ t.heap.size ∧ ∀ q, q < B → t.heap[q]? = st.heap[q]?
theorem zPc_blind {ρ : Nat → Nat → Nat} {M : ZM} {as : List ZV} : FrameBlind (zPc dC dI aC B sl sx ρ M as) := by
  intro a U g mk h
  obtain ⟨h1, h2, h3, h4, h6, h5⟩ := h
  exact ⟨h1, h2, zcs.moved (u := U) (U := U.calling g mk a) (Vm.Alike.refl U.vm) h3, va_K.moved (u := U) (U := U.calling g mk a) (Vm.Alike.refl U.vm) h4, zbad.same (u := U) (U := U.calling g mk a) rfl h6, h5⟩
end ZCALL
theorem zatx {aty : ArrayType} {q : Nat} (h : q = zat aty) (h3 : q ≤ 3) : (aty = .int ∧ q = 0) ∨ (aty = .long ∧ q = 1) ∨ (aty = .byte ∧ q = 2) ∨ (aty = .boolean ∧ q = 3) := by
  cases aty <;> simp [zat] at h ⊢ <;> omega
theorem znw_a {M : ZM} {t : Nat} (h : ¬ t < 12) : znw M t = true := by
  unfold znw
  split <;> first | (exfalso; omega) | rfl
theorem zinst {args : Array Value} {s : State} {t : Nat} {q : vw_C} (hts : ∀ w ∈ lw_tz, w.before args s = true) (h : vwCl[t]? = some q) : (Jvm.Cond.instantiable q.1 q.2.2).before args s = true ∧ (Jvm.Cond.initialized q.1).before args s = true := by
  have ht : t < 12 := (List.getElem?_eq_some_iff.mp h).1
  have e : t = 0 ∨ t = 1 ∨ t = 2 ∨ t = 3 ∨ t = 4 ∨ t = 5 ∨ t = 6 ∨ t = 7 ∨ t = 8 ∨ t = 9 ∨ t = 10 ∨ t = 11 := by omega
  rcases e with rfl | rfl | rfl | rfl | rfl | rfl | rfl | rfl | rfl | rfl | rfl | rfl <;> cases h <;> exact ⟨hts _ (by decide +kernel), hts _ (by decide +kernel)⟩
theorem zfd_mem : ∀ {tab : ZT} {pc : Nat} {q : ZE}, zfd tab pc = some q → (pc, q) ∈ tab
  | [], _, _, h => by cases h
  | a :: l, pc, q, h => by
    unfold zfd at h
    split at h
    · next e =>
      cases h
      have := Nat.eq_of_beq_eq_true e
      subst this
      exact List.mem_cons_self
    · exact List.mem_cons_of_mem _ (zfd_mem h)
theorem zrn_102 {ρ : Nat → Nat → Nat} {t i a : Nat} (hm : zmt t = true) : zrn ρ t i a 102 0 = ρ 102 0 := by
  have hne : t ≠ 102 := by intro z; rw [z] at hm; revert hm; decide
  unfold zrn
  rw [if_neg (fun z => hne z.1.symm)]
end ZMAIN
end
section
section ZCC
variable {l : Launch} {dC : Nat → ClassId} {dI : Nat → Nat → Nat} {aC : Nat → ClassId} {B sl : Nat} {sx : Nat → Int} {hl : Bool}
theorem zgdw_of {w : Jvm.Cond} (h : zgdw w = true) : (w.onTables && w.keeps) = true ∨ ∃ ty, w = .arrayClass ty := by
  rcases zor2 h with h | h
  · exact .inl h
  · right
    cases w <;> first | (cases h; done) | exact ⟨_, rfl⟩
theorem zgood {ws : List Jvm.Cond} (h : ∀ w ∈ ws, w ∈ lw_tz ∧ zgdw w = true) : GoodIn lw_tz ws := fun w hw => ⟨(h w hw).1, zgdw_of (h w hw).2⟩
theorem zgood_f : ∀ w ∈ lw_tz.filter zgdw, w ∈ lw_tz ∧ zgdw w = true := fun _ hw => List.mem_filter.mp hw
theorem zMet {n : Nat} (ih : zSnd l dC dI aC B sl sx hl n) {d : Nat} {tab : ZT} {nl : Nat} {y : MethodName} {cc : ByteArray} {ret : Option FieldType} {as : List ZV} {M M2 : ZM} {rv : Option ZV} {ρ : Nat → Nat → Nat}
    (hz : zex zG d tab 0 (zen nl as) [] M n = some (rv, M2)) (hchk : tab.all (fun z => zok y.cls (decide (y.name = "<init>")) nl cc z && zokr ret z.2) = true) (hpl : plainFor y = true) (hnl : y.cls ≠ "WakeParkLaw") (hsz : zsz as ≤ nl)
    (hW : zWf ρ B M) (hk : zkc sl sx M) (hv : ∀ v, v ∈ as → zvl M v) : Met l y (.code y cc nl ret :: lw_tz.filter zgdw) { frames := d + 1, cells := zcells M2 - zcells M, slots := zslots M2 - zslots M, locals := 64 * d + 200 } (zPc dC dI aC B sl sx ρ M as) (zQc dC dI aC B sl sx ρ M rv M2) (zcells M2 - zcells M) (zslots M2 - zslots M) (zA B) := by
  refine va_MetF hpl rfl ?_
  intro p e s m args below meth c s₁ hB hml hP
  obtain ⟨hargs, hH, hc, hs, hbd, hBs⟩ := hP
  subst hargs
  have hts := atoms_spec (ws := (.code y cc nl ret :: lw_tz.filter zgdw)) hB.pre
  have htall : ∀ w ∈ lw_tz, w.before (as.map (zcv ρ)).toArray s = true := by
    intro w hw
    rcases zor2 ((List.mem_filter.mp hw).2) with z | z
    · exact hts w (List.mem_cons_of_mem _ (List.mem_filter.mpr ⟨hw, z⟩))
    · exact hbd.use hw z
  have hown : s.vm.findClass y.cls = some m.cls := findClass_of_methodNamed hB.named
  have hnm := (name_of_methodNamed hB.named hB.method).1
  rw [lg_entry_eq]
  have hlv := lv_entry (as.map (zcv ρ)) (n := nl) (by rw [zsz_len]; exact hsz)
  have key := ih hz (Q := MQ below (zQc dC dI aC B sl sx ρ M rv M2) (as.map (zcv ρ)).toArray s (zcells M2 - zcells M) (zslots M2 - zslots M) (zA B)) (ρ := ρ) (ρ0 := ρ) (M0 := M) (R := (headSpec (.code y cc nl ret :: lw_tz.filter zgdw) { frames := d + 1, cells := zcells M2 - zcells M, slots := zslots M2 - zslots M, locals := 64 * d + 200 }).room) (e := e) (below := below)
    (⟨hB.exec, hB.bytes, hml, hown, htall, fun z => by rw [hnm]; exact z⟩ : zFr y cc nl p s m (as.map (zcv ρ)).toArray meth c) (fun z => absurd z hnl) (sp := fun _ => false) (fun _ _ z => by cases z) hchk
    (H := s.heap) (locs := []) (⟨hH, hW, hk, hc, hs, ⟨hlv.1, hlv.2.1, fun i v hi => by have := hlv.2.2 _ (zen_nt (ρ := ρ) (i := 0) hi); simpa using this⟩, fun i v hi => hv v (zen_in hi), fun v hv => (by cases hv), hBs, ⟨Nat.le_refl _, fun _ _ _ => rfl, fun _ h => by cases h⟩⟩)
    ⟨fun _ _ _ => rfl, rfl⟩ (zmo_rf M) ⟨Nat.le_refl _, Nat.le_refl _, Nat.le_refl _, Nat.le_refl _⟩
    (fun pc' ρ' H' locs' lsC' hH' hW' hk' hag' hS' => by
      have hsame : ∀ q, q < B → H'[q]? = s.heap[q]? := fun q hq => hS'.2.1 q (Nat.lt_of_lt_of_le hq hBs) (fun z => absurd z (Nat.not_le.mpr hq))
      refine ⟨⟨fun hd hr hv => ?_, fun x hd hx => ⟨fun hr hv => ?_, fun hr hv => ?_⟩, fun x hd hx hr hv => ?_⟩, fun z => by cases z⟩
      · exact W.vret hB.exec hB.bytes (hB.returns.trans hr) (fun t ht _ => ⟨ρ', hag', by rw [hv]; rfl, by rw [ht]; exact hH', hW', hk', fun v z => (by rw [hv] at z; cases z), by rw [ht]; exact hS'.1, by rw [ht]; exact hsame⟩) hS'.2.2 hd hB.notSynchronized
      · exact W.iret hB.exec hB.bytes (hB.returns.trans hr) (fun t ht _ => ⟨ρ', hag', by rw [hv]; rfl, by rw [ht]; exact hH', hW', hk', fun v z => by rw [hv] at z; cases z; exact hx, by rw [ht]; exact hS'.1, by rw [ht]; exact hsame⟩) hS'.2.2 hd hB.notSynchronized
      · exact zw_ret (w := Int32.ofInt (z_b1 x)) hB.exec hB.bytes (hB.returns.trans hr) (congrArg Value.int (zn_b1 hx)) (fun t ht _ => ⟨ρ', hag', by rw [hv]; rfl, by rw [ht]; exact hH', hW', hk', fun v z => by rw [hv] at z; cases z; exact z_b1_r x, by rw [ht]; exact hS'.1, by rw [ht]; exact hsame⟩) hS'.2.2 hd hB.notSynchronized
      · exact W.lret hB.exec hB.bytes (hB.returns.trans hr) (fun t ht _ => ⟨ρ', hag', by rw [hv]; rfl, by rw [ht]; exact hH', hW', hk', fun v z => by rw [hv] at z; cases z; exact hx, by rw [ht]; exact hS'.1, by rw [ht]; exact hsame⟩) hS'.2.2 hd hB.notSynchronized)
  rw [Nat.sub_self, Nat.sub_self] at key
  exact key
theorem zafter {n : Nat} (ih : zSnd l dC dI aC B sl sx hl n) {d : Nat} {tab : ZT} {pc : Nat} {ls : ZL} {rest : List ZV} {M M2 : ZM} {r rv : Option ZV} {M' : ZM} (h : zex zG d tab (pc + 3) ls (rv.toList ++ rest) M2 n = some (r, M'))
    {p : Program} {e : Env} {s : State} {m : MethodId} {args : Array Value} {below : List Frame} {meth : Method} {c : Code} {R : Room} {H : Heap} {locs : List Loc} {lsC : Array Slot} {ρ ρ0 : Nat → Nat → Nat} {M0 : ZM} {y : MethodName} {cc : ByteArray} {nl : Nat} {ret : Option FieldType} {Q : State → Prop} {a : Array Value} {st0 : List Value} {sp : Nat → Bool}
    (hF : zFr y cc nl p s m args meth c) (hd5 : y.cls = "WakeParkLaw" → hl = true ∧ 4 ≤ d) (hsp : ∀ z ∈ tab, sp z.1 = true → z.2.1 = .return_) (hT : tab.all (fun z => sp z.1 || (zok y.cls (decide (y.name = "<init>")) nl cc z && zokr ret z.2)) = true) (hctx : zctx dC dI aC B sl sx ρ M H s ls lsC nl rest locs) (hag : zag ρ0 ρ M0) (hmo : zmo M0 M) (hm2 : zmo M M2)
    (hR : d + 1 ≤ R.frames ∧ 64 * d + 200 ≤ R.locals ∧ zcells M' - zcells M0 ≤ R.cells ∧ zslots M' - zslots M0 ≤ R.slots)
    (hret : ∀ (pc' : Nat) (ρ' : Nat → Nat → Nat) (H' : Heap) (locs' : List Loc) (lsC' : Array Slot), zHp ρ' dC dI aC M' H' → zWf ρ' B M' → zkc sl sx M' → zag ρ0 ρ' M0 → va_S (zA B) s.heap H' locs' → zRt cc pc' ret r (fun vs => W p l e R s m args below meth c H' locs' (zcells M' - zcells M0) (zslots M' - zslots M0) Q (F0 m pc' lsC' vs)) ∧ (sp pc' = true → r = none → lsC'.size = nl → W p l e R s m args below meth c H' locs' (zcells M' - zcells M0) (zslots M' - zslots M0) Q (F0 m pc' lsC' [])))
    (hr : va_Run p l e R s m args below meth c H locs (zcells M - zcells M0) (zslots M - zslots M0) (zcells M2 - zcells M) (zslots M2 - zslots M) (F0 m pc lsC st0) (rest.map (zcv ρ)) (zQc dC dI aC B sl sx ρ M rv M2 a) (zA B)) :
    W p l e R s m args below meth c H locs (zcells M - zcells M0) (zslots M - zslots M0) Q (F0 m pc lsC st0) := by
  obtain ⟨hH, hW, hk, hc, hs, hL, hlv, hsv, hB, hS⟩ := hctx
  intro T hT2 X
  obtain ⟨v, st₀, t, T', L, h0, X', hLf, e1, e2, ⟨ρ', hag', hv, hH', hW', hk', hrv, hz, hkp⟩, st⟩ := hr T hT2 X
  have hv : v = rv.map (zcv ρ') := Outcome.returned.inj hv
  subst hv
  have c1 : zcells M0 ≤ zcells M := hmo.2.1
  have c2 : zcells M ≤ zcells M2 := hm2.2.1
  have c3 : zslots M0 ≤ zslots M := hmo.2.2.1
  have c4 : zslots M ≤ zslots M2 := hm2.2.2.1
  have e3 : (rv.map (zcv ρ')).toList ++ rest.map (zcv ρ) = (rv.toList ++ rest).map (zcv ρ') := by
    rw [List.map_append, zmap_same hag'.1 hsv]
    cases rv <;> rfl
  rw [e3] at st
  rw [h0] at hz hkp
  have key := ih h hF hd5 hsp hT (ρ := ρ') (ρ0 := ρ0) (M0 := M0) (H := T'.heap) (locs := locs ++ L) (lsC := lsC) (R := R) (e := e) (below := below) (Q := Q)
    ⟨by rw [e1]; exact hH', hW', hk', zcs_up hW hag'.1 hag'.2 hc, hs, ⟨hL.1, hL.2.1, fun i v hi => by rw [zcv_same hag'.1 (hlv i v hi)]; exact hL.2.2 i v hi⟩, fun i v hi => zvl_up hm2.1 (hlv i v hi), fun v hv => by
      rcases List.mem_append.mp hv with z | z
      · exact hrv v (by cases rv <;> simp_all)
      · exact zvl_up hm2.1 (hsv v z), hB,
      ⟨by rw [e1]; exact Nat.le_trans hS.1 hz, fun q h1 h2 => by rw [e1, hkp q (Nat.not_le.mp h2)]; exact hS.2.1 q h1 h2, fun q hq => by
        rcases List.mem_append.mp hq with z | z
        · exact hS.2.2 q z
        · exact hLf q z⟩⟩
    ⟨fun t i hi => by rw [hag'.1 t i (Nat.lt_of_lt_of_le hi (hmo.1 t))]; exact hag.1 t i hi, hag'.2.trans hag.2⟩ (zmo_tr hmo hm2) hR hret
  rw [show zcells M - zcells M0 + (zcells M2 - zcells M) = zcells M2 - zcells M0 by omega, show zslots M - zslots M0 + (zslots M2 - zslots M) = zslots M2 - zslots M0 by omega] at X'
  obtain ⟨t2, a1, b1⟩ := key T' rfl X'
  exact ⟨t2, st t2 a1, b1⟩
theorem zcx {d n mi : Nat} {as rest : List ZV} {tab : ZT} {pc : Nat} {ls : ZL} {M : ZM} {o : ZR} (h : (zcd d fun d' => zcg (zG mi) fun tab2 nl => zbm (Nat.ble (zsz as) nl) (zcall (zex zG d' tab2 0 (zen nl as) [] M n) fun r M2 => zex zG d tab (pc + 3) ls (r.toList ++ rest) M2 n) none) = some o) :
    ∃ d' tab2 nl2 rv M2, d = d' + 1 ∧ zG mi = some (tab2, nl2) ∧ zsz as ≤ nl2 ∧ zex zG d' tab2 0 (zen nl2 as) [] M n = some (rv, M2) ∧ zex zG d tab (pc + 3) ls (rv.toList ++ rest) M2 n = some o := by
  cases d with
  | zero => cases h
  | succ d' =>
    unfold zcd at h
    dsimp only at h
    cases hg : zG mi with
    | none => rw [hg] at h; cases h
    | some q =>
      rw [hg] at h
      obtain ⟨tab2, nl2⟩ := q
      obtain ⟨hz, h⟩ := zbx h
      cases he : zex zG d' tab2 0 (zen nl2 as) [] M n with
      | none => rw [he] at h; cases h
      | some w =>
        rw [he] at h
        exact ⟨d', tab2, nl2, w.1, w.2, rfl, rfl, Nat.le_of_ble_eq_true hz, he, h⟩
theorem zokm_x {y : MethodName} {cc : ByteArray} {nl : Nat} {ret : Option FieldType} {st : Bool} {js : List Nat} (h : zokm (y, cc, nl, ret, st, js) = true) :
    (Jvm.Cond.code y cc nl ret ∈ lw_tz) ∧ (Jvm.Cond.initialized y.cls ∈ lw_tz) ∧ nl ≤ 21 ∧ plainFor y = true ∧ y.cls ≠ "java/lang/invoke/MethodHandle" ∧ y.cls ≠ "java/lang/invoke/VarHandle" ∧ y.cls ≠ "WakeParkLaw" ∧ (st = true → Jvm.Cond.static y ∈ lw_tz) ∧ (st = false → Jvm.Cond.instanceMethod y ∈ lw_tz ∧ (y.name ≠ "<init>" → Jvm.Cond.selects y.cls y y ∈ lw_tz)) := by
  rcases js with _ | ⟨j0, _ | ⟨j1, _ | ⟨j2, r⟩⟩⟩ <;> first | (cases h; done) | skip
  obtain ⟨h, h8⟩ := zand2 h
  obtain ⟨h, h7⟩ := zand2 h
  obtain ⟨h, h6⟩ := zand2 h
  obtain ⟨h, h5⟩ := zand2 h
  obtain ⟨h, h4⟩ := zand2 h
  obtain ⟨h, h3⟩ := zand2 h
  obtain ⟨h1, h2⟩ := zand2 h
  refine ⟨zlk_m h1, zlk_m h2, Nat.le_of_ble_eq_true h3, h4, of_decide_eq_true h5, of_decide_eq_true h6, of_decide_eq_true h7, fun z => ?_, fun z => ?_⟩
  · subst z
    exact zlk_m h8
  · subst z
    obtain ⟨a, b⟩ := zand2 h8
    refine ⟨zlk_m a, fun hn => ?_⟩
    cases r with
    | nil => exact absurd (of_decide_eq_true (zand2 b).1) hn
    | cons j3 r => exact zlk_m b
theorem zckm_x {mi : Nat} {tab : ZT} {nl : Nat} {q : ZI} (h : zckm mi tab nl = true) (hq : zmi mi = some q) : zokt q tab = true ∧ q.2.2.1 = nl ∧ zokm q = true := by
  unfold zckm at h
  rw [hq] at h
  obtain ⟨h, h3⟩ := zand2 h
  obtain ⟨h1, h2⟩ := zand2 h
  exact ⟨h1, Nat.eq_of_beq_eq_true h2, h3⟩
theorem zokc_x {own : String} {idx k : Nat} {ax : List Nat} (h : zokc own idx k ax = true) :
    (∃ mi n j r q, ax = 0 :: mi :: n :: j :: r ∧ k = 2 ∧ zmi mi = some q ∧ q.2.2.2.2.1 = true ∧ zlk j (.methodLink own idx q.1) = true ∧ (parseMethodDescriptor q.1.desc).map (fun d => d.parameters.length) = some n) ∨
    (∃ mi n j nest tg r q c, ax = 1 :: mi :: n :: j :: nest :: tg :: r ∧ zmi mi = some q ∧ q.2.2.2.2.1 = false ∧ tg < 12 ∧ (parseMethodDescriptor q.1.desc).map (fun d => d.parameters.length) = some (n - 1) ∧ 0 < n ∧ vwCl[tg]? = some c ∧ q.1.cls = c.1 ∧ (zlk j (.methodLink own idx q.1) = true ∨ (zlk j (.methodLinkNest own idx q.1 "WakePark") = true ∧ k = 1)) ∧ ((k = 0 ∧ q.1.name ≠ "<init>") ∨ (k = 1 ∧ q.1.name = "<init>" ∧ q.2.2.2.1 = none))) ∨
    (∃ a b j r, ax = 2 :: a :: b :: j :: r ∧ k = 1 ∧ zlk j (.methodLink own idx Lib.objectInit) = true) ∨
    (∃ a b j r, ax = 3 :: a :: b :: j :: r ∧ k = 2 ∧ zlk j (.methodLink own idx arraycopyName) = true) ∨
    (∃ a b j r, ax = 4 :: a :: b :: j :: r ∧ k = 0 ∧ zlk j (.methodLink own idx ⟨"WakePark$Word", "ordinal", "()I"⟩) = true) ∨
    (∃ a b j r, ax = 5 :: a :: b :: j :: r ∧ k = 2 ∧ zlk j (.methodLink own idx yL_rests) = true ∧ own = "WakeParkLaw") ∨
    (∃ a b j r, ax = 6 :: a :: b :: j :: r ∧ k = 2 ∧ zlk j (.methodLink own idx Lib.Math.max.name) = true) ∨
    (∃ a b j r, ax = 7 :: a :: b :: j :: r ∧ k = 2 ∧ zlk j (.methodLink own idx Lib.Math.min.name) = true) ∨
    (∃ a b j r, ax = 8 :: a :: b :: j :: r ∧ k = 2 ∧ zlk j (.methodLink own idx Lib.Math.abs.name) = true) := by
  unfold zokc at h
  split at h
  · next mi n j r =>
    obtain ⟨hk, h⟩ := zand2 h
    split at h
    · next q hq =>
      obtain ⟨h, h3⟩ := zand2 h
      obtain ⟨h1, h2⟩ := zand2 h
      exact .inl ⟨mi, n, j, r, q, rfl, Nat.eq_of_beq_eq_true hk, hq, h1, h2, of_decide_eq_true h3⟩
    · cases h
  · next mi n j nest tg r =>
    split at h
    · next q hq =>
      obtain ⟨h, h7⟩ := zand2 h
      obtain ⟨h, h6⟩ := zand2 h
      obtain ⟨h, h5⟩ := zand2 h
      obtain ⟨h, h4⟩ := zand2 h
      obtain ⟨h, h3⟩ := zand2 h
      obtain ⟨h1, h2⟩ := zand2 h
      cases hv : vwCl[tg]? with
      | none => rw [hv] at h5; cases h5
      | some c =>
        rw [hv] at h5
        refine .inr (.inl ⟨mi, n, j, nest, tg, r, q, c, rfl, hq, by simpa using h1, Nat.le_of_ble_eq_true h2, of_decide_eq_true h3, Nat.le_of_ble_eq_true h4, hv, of_decide_eq_true h5, ?_, ?_⟩)
        · split at h6
          · exact .inl h6
          · obtain ⟨a, b⟩ := zand2 h6
            exact .inr ⟨a, Nat.eq_of_beq_eq_true b⟩
        · split at h7
          · exact .inl ⟨rfl, of_decide_eq_true h7⟩
          · obtain ⟨a, b⟩ := zand2 h7
            exact .inr ⟨rfl, of_decide_eq_true a, of_decide_eq_true b⟩
          · cases h7
    · cases h
  · next a b j r => obtain ⟨h1, h2⟩ := zand2 h; exact .inr (.inr (.inl ⟨a, b, j, r, rfl, Nat.eq_of_beq_eq_true h1, h2⟩))
  · next a b j r => obtain ⟨h1, h2⟩ := zand2 h; exact .inr (.inr (.inr (.inl ⟨a, b, j, r, rfl, Nat.eq_of_beq_eq_true h1, h2⟩)))
  · next a b j r => obtain ⟨h1, h2⟩ := zand2 h; exact .inr (.inr (.inr (.inr (.inl ⟨a, b, j, r, rfl, Nat.eq_of_beq_eq_true h1, h2⟩))))
  · next a b j r => obtain ⟨h, h3⟩ := zand2 h; obtain ⟨h1, h2⟩ := zand2 h; exact .inr (.inr (.inr (.inr (.inr (.inl ⟨a, b, j, r, rfl, Nat.eq_of_beq_eq_true h1, h2, of_decide_eq_true h3⟩)))))
  · next a b j r => obtain ⟨h1, h2⟩ := zand2 h; exact .inr (.inr (.inr (.inr (.inr (.inr (.inl ⟨a, b, j, r, rfl, Nat.eq_of_beq_eq_true h1, h2⟩))))))
  · next a b j r => obtain ⟨h1, h2⟩ := zand2 h; exact .inr (.inr (.inr (.inr (.inr (.inr (.inr (.inl ⟨a, b, j, r, rfl, Nat.eq_of_beq_eq_true h1, h2⟩)))))))
  · next a b j r => obtain ⟨h1, h2⟩ := zand2 h; exact .inr (.inr (.inr (.inr (.inr (.inr (.inr (.inr ⟨a, b, j, r, rfl, Nat.eq_of_beq_eq_true h1, h2⟩)))))))
  · cases h
theorem zpre {ρ : Nat → Nat → Nat} {M : ZM} {H : Heap} {s : State} {args : Array Value} {locs : List Loc} {as : List ZV} (hH : zHp ρ dC dI aC M H) (hc : zcs ρ B sl sx s s.heap) (hs : zks dC dI aC s) (hts : ∀ w ∈ lw_tz, w.before args s = true) (hB : B ≤ s.heap.size) (hS : va_S (zA B) s.heap H locs) :
    ∀ U : State, U.heap = H → s.WarmedH U.vm → zPc dC dI aC B sl sx ρ M as (as.map (zcv ρ)).toArray U := by
  intro U hU hWm
  refine ⟨rfl, by rw [hU]; exact hH, ?_, va_K.moved hWm.alike hs, (zbad.of hts).moved hWm, by rw [hU]; exact Nat.le_trans hB hS.1⟩
  rw [hU]
  exact zcs.moved hWm.alike (zcs.kept hc hS.2.1)
end ZCC
end
section
section ZTHM
variable {l : Launch} {dC : Nat → ClassId} {dI : Nat → Nat → Nat} {aC : Nat → ClassId} {B sl : Nat} {sx : Nat → Int} {hl : Bool}
theorem zlv3 {ls : ZL} {M : ZM} {i : Nat} {x : ZV} (hlv : ∀ i v, znt ls i = some v → zvl M v) (hx0 : zvl M x) : ∀ j v, znt (zse ls i (some x)) j = some v → zvl M v := by
  intro j v hj
  rcases znt_se _ _ _ _ _ hj with ⟨_, e⟩ | ⟨_, e⟩
  · cases e; exact hx0
  · exact hlv _ _ e
theorem zokf_x {own : String} {idx t f pl tg rg j : Nat} {ax : List Nat} (h : zokf own idx (t :: f :: pl :: tg :: rg :: j :: ax) = true) : (t = 12 ∧ ((Nat.beq f 0 && Nat.beq pl 5 && zlk j (.fieldLink own idx "WakePark$Word" "free" "Z")) || (Nat.beq f 1 && Nat.beq pl 6 && zlk j (.fieldLink own idx "WakePark$Word" "key" "J"))) = true) ∨ (Nat.blt t 12 && Nat.blt f (znf t) && decide (zfp t f = (pl, tg, rg)) && (match vwCl[t]? with
      | some c => zlk j (.fieldLink own idx (c.2.1 f).1 (c.2.1 f).2.1 (c.2.1 f).2.2.1)
      | none => false)) = true := by
  unfold zokf at h
  dsimp only at h
  split at h
  · exact .inl ⟨rfl, h⟩
  · exact .inr h
theorem zoks_x {own : String} {idx t i j : Nat} {ax : List Nat} (h : zoks own idx (t :: i :: j :: ax) = true) : (t = 12 ∧ (Nat.blt i 30 && zlk j (.fieldLink own idx "WakePark$Word" (zwn i) "LWakePark$Word;")) = true) ∨ (t = 100 ∧ (Nat.beq i 0 && zlk j (.fieldLinkNest own idx "WakePark" "WORDS" "[LWakePark$Word;" "WakePark")) = true) ∨ (t = 101 ∧ (Nat.beq i 0 && zlk j (.fieldLink own idx "WakePark$1" "$SwitchMap$WakePark$Word" "[I")) = true) := by
  unfold zoks at h
  dsimp only at h
  split at h
  · exact .inl ⟨rfl, h⟩
  · exact .inr (.inl ⟨rfl, h⟩)
  · exact .inr (.inr ⟨rfl, h⟩)
  · cases h
def zgV (M : ZM) (t i f pl tg rg : Nat) : ZV := match pl with
  | 0 => .inl (mI M t i f)
  | 1 => .inl (mI M t i f)
  | 2 => .inr (.inl (mL M t i f))
  | 3 => .inr (.inr (tg, mF M t i f))
  | _ => .inr (.inr (tg, zrg (mR M) rg))
theorem zfv_of {ρ : Nat → Nat → Nat} {M : ZM} {t i f pl tg rg : Nat} (h : zfp t f = (pl, tg, rg)) (hp : pl = 0 ∨ pl = 1 ∨ pl = 2 ∨ pl = 3 ∨ pl = 4) : zfv ρ M t i f = zcv ρ (zgV M t i f pl tg rg) := by
  have h1 : (zfp t f).1 = pl := by rw [h]
  have h2 : (zfp t f).2.1 = tg := by rw [h]
  have h3 : (zfp t f).2.2 = rg := by rw [h]
  unfold zfv
  rw [h1, h2, h3]
  rcases hp with rfl | rfl | rfl | rfl | rfl <;> rfl
theorem zHp_ce {ρ : Nat → Nat → Nat} {M : ZM} {H H1 : Heap} {n : Nat} (hH : zHp ρ dC dI aC M H) (hq : ∀ q, q < H.size → H1[q]? = H[q]?) : zHp ρ dC dI aC (pCe M n) H1 := by
  intro t i hm hi
  obtain ⟨a, b⟩ := hH t i hm hi
  refine ⟨fun z => ?_, fun z => ?_⟩
  · obtain ⟨cell, k1, k2, k3, k4⟩ := a z
    exact ⟨cell, by rw [hq _ (Array.getElem?_eq_some_iff.mp k1).1]; exact k1, k2, k3, k4⟩
  · rw [hq _ (Array.getElem?_eq_some_iff.mp (b z)).1]
    exact b z
theorem zlv1 {ls : ZL} {M : ZM} {i : Nat} {x : ZV} (hlv : ∀ i v, znt ls i = some v → zvl M v) (hx0 : zvl M x) : ∀ j v, znt (zse (zcl ls i) i (some x)) j = some v → zvl M v := by
  intro j v hj
  rcases znt_se _ _ _ _ _ hj with ⟨_, e⟩ | ⟨_, e⟩
  · cases e; exact hx0
  · exact hlv _ _ (znt_cl e).1
theorem zlv2 {ls : ZL} {M : ZM} {i : Nat} {x : ZV} (hlv : ∀ i v, znt ls i = some v → zvl M v) (hx0 : zvl M x) : ∀ j v, znt (zse (zse (zcl ls i) i (some x)) (i + 1) none) j = some v → zvl M v := by
  intro j v hj
  rcases znt_se _ _ _ _ _ hj with ⟨_, e⟩ | ⟨_, e⟩
  · cases e
  · exact zlv1 hlv hx0 j v e
set_option maxHeartbeats 8000000 in
set_option maxRecDepth 20000 in
theorem zsnd_step (hck : ∀ (mi : Nat) (tab : ZT) (nl : Nat), zG mi = some (tab, nl) → zckm mi tab nl = true) (h4 : zR4 l B sl sx) (h5 : hl = true → zR5 l dC dI aC B sl sx) {n : Nat} (ih : zSnd l dC dI aC B sl sx hl n) : zSnd l dC dI aC B sl sx hl (n + 1) := by
  intro d tab pc ls st M rr M' h p e s m args below meth c R H locs lsC ρ ρ0 M0 y cc nl ret Q sp hF hd5 hsp hT hctx hag hmo hR hret
  obtain ⟨hx, hb, hml, hown, hts, hini⟩ := id hF
  have hFr := hF
  obtain ⟨hH, hW, hk, hc, hs, hL, hlv, hsv, hB, hS⟩ := hctx
  unfold zex at h
  cases hfd : zfd tab pc with
  | none => rw [hfd] at h; cases h
  | some q =>
    rw [hfd] at h
    have hokq1 := List.all_eq_true.mp hT (pc, q) (zfd_mem hfd)
    rcases zor2 hokq1 with hstop | hokq0
    · have hi := hsp (pc, q) (zfd_mem hfd) hstop
      obtain ⟨ins, len, ax, cv⟩ := q
      change ins = .return_ at hi
      subst hi
      cases st with
      | nil =>
        cases h
        exact (hret pc ρ H locs lsC hH hW hk hag hS).2 hstop rfl hL.1
      | cons _ _ => cases h
    clear hokq1
    obtain ⟨hokq, hokr⟩ := zand2 hokq0
    obtain ⟨hdg0, hok⟩ := zand2 hokq
    have hdg := of_decide_eq_true hdg0
    clear hokq0 hokq hdg0
    obtain ⟨ins, len, ax, cv⟩ := q
    cases ins
    case iload i => 
      have hlen := Nat.eq_of_beq_eq_true hok; subst hlen
      cases hv : znt ls i with
      | none => simp only [zst, hv, zld] at h; cases h
      | some v =>
        rcases v with x | x | x <;> simp only [zst, hv, zld] at h <;> first | (cases h; done) | skip
        refine lv_iload hx hb hdg (hL.2.2 _ _ hv) ?_
        exact ih h hF hd5 hsp hT ⟨hH, hW, hk, hc, hs, hL, hlv, List.forall_mem_cons.mpr ⟨hlv _ _ hv, hsv⟩, hB, hS⟩ hag hmo hR hret
    case iload_n i => 
      have hlen := Nat.eq_of_beq_eq_true hok; subst hlen
      cases hv : znt ls i with
      | none => simp only [zst, hv, zld] at h; cases h
      | some v =>
        rcases v with x | x | x <;> simp only [zst, hv, zld] at h <;> first | (cases h; done) | skip
        refine lv_iload_n hx hb hdg rfl (hL.2.2 _ _ hv) ?_
        exact ih h hF hd5 hsp hT ⟨hH, hW, hk, hc, hs, hL, hlv, List.forall_mem_cons.mpr ⟨hlv _ _ hv, hsv⟩, hB, hS⟩ hag hmo hR hret
    case lload i => 
      have hlen := Nat.eq_of_beq_eq_true hok; subst hlen
      cases hv : znt ls i with
      | none => simp only [zst, hv, zld] at h; cases h
      | some v =>
        rcases v with x | x | x <;> simp only [zst, hv, zld] at h <;> first | (cases h; done) | skip
        refine lv_lload hx hb hdg (hL.2.2 _ _ hv) ?_
        exact ih h hF hd5 hsp hT ⟨hH, hW, hk, hc, hs, hL, hlv, List.forall_mem_cons.mpr ⟨hlv _ _ hv, hsv⟩, hB, hS⟩ hag hmo hR hret
    case lload_n i => 
      have hlen := Nat.eq_of_beq_eq_true hok; subst hlen
      cases hv : znt ls i with
      | none => simp only [zst, hv, zld] at h; cases h
      | some v =>
        rcases v with x | x | x <;> simp only [zst, hv, zld] at h <;> first | (cases h; done) | skip
        refine lv_lload_n hx hb hdg rfl (hL.2.2 _ _ hv) ?_
        exact ih h hF hd5 hsp hT ⟨hH, hW, hk, hc, hs, hL, hlv, List.forall_mem_cons.mpr ⟨hlv _ _ hv, hsv⟩, hB, hS⟩ hag hmo hR hret
    case aload i => 
      have hlen := Nat.eq_of_beq_eq_true hok; subst hlen
      cases hv : znt ls i with
      | none => simp only [zst, hv, zld] at h; cases h
      | some v =>
        rcases v with x | x | ⟨t, o⟩ <;> simp only [zst, hv, zld] at h <;> first | (cases h; done) | skip
        cases o with
        | none =>
          refine lv_aloadN hx hb hdg (hL.2.2 _ _ hv) ?_
          exact ih h hF hd5 hsp hT ⟨hH, hW, hk, hc, hs, hL, hlv, List.forall_mem_cons.mpr ⟨hlv _ _ hv, hsv⟩, hB, hS⟩ hag hmo hR hret
        | some a =>
          refine lv_aload hx hb hdg (hL.2.2 _ _ hv) ?_
          exact ih h hF hd5 hsp hT ⟨hH, hW, hk, hc, hs, hL, hlv, List.forall_mem_cons.mpr ⟨hlv _ _ hv, hsv⟩, hB, hS⟩ hag hmo hR hret
    case aload_n i => 
      have hlen := Nat.eq_of_beq_eq_true hok; subst hlen
      cases hv : znt ls i with
      | none => simp only [zst, hv, zld] at h; cases h
      | some v =>
        rcases v with x | x | ⟨t, o⟩ <;> simp only [zst, hv, zld] at h <;> first | (cases h; done) | skip
        cases o with
        | none =>
          refine lv_aload_nN hx hb hdg rfl (hL.2.2 _ _ hv) ?_
          exact ih h hF hd5 hsp hT ⟨hH, hW, hk, hc, hs, hL, hlv, List.forall_mem_cons.mpr ⟨hlv _ _ hv, hsv⟩, hB, hS⟩ hag hmo hR hret
        | some a =>
          refine lv_aload_n hx hb hdg rfl (hL.2.2 _ _ hv) ?_
          exact ih h hF hd5 hsp hT ⟨hH, hW, hk, hc, hs, hL, hlv, List.forall_mem_cons.mpr ⟨hlv _ _ hv, hsv⟩, hB, hS⟩ hag hmo hR hret
    case istore i => 
      replace hok := zand2 hok; obtain ⟨hlen, hok⟩ := hok; have hlen := Nat.eq_of_beq_eq_true hlen; subst hlen; have hok := Nat.le_of_ble_eq_true hok
      rcases st with _ | ⟨x | x | x, r⟩ <;> first | (cases h; done) | skip
      replace hsv := List.forall_mem_cons.mp hsv; obtain ⟨hx0, hsv⟩ := hsv
      refine lv_istore hx hb hdg hL.has hok rfl (fun lsC2 hL2 => ?_)
      exact ih h hF hd5 hsp hT ⟨hH, hW, hk, hc, hs, zLR_s1 (x := .inl x) hL2, zlv1 hlv hx0, hsv, hB, hS⟩ hag hmo hR hret
    case lstore i => 
      replace hok := zand2 hok; obtain ⟨hlen, hok⟩ := hok; have hlen := Nat.eq_of_beq_eq_true hlen; subst hlen; have hok := Nat.le_of_ble_eq_true hok
      rcases st with _ | ⟨x | x | x, r⟩ <;> first | (cases h; done) | skip
      replace hsv := List.forall_mem_cons.mp hsv; obtain ⟨hx0, hsv⟩ := hsv
      refine lv_lstore hx hb hdg hL.has hok rfl (fun lsC2 hL2 => ?_)
      exact ih h hF hd5 hsp hT ⟨hH, hW, hk, hc, hs, zLR_s2 (x := .inr (.inl x)) hL2, zlv2 hlv hx0, hsv, hB, hS⟩ hag hmo hR hret
    case astore i => 
      replace hok := zand2 hok; obtain ⟨hlen, hok⟩ := hok; have hlen := Nat.eq_of_beq_eq_true hlen; subst hlen; have hok := Nat.le_of_ble_eq_true hok
      rcases st with _ | ⟨x | x | ⟨t, o⟩, r⟩ <;> first | (cases h; done) | skip
      replace hsv := List.forall_mem_cons.mp hsv; obtain ⟨hx0, hsv⟩ := hsv
      cases o with
      | none =>
        refine lv_astoreN hx hb hdg hL.has hok rfl (fun lsC2 hL2 => ?_)
        exact ih h hF hd5 hsp hT ⟨hH, hW, hk, hc, hs, zLR_s1 (x := .inr (.inr (t, none))) hL2, zlv1 hlv hx0, hsv, hB, hS⟩ hag hmo hR hret
      | some a =>
        refine lv_astore hx hb hdg hL.has hok rfl (fun lsC2 hL2 => ?_)
        exact ih h hF hd5 hsp hT ⟨hH, hW, hk, hc, hs, zLR_s1 (x := .inr (.inr (t, some a))) hL2, zlv1 hlv hx0, hsv, hB, hS⟩ hag hmo hR hret
    case istore_n i => 
      replace hok := zand2 hok; obtain ⟨hlen, hok⟩ := hok; have hlen := Nat.eq_of_beq_eq_true hlen; subst hlen; have hok := Nat.le_of_ble_eq_true hok
      rcases st with _ | ⟨x | x | x, r⟩ <;> first | (cases h; done) | skip
      replace hsv := List.forall_mem_cons.mp hsv; obtain ⟨hx0, hsv⟩ := hsv
      refine lv_istore_n hx hb hdg rfl hL.has hok rfl (fun lsC2 hL2 => ?_)
      exact ih h hF hd5 hsp hT ⟨hH, hW, hk, hc, hs, zLR_s1 (x := .inl x) hL2, zlv1 hlv hx0, hsv, hB, hS⟩ hag hmo hR hret
    case lstore_n i => 
      replace hok := zand2 hok; obtain ⟨hlen, hok⟩ := hok; have hlen := Nat.eq_of_beq_eq_true hlen; subst hlen; have hok := Nat.le_of_ble_eq_true hok
      rcases st with _ | ⟨x | x | x, r⟩ <;> first | (cases h; done) | skip
      replace hsv := List.forall_mem_cons.mp hsv; obtain ⟨hx0, hsv⟩ := hsv
      refine lv_lstore_n hx hb hdg rfl hL.has hok rfl (fun lsC2 hL2 => ?_)
      exact ih h hF hd5 hsp hT ⟨hH, hW, hk, hc, hs, zLR_s2 (x := .inr (.inl x)) hL2, zlv2 hlv hx0, hsv, hB, hS⟩ hag hmo hR hret
    case astore_n i => 
      replace hok := zand2 hok; obtain ⟨hlen, hok⟩ := hok; have hlen := Nat.eq_of_beq_eq_true hlen; subst hlen; have hok := Nat.le_of_ble_eq_true hok
      rcases st with _ | ⟨x | x | ⟨t, o⟩, r⟩ <;> first | (cases h; done) | skip
      replace hsv := List.forall_mem_cons.mp hsv; obtain ⟨hx0, hsv⟩ := hsv
      cases o with
      | none =>
        refine lv_astore_nN hx hb hdg rfl hL.has hok rfl (fun lsC2 hL2 => ?_)
        exact ih h hF hd5 hsp hT ⟨hH, hW, hk, hc, hs, zLR_s1 (x := .inr (.inr (t, none))) hL2, zlv1 hlv hx0, hsv, hB, hS⟩ hag hmo hR hret
      | some a =>
        refine lv_astore_n hx hb hdg rfl hL.has hok rfl (fun lsC2 hL2 => ?_)
        exact ih h hF hd5 hsp hT ⟨hH, hW, hk, hc, hs, zLR_s1 (x := .inr (.inr (t, some a))) hL2, zlv1 hlv hx0, hsv, hB, hS⟩ hag hmo hR hret
    case iinc i n => 
      replace hok := zand2 hok; obtain ⟨hok, hn32⟩ := hok
      replace hok := zand2 hok; obtain ⟨hlen, hok⟩ := hok; have hlen := Nat.eq_of_beq_eq_true hlen; subst hlen; have hok := Nat.le_of_ble_eq_true hok
      cases hv : znt ls i with
      | none => simp only [zst, hv, zld] at h; cases h
      | some v =>
        rcases v with x | x | x <;> simp only [zst, hv, zld] at h <;> first | (cases h; done) | skip
        obtain ⟨kx, hkx⟩ := List.getElem?_of_mem (zal_mem (ρ := ρ) (i := 0) hv)
        rw [Nat.zero_add] at hkx
        refine lv_iinc (v := Int32.ofInt (z32 (x + n))) hx hb hdg hL.has hkx (zn_add x n) hok rfl (fun lsC2 hL2 => ?_)
        exact ih h hF hd5 hsp hT ⟨hH, hW, hk, hc, hs, zLR_inc (x := z32 (x + n)) hL hv hL2, zlv3 hlv (z32_r _), hsv, hB, hS⟩ hag hmo hR hret
    case iconst n => 
      replace hok := zand2 hok; obtain ⟨hlen, hok⟩ := hok; have hlen := Nat.eq_of_beq_eq_true hlen; subst hlen
      refine lv_iconst hx hb hdg rfl ?_
      exact ih h hF hd5 hsp hT ⟨hH, hW, hk, hc, hs, hL, hlv, List.forall_mem_cons.mpr ⟨zr32_b hok, hsv⟩, hB, hS⟩ hag hmo hR hret
    case bipush n => 
      replace hok := zand2 hok; obtain ⟨hok, hcst⟩ := hok
      replace hok := zand2 hok; obtain ⟨hlen, hok⟩ := hok; have hlen := Nat.eq_of_beq_eq_true hlen; subst hlen
      refine lv_bipush hx hb hdg (of_decide_eq_true hcst) ?_
      exact ih h hF hd5 hsp hT ⟨hH, hW, hk, hc, hs, hL, hlv, List.forall_mem_cons.mpr ⟨zr32_b hok, hsv⟩, hB, hS⟩ hag hmo hR hret
    case sipush n => 
      replace hok := zand2 hok; obtain ⟨hok, hcst⟩ := hok
      replace hok := zand2 hok; obtain ⟨hlen, hok⟩ := hok; have hlen := Nat.eq_of_beq_eq_true hlen; subst hlen
      refine lv_sipush hx hb hdg (of_decide_eq_true hcst) ?_
      exact ih h hF hd5 hsp hT ⟨hH, hW, hk, hc, hs, hL, hlv, List.forall_mem_cons.mpr ⟨zr32_b hok, hsv⟩, hB, hS⟩ hag hmo hR hret
    case lconst n => 
      have hlen := Nat.eq_of_beq_eq_true hok; subst hlen
      refine lv_lconst hx hb hdg rfl ?_
      exact ih h hF hd5 hsp hT ⟨hH, hW, hk, hc, hs, hL, hlv, List.forall_mem_cons.mpr ⟨zr64_fin n, hsv⟩, hB, hS⟩ hag hmo hR hret
    case ldc idx => 
      rcases cv with _ | ⟨x, cv⟩
      · cases h
      replace hok := zand2 hok; obtain ⟨hok, hcst⟩ := hok
      replace hok := zand2 hok; obtain ⟨hlen, hok⟩ := hok; have hlen := Nat.eq_of_beq_eq_true hlen; subst hlen
      refine lv_ldc hx hb hown (hts _ (zlk_m hcst)) hdg ?_
      exact ih h hF hd5 hsp hT ⟨hH, hW, hk, hc, hs, hL, hlv, List.forall_mem_cons.mpr ⟨zr32_b hok, hsv⟩, hB, hS⟩ hag hmo hR hret
    case ldc_w idx => 
      rcases cv with _ | ⟨x, cv⟩
      · cases h
      replace hok := zand2 hok; obtain ⟨hok, hcst⟩ := hok
      replace hok := zand2 hok; obtain ⟨hlen, hok⟩ := hok; have hlen := Nat.eq_of_beq_eq_true hlen; subst hlen
      refine lv_ldcw hx hb hown (hts _ (zlk_m hcst)) hdg ?_
      exact ih h hF hd5 hsp hT ⟨hH, hW, hk, hc, hs, hL, hlv, List.forall_mem_cons.mpr ⟨zr32_b hok, hsv⟩, hB, hS⟩ hag hmo hR hret
    case ldc2_w idx => 
      rcases cv with _ | ⟨x, cv⟩
      · cases h
      replace hok := zand2 hok; obtain ⟨hok, hcst⟩ := hok
      replace hok := zand2 hok; obtain ⟨hlen, hok⟩ := hok; have hlen := Nat.eq_of_beq_eq_true hlen; subst hlen
      refine lv_ldc2 hx hb hown (hts _ (zlk_m hcst)) hdg ?_
      exact ih h hF hd5 hsp hT ⟨hH, hW, hk, hc, hs, hL, hlv, List.forall_mem_cons.mpr ⟨zr64_b hok, hsv⟩, hB, hS⟩ hag hmo hR hret
    case aconst_null => 
      have hlen := Nat.eq_of_beq_eq_true hok; subst hlen
      refine lv_null hx hb hdg ?_
      exact ih h hF hd5 hsp hT ⟨hH, hW, hk, hc, hs, hL, hlv, List.forall_mem_cons.mpr ⟨(fun i hi => by cases hi), hsv⟩, hB, hS⟩ hag hmo hR hret
    case iadd => 
      have hlen := Nat.eq_of_beq_eq_true hok; subst hlen
      rcases st with _ | ⟨y | y | y, _ | ⟨x | x | x, r⟩⟩ <;> first | (cases h; done) | skip
      replace hsv := List.forall_mem_cons.mp hsv; obtain ⟨hy, hsv⟩ := hsv
      replace hsv := List.forall_mem_cons.mp hsv; obtain ⟨hx1, hsv⟩ := hsv
      refine lv_iadd hx hb hdg ?_
      rw [zn_add]
      exact ih h hF hd5 hsp hT ⟨hH, hW, hk, hc, hs, hL, hlv, List.forall_mem_cons.mpr ⟨z32_r _, hsv⟩, hB, hS⟩ hag hmo hR hret
    case isub => 
      have hlen := Nat.eq_of_beq_eq_true hok; subst hlen
      rcases st with _ | ⟨y | y | y, _ | ⟨x | x | x, r⟩⟩ <;> first | (cases h; done) | skip
      replace hsv := List.forall_mem_cons.mp hsv; obtain ⟨hy, hsv⟩ := hsv
      replace hsv := List.forall_mem_cons.mp hsv; obtain ⟨hx1, hsv⟩ := hsv
      refine lv_isub hx hb hdg ?_
      rw [zn_sub]
      exact ih h hF hd5 hsp hT ⟨hH, hW, hk, hc, hs, hL, hlv, List.forall_mem_cons.mpr ⟨z32_r _, hsv⟩, hB, hS⟩ hag hmo hR hret
    case imul => 
      have hlen := Nat.eq_of_beq_eq_true hok; subst hlen
      rcases st with _ | ⟨y | y | y, _ | ⟨x | x | x, r⟩⟩ <;> first | (cases h; done) | skip
      replace hsv := List.forall_mem_cons.mp hsv; obtain ⟨hy, hsv⟩ := hsv
      replace hsv := List.forall_mem_cons.mp hsv; obtain ⟨hx1, hsv⟩ := hsv
      refine lv_imul hx hb hdg ?_
      rw [zn_mul]
      exact ih h hF hd5 hsp hT ⟨hH, hW, hk, hc, hs, hL, hlv, List.forall_mem_cons.mpr ⟨z32_r _, hsv⟩, hB, hS⟩ hag hmo hR hret
    case iand => 
      have hlen := Nat.eq_of_beq_eq_true hok; subst hlen
      rcases st with _ | ⟨y | y | y, _ | ⟨x | x | x, r⟩⟩ <;> first | (cases h; done) | skip
      replace hsv := List.forall_mem_cons.mp hsv; obtain ⟨hy, hsv⟩ := hsv
      replace hsv := List.forall_mem_cons.mp hsv; obtain ⟨hx1, hsv⟩ := hsv
      refine lv_iand hx hb hdg ?_
      rw [zn_and]
      exact ih h hF hd5 hsp hT ⟨hH, hW, hk, hc, hs, hL, hlv, List.forall_mem_cons.mpr ⟨zr32_of _, hsv⟩, hB, hS⟩ hag hmo hR hret
    case ior => 
      have hlen := Nat.eq_of_beq_eq_true hok; subst hlen
      rcases st with _ | ⟨y | y | y, _ | ⟨x | x | x, r⟩⟩ <;> first | (cases h; done) | skip
      replace hsv := List.forall_mem_cons.mp hsv; obtain ⟨hy, hsv⟩ := hsv
      replace hsv := List.forall_mem_cons.mp hsv; obtain ⟨hx1, hsv⟩ := hsv
      refine lv_ior hx hb hdg ?_
      rw [zn_or]
      exact ih h hF hd5 hsp hT ⟨hH, hW, hk, hc, hs, hL, hlv, List.forall_mem_cons.mpr ⟨zr32_of _, hsv⟩, hB, hS⟩ hag hmo hR hret
    case ixor => 
      have hlen := Nat.eq_of_beq_eq_true hok; subst hlen
      rcases st with _ | ⟨y | y | y, _ | ⟨x | x | x, r⟩⟩ <;> first | (cases h; done) | skip
      replace hsv := List.forall_mem_cons.mp hsv; obtain ⟨hy, hsv⟩ := hsv
      replace hsv := List.forall_mem_cons.mp hsv; obtain ⟨hx1, hsv⟩ := hsv
      refine lv_ixor hx hb hdg ?_
      rw [zn_xor]
      exact ih h hF hd5 hsp hT ⟨hH, hW, hk, hc, hs, hL, hlv, List.forall_mem_cons.mpr ⟨zr32_of _, hsv⟩, hB, hS⟩ hag hmo hR hret
    case ishl => 
      have hlen := Nat.eq_of_beq_eq_true hok; subst hlen
      rcases st with _ | ⟨y | y | y, _ | ⟨x | x | x, r⟩⟩ <;> first | (cases h; done) | skip
      replace hsv := List.forall_mem_cons.mp hsv; obtain ⟨hy, hsv⟩ := hsv
      replace hsv := List.forall_mem_cons.mp hsv; obtain ⟨hx1, hsv⟩ := hsv
      refine lv_ishl hx hb hdg ?_
      rw [zn_shl]
      exact ih h hF hd5 hsp hT ⟨hH, hW, hk, hc, hs, hL, hlv, List.forall_mem_cons.mpr ⟨zr32_of _, hsv⟩, hB, hS⟩ hag hmo hR hret
    case ishr => 
      have hlen := Nat.eq_of_beq_eq_true hok; subst hlen
      rcases st with _ | ⟨y | y | y, _ | ⟨x | x | x, r⟩⟩ <;> first | (cases h; done) | skip
      replace hsv := List.forall_mem_cons.mp hsv; obtain ⟨hy, hsv⟩ := hsv
      replace hsv := List.forall_mem_cons.mp hsv; obtain ⟨hx1, hsv⟩ := hsv
      refine lv_ishr hx hb hdg ?_
      rw [zn_shr]
      exact ih h hF hd5 hsp hT ⟨hH, hW, hk, hc, hs, hL, hlv, List.forall_mem_cons.mpr ⟨zr32_of _, hsv⟩, hB, hS⟩ hag hmo hR hret
    case ladd => 
      have hlen := Nat.eq_of_beq_eq_true hok; subst hlen
      rcases st with _ | ⟨y | y | y, _ | ⟨x | x | x, r⟩⟩ <;> first | (cases h; done) | skip
      replace hsv := List.forall_mem_cons.mp hsv; obtain ⟨hy, hsv⟩ := hsv
      replace hsv := List.forall_mem_cons.mp hsv; obtain ⟨hx1, hsv⟩ := hsv
      refine lv_ladd hx hb hdg ?_
      rw [zl_add]
      exact ih h hF hd5 hsp hT ⟨hH, hW, hk, hc, hs, hL, hlv, List.forall_mem_cons.mpr ⟨z64_r _, hsv⟩, hB, hS⟩ hag hmo hR hret
    case lsub => 
      have hlen := Nat.eq_of_beq_eq_true hok; subst hlen
      rcases st with _ | ⟨y | y | y, _ | ⟨x | x | x, r⟩⟩ <;> first | (cases h; done) | skip
      replace hsv := List.forall_mem_cons.mp hsv; obtain ⟨hy, hsv⟩ := hsv
      replace hsv := List.forall_mem_cons.mp hsv; obtain ⟨hx1, hsv⟩ := hsv
      refine lv_lsub hx hb hdg ?_
      rw [zl_sub]
      exact ih h hF hd5 hsp hT ⟨hH, hW, hk, hc, hs, hL, hlv, List.forall_mem_cons.mpr ⟨z64_r _, hsv⟩, hB, hS⟩ hag hmo hR hret
    case lmul => 
      have hlen := Nat.eq_of_beq_eq_true hok; subst hlen
      rcases st with _ | ⟨y | y | y, _ | ⟨x | x | x, r⟩⟩ <;> first | (cases h; done) | skip
      replace hsv := List.forall_mem_cons.mp hsv; obtain ⟨hy, hsv⟩ := hsv
      replace hsv := List.forall_mem_cons.mp hsv; obtain ⟨hx1, hsv⟩ := hsv
      refine lv_lmul hx hb hdg ?_
      rw [zl_mul]
      exact ih h hF hd5 hsp hT ⟨hH, hW, hk, hc, hs, hL, hlv, List.forall_mem_cons.mpr ⟨z64_r _, hsv⟩, hB, hS⟩ hag hmo hR hret
    case land => 
      have hlen := Nat.eq_of_beq_eq_true hok; subst hlen
      rcases st with _ | ⟨y | y | y, _ | ⟨x | x | x, r⟩⟩ <;> first | (cases h; done) | skip
      replace hsv := List.forall_mem_cons.mp hsv; obtain ⟨hy, hsv⟩ := hsv
      replace hsv := List.forall_mem_cons.mp hsv; obtain ⟨hx1, hsv⟩ := hsv
      refine lv_land hx hb hdg ?_
      rw [zl_and]
      exact ih h hF hd5 hsp hT ⟨hH, hW, hk, hc, hs, hL, hlv, List.forall_mem_cons.mpr ⟨zr64_of _, hsv⟩, hB, hS⟩ hag hmo hR hret
    case lor => 
      have hlen := Nat.eq_of_beq_eq_true hok; subst hlen
      rcases st with _ | ⟨y | y | y, _ | ⟨x | x | x, r⟩⟩ <;> first | (cases h; done) | skip
      replace hsv := List.forall_mem_cons.mp hsv; obtain ⟨hy, hsv⟩ := hsv
      replace hsv := List.forall_mem_cons.mp hsv; obtain ⟨hx1, hsv⟩ := hsv
      refine lv_lor hx hb hdg ?_
      rw [zl_or]
      exact ih h hF hd5 hsp hT ⟨hH, hW, hk, hc, hs, hL, hlv, List.forall_mem_cons.mpr ⟨zr64_of _, hsv⟩, hB, hS⟩ hag hmo hR hret
    case lshl => 
      have hlen := Nat.eq_of_beq_eq_true hok; subst hlen
      rcases st with _ | ⟨y | y | y, _ | ⟨x | x | x, r⟩⟩ <;> first | (cases h; done) | skip
      replace hsv := List.forall_mem_cons.mp hsv; obtain ⟨hy, hsv⟩ := hsv
      replace hsv := List.forall_mem_cons.mp hsv; obtain ⟨hx1, hsv⟩ := hsv
      refine lv_lshl hx hb hdg (zl_shl x y) ?_
      exact ih h hF hd5 hsp hT ⟨hH, hW, hk, hc, hs, hL, hlv, List.forall_mem_cons.mpr ⟨zr64_of _, hsv⟩, hB, hS⟩ hag hmo hR hret
    case lushr => 
      have hlen := Nat.eq_of_beq_eq_true hok; subst hlen
      rcases st with _ | ⟨y | y | y, _ | ⟨x | x | x, r⟩⟩ <;> first | (cases h; done) | skip
      replace hsv := List.forall_mem_cons.mp hsv; obtain ⟨hy, hsv⟩ := hsv
      replace hsv := List.forall_mem_cons.mp hsv; obtain ⟨hx1, hsv⟩ := hsv
      refine lv_lushr hx hb hdg (zl_ushr x y) ?_
      exact ih h hF hd5 hsp hT ⟨hH, hW, hk, hc, hs, hL, hlv, List.forall_mem_cons.mpr ⟨zr64_of _, hsv⟩, hB, hS⟩ hag hmo hR hret
    case lcmp => 
      have hlen := Nat.eq_of_beq_eq_true hok; subst hlen
      rcases st with _ | ⟨y | y | y, _ | ⟨x | x | x, r⟩⟩ <;> first | (cases h; done) | skip
      replace hsv := List.forall_mem_cons.mp hsv; obtain ⟨hy, hsv⟩ := hsv
      replace hsv := List.forall_mem_cons.mp hsv; obtain ⟨hx1, hsv⟩ := hsv
      refine W.lcmp hx hb hdg ?_
      rw [zl_cmp hx1 hy]
      exact ih h hF hd5 hsp hT ⟨hH, hW, hk, hc, hs, hL, hlv, List.forall_mem_cons.mpr ⟨zl_cmp_r _ _, hsv⟩, hB, hS⟩ hag hmo hR hret
    case idiv => 
      have hlen := Nat.eq_of_beq_eq_true hok; subst hlen
      rcases st with _ | ⟨y | y | y, _ | ⟨x | x | x, r⟩⟩ <;> first | (cases h; done) | skip
      replace hsv := List.forall_mem_cons.mp hsv; obtain ⟨hy, hsv⟩ := hsv
      replace hsv := List.forall_mem_cons.mp hsv; obtain ⟨hx1, hsv⟩ := hsv
      replace h := zgn h; obtain ⟨hne, h⟩ := h
      refine lv_idiv hx hb hdg (fun z => hne ((zn_0 hy).mp z)) ?_
      rw [zn_div hx1 hy]
      exact ih h hF hd5 hsp hT ⟨hH, hW, hk, hc, hs, hL, hlv, List.forall_mem_cons.mpr ⟨z32_r _, hsv⟩, hB, hS⟩ hag hmo hR hret
    case irem => 
      have hlen := Nat.eq_of_beq_eq_true hok; subst hlen
      rcases st with _ | ⟨y | y | y, _ | ⟨x | x | x, r⟩⟩ <;> first | (cases h; done) | skip
      replace hsv := List.forall_mem_cons.mp hsv; obtain ⟨hy, hsv⟩ := hsv
      replace hsv := List.forall_mem_cons.mp hsv; obtain ⟨hx1, hsv⟩ := hsv
      replace h := zgn h; obtain ⟨hne, h⟩ := h
      refine lv_irem hx hb hdg (fun z => hne ((zn_0 hy).mp z)) ?_
      rw [zn_rem hx1 hy]
      exact ih h hF hd5 hsp hT ⟨hH, hW, hk, hc, hs, hL, hlv, List.forall_mem_cons.mpr ⟨zn_tm hx1, hsv⟩, hB, hS⟩ hag hmo hR hret
    case ldiv => 
      have hlen := Nat.eq_of_beq_eq_true hok; subst hlen
      rcases st with _ | ⟨y | y | y, _ | ⟨x | x | x, r⟩⟩ <;> first | (cases h; done) | skip
      replace hsv := List.forall_mem_cons.mp hsv; obtain ⟨hy, hsv⟩ := hsv
      replace hsv := List.forall_mem_cons.mp hsv; obtain ⟨hx1, hsv⟩ := hsv
      replace h := zgn h; obtain ⟨hne, h⟩ := h
      refine lv_ldiv hx hb hdg (fun z => hne ((zl_0 hy).mp z)) ?_
      rw [zl_div hx1 hy]
      exact ih h hF hd5 hsp hT ⟨hH, hW, hk, hc, hs, hL, hlv, List.forall_mem_cons.mpr ⟨z64_r _, hsv⟩, hB, hS⟩ hag hmo hR hret
    case lrem => 
      have hlen := Nat.eq_of_beq_eq_true hok; subst hlen
      rcases st with _ | ⟨y | y | y, _ | ⟨x | x | x, r⟩⟩ <;> first | (cases h; done) | skip
      replace hsv := List.forall_mem_cons.mp hsv; obtain ⟨hy, hsv⟩ := hsv
      replace hsv := List.forall_mem_cons.mp hsv; obtain ⟨hx1, hsv⟩ := hsv
      replace h := zgn h; obtain ⟨hne, h⟩ := h
      refine lv_lrem hx hb hdg (fun z => hne ((zl_0 hy).mp z)) ?_
      rw [zl_rem hx1 hy]
      exact ih h hF hd5 hsp hT ⟨hH, hW, hk, hc, hs, hL, hlv, List.forall_mem_cons.mpr ⟨zl_tm hx1, hsv⟩, hB, hS⟩ hag hmo hR hret
    case ineg => 
      have hlen := Nat.eq_of_beq_eq_true hok; subst hlen
      rcases st with _ | ⟨x | x | x, r⟩ <;> first | (cases h; done) | skip
      replace hsv := List.forall_mem_cons.mp hsv; obtain ⟨hx1, hsv⟩ := hsv
      refine lv_ineg hx hb hdg ?_
      rw [zn_neg]
      exact ih h hF hd5 hsp hT ⟨hH, hW, hk, hc, hs, hL, hlv, List.forall_mem_cons.mpr ⟨z32_r _, hsv⟩, hB, hS⟩ hag hmo hR hret
    case i2l => 
      have hlen := Nat.eq_of_beq_eq_true hok; subst hlen
      rcases st with _ | ⟨x | x | x, r⟩ <;> first | (cases h; done) | skip
      replace hsv := List.forall_mem_cons.mp hsv; obtain ⟨hx1, hsv⟩ := hsv
      refine lv_i2l hx hb hdg (zn_i2l hx1) ?_
      exact ih h hF hd5 hsp hT ⟨hH, hW, hk, hc, hs, hL, hlv, List.forall_mem_cons.mpr ⟨⟨by have := hx1.1; omega, by have := hx1.2; omega⟩, hsv⟩, hB, hS⟩ hag hmo hR hret
    case l2i => 
      have hlen := Nat.eq_of_beq_eq_true hok; subst hlen
      rcases st with _ | ⟨x | x | x, r⟩ <;> first | (cases h; done) | skip
      replace hsv := List.forall_mem_cons.mp hsv; obtain ⟨hx1, hsv⟩ := hsv
      refine lv_l2i hx hb hdg (zn_l2i hx1) ?_
      exact ih h hF hd5 hsp hT ⟨hH, hW, hk, hc, hs, hL, hlv, List.forall_mem_cons.mpr ⟨z32_r _, hsv⟩, hB, hS⟩ hag hmo hR hret
    case i2b => 
      have hlen := Nat.eq_of_beq_eq_true hok; subst hlen
      rcases st with _ | ⟨x | x | x, r⟩ <;> first | (cases h; done) | skip
      replace hsv := List.forall_mem_cons.mp hsv; obtain ⟨hx1, hsv⟩ := hsv
      refine lv_i2b hx hb hdg (zn_i2b hx1) ?_
      exact ih h hF hd5 hsp hT ⟨hH, hW, hk, hc, hs, hL, hlv, List.forall_mem_cons.mpr ⟨z_i2b_r _, hsv⟩, hB, hS⟩ hag hmo hR hret
    case dup => 
      have hlen := Nat.eq_of_beq_eq_true hok; subst hlen
      rcases st with _ | ⟨x | x | ⟨t, o⟩, r⟩ <;> first | (cases h; done) | skip
      · replace hsv := List.forall_mem_cons.mp hsv; obtain ⟨hx1, hsv⟩ := hsv
        refine lv_dup hx hb hdg rfl ?_
        exact ih h hF hd5 hsp hT ⟨hH, hW, hk, hc, hs, hL, hlv, List.forall_mem_cons.mpr ⟨hx1, List.forall_mem_cons.mpr ⟨hx1, hsv⟩⟩, hB, hS⟩ hag hmo hR hret
      · replace hsv := List.forall_mem_cons.mp hsv; obtain ⟨hx1, hsv⟩ := hsv
        refine lv_dup hx hb hdg (by cases o <;> rfl) ?_
        exact ih h hF hd5 hsp hT ⟨hH, hW, hk, hc, hs, hL, hlv, List.forall_mem_cons.mpr ⟨hx1, List.forall_mem_cons.mpr ⟨hx1, hsv⟩⟩, hB, hS⟩ hag hmo hR hret
    case pop => 
      have hlen := Nat.eq_of_beq_eq_true hok; subst hlen
      rcases st with _ | ⟨x | x | ⟨t, o⟩, r⟩ <;> first | (cases h; done) | skip
      · replace hsv := List.forall_mem_cons.mp hsv; obtain ⟨hx1, hsv⟩ := hsv
        refine lv_pop hx hb hdg rfl ?_
        exact ih h hF hd5 hsp hT ⟨hH, hW, hk, hc, hs, hL, hlv, hsv, hB, hS⟩ hag hmo hR hret
      · replace hsv := List.forall_mem_cons.mp hsv; obtain ⟨hx1, hsv⟩ := hsv
        refine lv_pop hx hb hdg (by cases o <;> rfl) ?_
        exact ih h hF hd5 hsp hT ⟨hH, hW, hk, hc, hs, hL, hlv, hsv, hB, hS⟩ hag hmo hR hret
    case dup2 => 
      have hlen := Nat.eq_of_beq_eq_true hok; subst hlen
      rcases st with _ | ⟨x | x | x, r⟩
      · cases h
      · rcases r with _ | ⟨y | y | ⟨t, o⟩, r⟩ <;> first | (cases h; done) | skip
        · replace hsv := List.forall_mem_cons.mp hsv; obtain ⟨hx1, hsv⟩ := hsv
          replace hsv := List.forall_mem_cons.mp hsv; obtain ⟨hy1, hsv⟩ := hsv
          refine lv_dup2_11 hx hb hdg rfl rfl ?_
          exact ih h hF hd5 hsp hT ⟨hH, hW, hk, hc, hs, hL, hlv, List.forall_mem_cons.mpr ⟨hx1, List.forall_mem_cons.mpr ⟨hy1, List.forall_mem_cons.mpr ⟨hx1, List.forall_mem_cons.mpr ⟨hy1, hsv⟩⟩⟩⟩, hB, hS⟩ hag hmo hR hret
        · replace hsv := List.forall_mem_cons.mp hsv; obtain ⟨hx1, hsv⟩ := hsv
          replace hsv := List.forall_mem_cons.mp hsv; obtain ⟨hy1, hsv⟩ := hsv
          refine lv_dup2_11 hx hb hdg rfl (by cases o <;> rfl) ?_
          exact ih h hF hd5 hsp hT ⟨hH, hW, hk, hc, hs, hL, hlv, List.forall_mem_cons.mpr ⟨hx1, List.forall_mem_cons.mpr ⟨hy1, List.forall_mem_cons.mpr ⟨hx1, List.forall_mem_cons.mpr ⟨hy1, hsv⟩⟩⟩⟩, hB, hS⟩ hag hmo hR hret
      · replace hsv := List.forall_mem_cons.mp hsv; obtain ⟨hx1, hsv⟩ := hsv
        refine lv_dup2_2 hx hb hdg rfl ?_
        exact ih h hF hd5 hsp hT ⟨hH, hW, hk, hc, hs, hL, hlv, List.forall_mem_cons.mpr ⟨hx1, List.forall_mem_cons.mpr ⟨hx1, hsv⟩⟩, hB, hS⟩ hag hmo hR hret
      · cases h
    case goto off => 
      replace hok := zand2 hok; obtain ⟨hlen, hok⟩ := hok; have hlen := Nat.eq_of_beq_eq_true hlen; subst hlen
      refine lv_goto hx hb hdg (of_decide_eq_true hok) ?_
      exact ih h hF hd5 hsp hT ⟨hH, hW, hk, hc, hs, hL, hlv, hsv, hB, hS⟩ hag hmo hR hret
    case ifCond cnd off => 
      replace hok := zand2 hok; obtain ⟨hlen, hok⟩ := hok; have hlen := Nat.eq_of_beq_eq_true hlen; subst hlen
      have hto := of_decide_eq_true hok
      rcases st with _ | ⟨x | x | x, r⟩ <;> first | (cases h; done) | skip
      replace hsv := List.forall_mem_cons.mp hsv; obtain ⟨hx1, hsv⟩ := hsv
      cases cnd with
      | eq => exact lv_if_eq hx hb hdg hto (fun z => by simp only [zst, zbr] at h; rw [if_pos ((zn_0 hx1).mp z)] at h; exact ih h hF hd5 hsp hT ⟨hH, hW, hk, hc, hs, hL, hlv, hsv, hB, hS⟩ hag hmo hR hret) (fun z => by simp only [zst, zbr] at h; rw [if_neg (fun w => z ((zn_0 hx1).mpr w))] at h; exact ih h hF hd5 hsp hT ⟨hH, hW, hk, hc, hs, hL, hlv, hsv, hB, hS⟩ hag hmo hR hret)
      | ne => exact lv_if_ne hx hb hdg hto (fun z => by simp only [zst, zbr] at h; rw [if_neg (fun w => z ((zn_0 hx1).mpr w))] at h; exact ih h hF hd5 hsp hT ⟨hH, hW, hk, hc, hs, hL, hlv, hsv, hB, hS⟩ hag hmo hR hret) (fun z => by simp only [zst, zbr] at h; rw [if_pos ((zn_0 hx1).mp z)] at h; exact ih h hF hd5 hsp hT ⟨hH, hW, hk, hc, hs, hL, hlv, hsv, hB, hS⟩ hag hmo hR hret)
      | lt => exact lv_if_lt hx hb hdg hto (fun z => by simp only [zst, zbr] at h; rw [if_pos ((zn_lt0 hx1).mp z)] at h; exact ih h hF hd5 hsp hT ⟨hH, hW, hk, hc, hs, hL, hlv, hsv, hB, hS⟩ hag hmo hR hret) (fun z => by simp only [zst, zbr] at h; rw [if_neg (fun w => z ((zn_lt0 hx1).mpr w))] at h; exact ih h hF hd5 hsp hT ⟨hH, hW, hk, hc, hs, hL, hlv, hsv, hB, hS⟩ hag hmo hR hret)
      | ge => exact lv_if_ge hx hb hdg hto (fun z => by simp only [zst, zbr] at h; rw [if_neg (fun w => zge0 hx1 z w)] at h; exact ih h hF hd5 hsp hT ⟨hH, hW, hk, hc, hs, hL, hlv, hsv, hB, hS⟩ hag hmo hR hret) (fun z => by simp only [zst, zbr] at h; rw [if_pos (znge0 hx1 z)] at h; exact ih h hF hd5 hsp hT ⟨hH, hW, hk, hc, hs, hL, hlv, hsv, hB, hS⟩ hag hmo hR hret)
      | gt => exact lv_if_gt hx hb hdg hto (fun z => by simp only [zst, zbr] at h; rw [if_pos (zgt0 hx1 z)] at h; exact ih h hF hd5 hsp hT ⟨hH, hW, hk, hc, hs, hL, hlv, hsv, hB, hS⟩ hag hmo hR hret) (fun z => by simp only [zst, zbr] at h; rw [if_neg (zngt0 hx1 z)] at h; exact ih h hF hd5 hsp hT ⟨hH, hW, hk, hc, hs, hL, hlv, hsv, hB, hS⟩ hag hmo hR hret)
      | le => exact lv_if_le hx hb hdg hto (fun z => by simp only [zst, zbr] at h; rw [if_neg (zle0 hx1 z)] at h; exact ih h hF hd5 hsp hT ⟨hH, hW, hk, hc, hs, hL, hlv, hsv, hB, hS⟩ hag hmo hR hret) (fun z => by simp only [zst, zbr] at h; rw [if_pos (znle0 hx1 z)] at h; exact ih h hF hd5 hsp hT ⟨hH, hW, hk, hc, hs, hL, hlv, hsv, hB, hS⟩ hag hmo hR hret)
    case if_icmp cnd off => 
      replace hok := zand2 hok; obtain ⟨hlen, hok⟩ := hok; have hlen := Nat.eq_of_beq_eq_true hlen; subst hlen
      have hto := of_decide_eq_true hok
      rcases st with _ | ⟨y | y | y, _ | ⟨x | x | x, r⟩⟩ <;> first | (cases h; done) | skip
      replace hsv := List.forall_mem_cons.mp hsv; obtain ⟨hy1, hsv⟩ := hsv
      replace hsv := List.forall_mem_cons.mp hsv; obtain ⟨hx1, hsv⟩ := hsv
      cases cnd with
      | eq => exact lv_icmp_eq hx hb hdg hto (fun z => by simp only [zst, zbr] at h; rw [if_pos ((zn_eq hx1 hy1).mp z)] at h; exact ih h hF hd5 hsp hT ⟨hH, hW, hk, hc, hs, hL, hlv, hsv, hB, hS⟩ hag hmo hR hret) (fun z => by simp only [zst, zbr] at h; rw [if_neg (fun w => z ((zn_eq hx1 hy1).mpr w))] at h; exact ih h hF hd5 hsp hT ⟨hH, hW, hk, hc, hs, hL, hlv, hsv, hB, hS⟩ hag hmo hR hret)
      | ne => exact lv_icmp_ne hx hb hdg hto (fun z => by simp only [zst, zbr] at h; rw [if_neg (fun w => z ((zn_eq hx1 hy1).mpr w))] at h; exact ih h hF hd5 hsp hT ⟨hH, hW, hk, hc, hs, hL, hlv, hsv, hB, hS⟩ hag hmo hR hret) (fun z => by simp only [zst, zbr] at h; rw [if_pos ((zn_eq hx1 hy1).mp z)] at h; exact ih h hF hd5 hsp hT ⟨hH, hW, hk, hc, hs, hL, hlv, hsv, hB, hS⟩ hag hmo hR hret)
      | lt => exact lv_icmp_lt hx hb hdg hto (fun z => by simp only [zst, zbr] at h; rw [if_pos ((zn_lt hx1 hy1).mp z)] at h; exact ih h hF hd5 hsp hT ⟨hH, hW, hk, hc, hs, hL, hlv, hsv, hB, hS⟩ hag hmo hR hret) (fun z => by simp only [zst, zbr] at h; rw [if_neg (fun w => z ((zn_lt hx1 hy1).mpr w))] at h; exact ih h hF hd5 hsp hT ⟨hH, hW, hk, hc, hs, hL, hlv, hsv, hB, hS⟩ hag hmo hR hret)
      | ge => exact lv_icmp_ge hx hb hdg hto (fun z => by simp only [zst, zbr] at h; rw [if_neg (zge2 hx1 hy1 z)] at h; exact ih h hF hd5 hsp hT ⟨hH, hW, hk, hc, hs, hL, hlv, hsv, hB, hS⟩ hag hmo hR hret) (fun z => by simp only [zst, zbr] at h; rw [if_pos (znge2 hx1 hy1 z)] at h; exact ih h hF hd5 hsp hT ⟨hH, hW, hk, hc, hs, hL, hlv, hsv, hB, hS⟩ hag hmo hR hret)
      | gt => exact lv_icmp_gt hx hb hdg hto (fun z => by simp only [zst, zbr] at h; rw [if_pos (zgt2 hx1 hy1 z)] at h; exact ih h hF hd5 hsp hT ⟨hH, hW, hk, hc, hs, hL, hlv, hsv, hB, hS⟩ hag hmo hR hret) (fun z => by simp only [zst, zbr] at h; rw [if_neg (zngt2 hx1 hy1 z)] at h; exact ih h hF hd5 hsp hT ⟨hH, hW, hk, hc, hs, hL, hlv, hsv, hB, hS⟩ hag hmo hR hret)
      | le => exact lv_icmp_le hx hb hdg hto (fun z => by simp only [zst, zbr] at h; rw [if_neg (zle2 hx1 hy1 z)] at h; exact ih h hF hd5 hsp hT ⟨hH, hW, hk, hc, hs, hL, hlv, hsv, hB, hS⟩ hag hmo hR hret) (fun z => by simp only [zst, zbr] at h; rw [if_pos (znle2 hx1 hy1 z)] at h; exact ih h hF hd5 hsp hT ⟨hH, hW, hk, hc, hs, hL, hlv, hsv, hB, hS⟩ hag hmo hR hret)
    case if_acmp cnd off => 
      replace hok := zand2 hok; obtain ⟨hlen, hok⟩ := hok; have hlen := Nat.eq_of_beq_eq_true hlen; subst hlen
      have hto := of_decide_eq_true hok
      rcases st with _ | ⟨y | y | ⟨t1, y⟩, _ | ⟨x | x | ⟨t2, x⟩, r⟩⟩ <;> first | (cases h; done) | skip
      replace hsv := List.forall_mem_cons.mp hsv; obtain ⟨hy1, hsv⟩ := hsv
      replace hsv := List.forall_mem_cons.mp hsv; obtain ⟨hx1, hsv⟩ := hsv
      replace h := zbx h; obtain ⟨ht, h⟩ := h
      obtain ⟨ht1, ht2⟩ := zand2 ht
      have ht1 := Nat.eq_of_beq_eq_true ht1; have ht2 := Nat.eq_of_beq_eq_true ht2; subst ht1; subst ht2
      have heq : (x.map (ρ 12) = y.map (ρ 12)) ↔ x = y := zacm hW hc hx1 hy1
      cases cnd with
      | eq =>
        change (if x = y then zex zG d tab (zhd ax) ls r M n else zex zG d tab (pc + 3) ls r M n) = some (rr, M') at h
        exact lv_acmp_eq (rx := x.map (ρ 12)) (ry := y.map (ρ 12)) hx hb hdg hto (fun z => by rw [if_pos (heq.mp z)] at h; exact ih h hF hd5 hsp hT ⟨hH, hW, hk, hc, hs, hL, hlv, hsv, hB, hS⟩ hag hmo hR hret) (fun z => by rw [if_neg (fun w => z (heq.mpr w))] at h; exact ih h hF hd5 hsp hT ⟨hH, hW, hk, hc, hs, hL, hlv, hsv, hB, hS⟩ hag hmo hR hret)
      | ne =>
        change (if x = y then zex zG d tab (pc + 3) ls r M n else zex zG d tab (zhd ax) ls r M n) = some (rr, M') at h
        exact lv_acmp_ne (rx := x.map (ρ 12)) (ry := y.map (ρ 12)) hx hb hdg hto (fun z => by rw [if_neg (fun w => z (heq.mpr w))] at h; exact ih h hF hd5 hsp hT ⟨hH, hW, hk, hc, hs, hL, hlv, hsv, hB, hS⟩ hag hmo hR hret) (fun z => by rw [if_pos (heq.mp z)] at h; exact ih h hF hd5 hsp hT ⟨hH, hW, hk, hc, hs, hL, hlv, hsv, hB, hS⟩ hag hmo hR hret)
    case ifnull off => 
      replace hok := zand2 hok; obtain ⟨hlen, hok⟩ := hok; have hlen := Nat.eq_of_beq_eq_true hlen; subst hlen
      have hto := of_decide_eq_true hok
      rcases st with _ | ⟨x | x | ⟨t, _ | a⟩, r⟩ <;> first | (cases h; done) | skip
      · replace hsv := List.forall_mem_cons.mp hsv; obtain ⟨hx1, hsv⟩ := hsv
        refine lv_ifnullN hx hb hdg hto ?_
        exact ih h hF hd5 hsp hT ⟨hH, hW, hk, hc, hs, hL, hlv, hsv, hB, hS⟩ hag hmo hR hret
      · replace hsv := List.forall_mem_cons.mp hsv; obtain ⟨hx1, hsv⟩ := hsv
        refine lv_ifnull hx hb hdg ?_
        exact ih h hF hd5 hsp hT ⟨hH, hW, hk, hc, hs, hL, hlv, hsv, hB, hS⟩ hag hmo hR hret
    case ifnonnull off => 
      replace hok := zand2 hok; obtain ⟨hlen, hok⟩ := hok; have hlen := Nat.eq_of_beq_eq_true hlen; subst hlen
      have hto := of_decide_eq_true hok
      rcases st with _ | ⟨x | x | ⟨t, _ | a⟩, r⟩ <;> first | (cases h; done) | skip
      · replace hsv := List.forall_mem_cons.mp hsv; obtain ⟨hx1, hsv⟩ := hsv
        refine lv_ifnonnullN hx hb hdg ?_
        exact ih h hF hd5 hsp hT ⟨hH, hW, hk, hc, hs, hL, hlv, hsv, hB, hS⟩ hag hmo hR hret
      · replace hsv := List.forall_mem_cons.mp hsv; obtain ⟨hx1, hsv⟩ := hsv
        refine lv_ifnonnull hx hb hdg hto ?_
        exact ih h hF hd5 hsp hT ⟨hH, hW, hk, hc, hs, hL, hlv, hsv, hB, hS⟩ hag hmo hR hret
    case tableswitch dflt lo hi offs => 
      replace hok := zand2 hok; obtain ⟨hok, hhi⟩ := hok
      replace hok := zand2 hok; obtain ⟨hok, htg⟩ := hok
      obtain ⟨hdf, hcv⟩ := zand2 hok
      have hhi := of_decide_eq_true hhi
      have htg := of_decide_eq_true htg
      have hdf := of_decide_eq_true hdf
      have hcv := of_decide_eq_true hcv
      rcases st with _ | ⟨x | x | x, r⟩ <;> rcases ax with _ | ⟨d0, ts⟩ <;> first | (cases h; done) | skip
      replace hsv := List.forall_mem_cons.mp hsv; obtain ⟨hx1, hsv⟩ := hsv
      have hx2 := zr32_toInt hx1
      replace h := zswx hcv htg h; rcases h with ⟨hout, h⟩ | ⟨kk, tgt, off, hkx, hoff, htt, h⟩
      · refine lv_tableOut hx hb hdg (by rw [hx2]; exact hout.imp id (fun z => by omega)) hdf ?_
        exact ih h hF hd5 hsp hT ⟨hH, hW, hk, hc, hs, hL, hlv, hsv, hB, hS⟩ hag hmo hR hret
      · refine lv_tableIn (off := off) (tgt := tgt) hx hb hdg (by rw [hx2]; omega) (by rw [hx2]; have := (Array.getElem?_eq_some_iff.mp hoff).1; omega) (by rw [hx2, hkx, show (lo + (kk : Int) - lo).toNat = kk by omega]; exact hoff) htt ?_
        exact ih h hF hd5 hsp hT ⟨hH, hW, hk, hc, hs, hL, hlv, hsv, hB, hS⟩ hag hmo hR hret
    case ireturn => 
      have hlen := Nat.eq_of_beq_eq_true hok; subst hlen
      rcases st with _ | ⟨x | x | x, _ | ⟨y, r⟩⟩ <;> first | (cases h; done) | skip
      obtain ⟨hx1, -⟩ := List.forall_mem_cons.mp hsv
      rcases ax with _ | ⟨a, ax⟩
      · cases h
        exact ((hret pc ρ H locs lsC hH hW hk hag hS).1.2.1 x hdg hx1).1 (of_decide_eq_true hokr) rfl
      · cases h
        exact ((hret pc ρ H locs lsC hH hW hk hag hS).1.2.1 x hdg hx1).2 (of_decide_eq_true hokr) rfl
    case lreturn => 
      have hlen := Nat.eq_of_beq_eq_true hok; subst hlen
      rcases st with _ | ⟨x | x | x, _ | ⟨y, r⟩⟩ <;> first | (cases h; done) | skip
      obtain ⟨hx1, -⟩ := List.forall_mem_cons.mp hsv
      cases h
      exact (hret pc ρ H locs lsC hH hW hk hag hS).1.2.2 x hdg hx1 (of_decide_eq_true hokr) rfl
    case return_ => 
      have hlen := Nat.eq_of_beq_eq_true hok; subst hlen
      rcases st with _ | ⟨x, r⟩ <;> first | (cases h; done) | skip
      cases h
      exact (hret pc ρ H locs lsC hH hW hk hag hS).1.1 hdg (of_decide_eq_true hokr) rfl
    case getfield idx => 
      replace hok := zand2 hok; obtain ⟨hlen, hok⟩ := hok; have hlen := Nat.eq_of_beq_eq_true hlen; subst hlen
      rcases st with _ | ⟨x | x | ⟨t, _ | i⟩, r⟩ <;> first | (cases h; done) | skip
      replace hsv := List.forall_mem_cons.mp hsv; obtain ⟨hi0, hsv⟩ := hsv
      have hi : i < mC M t := hi0 i rfl
      replace h := zbx h; obtain ⟨ht, h⟩ := h
      have ht := Nat.eq_of_beq_eq_true ht
      rcases ax with _ | ⟨t', _ | ⟨f, _ | ⟨pl, _ | ⟨tg, _ | ⟨rg, _ | ⟨j, ax⟩⟩⟩⟩⟩⟩ <;> first | (cases hok; done) | skip
      change t = t' at ht
      subst ht
      replace hok := zokf_x hok
      rcases hok with ⟨heq, hok⟩ | hok
      · subst heq
        have h30 : mC M 12 = 30 := hW.2.2.2.2.2.2.2.1
        rcases zor2 hok with hok | hok
        · replace hok := zand2 hok; obtain ⟨hok, hlk⟩ := hok
          obtain ⟨e1, e2⟩ := zand2 hok
          have e1 := Nat.eq_of_beq_eq_true e1; have e2 := Nat.eq_of_beq_eq_true e2; subst e1; subst e2
          refine va_getX (N := 30) (v := fun i => .int (Int32.ofInt (zKI sx 12 i 0))) (ad := ρ 12) hx hb (fun i hi => hc.2.2.2.2.1 i hi) (by omega) hS hown (hts _ (zlk_m hlk)) (fun _ z => z) hdg ?_
          change zex zG d tab (pc + 3) ls (.inl (mKI M 12 i 0) :: r) M n = some (rr, M') at h
          rw [hk.1] at h
          exact ih h hF hd5 hsp hT ⟨hH, hW, hk, hc, hs, hL, hlv, List.forall_mem_cons.mpr ⟨by rw [← hk.1]; exact (hW.1 12 i 0).2.2.1, hsv⟩, hB, hS⟩ hag hmo hR hret
        · replace hok := zand2 hok; obtain ⟨hok, hlk⟩ := hok
          obtain ⟨e1, e2⟩ := zand2 hok
          have e1 := Nat.eq_of_beq_eq_true e1; have e2 := Nat.eq_of_beq_eq_true e2; subst e1; subst e2
          refine va_getX (N := 30) (v := fun i => .long (Int64.ofInt (zKL 12 i 1))) (ad := ρ 12) hx hb (fun i hi => hc.2.2.2.2.2.1 i hi) (by omega) hS hown (hts _ (zlk_m hlk)) (fun _ z => z) hdg ?_
          change zex zG d tab (pc + 3) ls (.inr (.inl (mKL M 12 i 1)) :: r) M n = some (rr, M') at h
          rw [hk.2.1] at h
          exact ih h hF hd5 hsp hT ⟨hH, hW, hk, hc, hs, hL, hlv, List.forall_mem_cons.mpr ⟨by rw [← hk.2.1]; exact (hW.1 12 i 1).2.2.2, hsv⟩, hB, hS⟩ hag hmo hR hret
      · skip
        replace hok := zand2 hok; obtain ⟨hok, hlk⟩ := hok
        replace hok := zand2 hok; obtain ⟨hok, hfp⟩ := hok
        obtain ⟨h12, hf⟩ := zand2 hok
        have h12 := Nat.le_of_ble_eq_true h12
        have hf := Nat.le_of_ble_eq_true hf
        have hfp := of_decide_eq_true hfp
        cases hvw : vwCl[t]? with
        | none => rw [hvw] at hlk; cases hlk
        | some q =>
          rw [hvw] at hlk
          obtain ⟨ty, hC, hpt, -⟩ := zclT hvw
          have hN : q.2.2 = znf t := hC.2.2.2.2
          have hm : zmt t = true := by simp [zmt, show t < 12 from h12]
          have hO := (hH t i hm hi).1 h12
          rw [← hN] at hO hf
          refine zw_get hx hb hts hC hown hs hO f hf (hts _ (zlk_m hlk)) hdg ?_
          have hp := hpt f hf
          rw [hfp] at hp
          have e : zfv ρ M t i f = zcv ρ (zgV M t i f pl tg rg) := zfv_of hfp (by rcases hp with ⟨z, -⟩ | ⟨z, -⟩ | ⟨z, -⟩ | ⟨z | z, -⟩ <;> simp only at z <;> omega)
          rw [e]
          have hv : zvl M (zgV M t i f pl tg rg) := by
            rcases hp with ⟨z, -⟩ | ⟨z, -⟩ | ⟨z, -⟩ | ⟨z | z, -⟩ <;> (simp only at z; subst z)
            · exact (hW.1 t i f).1
            · exact (hW.1 t i f).1
            · exact (hW.1 t i f).2.1
            · intro j hj
              have := hW.2.1 t i f j hi (.inl ⟨h12, by rw [← hN]; exact hf, by rw [hfp]⟩) hj
              unfold ztf at this
              rw [if_pos (show t < 12 from h12), hfp] at this
              exact this
            · intro j hj
              have := hW.2.2.1 rg j hj
              have h4 : (zfp t f).1 = 4 := by rw [hfp]
              rcases zfp_4 t h12 f (by rw [← hN]; exact hf) h4 with ⟨-, -, z⟩ | ⟨-, -, z⟩ | ⟨-, -, z⟩ | ⟨-, -, z⟩ <;> (rw [hfp] at z; simp only [Prod.mk.injEq] at z; obtain ⟨z1, z2⟩ := z; subst z1; subst z2; exact this)
          have h2 : zex zG d tab (pc + 3) ls ((zgV M t i f pl tg rg) :: r) M n = some (rr, M') := by
            rcases hp with ⟨z, -⟩ | ⟨z, -⟩ | ⟨z, -⟩ | ⟨z | z, -⟩ <;> (simp only at z; subst z; exact h)
          exact ih h2 hF hd5 hsp hT ⟨hH, hW, hk, hc, hs, hL, hlv, List.forall_mem_cons.mpr ⟨hv, hsv⟩, hB, hS⟩ hag hmo hR hret
    case putfield idx => 
      replace hok := zand2 hok; obtain ⟨hok, hokp⟩ := hok
      replace hok := zand2 hok; obtain ⟨hlen, hok⟩ := hok; have hlen := Nat.eq_of_beq_eq_true hlen; subst hlen
      rcases st with _ | ⟨v, _ | ⟨x | x | ⟨t, _ | i⟩, r⟩⟩ <;> first | (cases h; done) | skip
      replace hsv := List.forall_mem_cons.mp hsv; obtain ⟨hv0, hsv⟩ := hsv
      replace hsv := List.forall_mem_cons.mp hsv; obtain ⟨hi0, hsv⟩ := hsv
      have hi : i < mC M t := hi0 i rfl
      replace h := zbx h; obtain ⟨ht, h⟩ := h
      have ht := Nat.eq_of_beq_eq_true ht
      rcases ax with _ | ⟨t', _ | ⟨f, _ | ⟨pl, _ | ⟨tg, _ | ⟨rg, _ | ⟨j, ax⟩⟩⟩⟩⟩⟩ <;> first | (cases hok; done) | skip
      change t = t' at ht
      subst ht
      replace hokp := zand2 hokp; obtain ⟨h12, hokp⟩ := hokp
      have h12 := Nat.le_of_ble_eq_true h12
      replace hok := zokf_x hok
      rcases hok with ⟨heq, hok⟩ | hok
      · subst heq
        exact absurd h12 (by decide)
      · skip
        replace hok := zand2 hok; obtain ⟨hok, hlk⟩ := hok
        replace hok := zand2 hok; obtain ⟨hok, hfp⟩ := hok
        obtain ⟨-, hf⟩ := zand2 hok
        have hf := Nat.le_of_ble_eq_true hf
        have hfp := of_decide_eq_true hfp
        cases hvw : vwCl[t]? with
        | none => rw [hvw] at hlk; cases hlk
        | some q =>
          rw [hvw] at hlk hokp
          obtain ⟨ty, hC, hpt, -⟩ := zclT hvw
          have hN : q.2.2 = znf t := hC.2.2.2.2
          have hm : zmt t = true := by simp [zmt, show t < 12 from h12]
          have hO := (hH t i hm hi).1 h12
          have hfz := hf
          rw [← hN] at hO hf
          have hp := hpt f hf
          rw [hfp] at hp
          have hfin : (q.2.1 f).2.2.2 = false ∨ ((q.2.1 f).2.2.2 = true ∧ meth.name = "<init>" ∧ (q.2.1 f).1 = y.cls) := by
            cases hb2 : (q.2.1 f).2.2.2 with
            | false => exact .inl rfl
            | true =>
              simp only [hb2, Bool.not_true, Bool.false_or, Bool.and_eq_true, decide_eq_true_eq] at hokp
              exact .inr ⟨rfl, hini hokp.1, hokp.2⟩
          rcases hp with ⟨z, hty⟩ | ⟨z, hty⟩ | ⟨z, hty⟩ | ⟨z | z, hty⟩ <;> simp only at z <;> subst z
          · rcases v with x | x | x <;> first | (cases h; done) | skip
            refine zw_put hx hb hts hC hown hs hO f hf (hts _ (zlk_m hlk)) hfin (v := .int (Int32.ofInt x)) (by rw [hty]; rfl) (by rw [hty]; rfl) hdg (fun H1 z hsz hq hO1 => ?_)
            rw [hN] at hO1
            exact ih h hF hd5 hsp hT ⟨zHp_pIo hH hW.2.2.2.1 h12 hi (.inl (by rw [hfp])) hq hO1, zWf_pI hW hv0, hk, hc, hs, hL, hlv, hsv, hB, hS.put hsz hq (hW.2.2.2.2.1 t i hm hi)⟩ hag hmo hR hret
          · rcases v with x | x | x <;> first | (cases h; done) | skip
            replace h := zbx h; obtain ⟨h01, h⟩ := h
            have h01 : x = 0 ∨ x = 1 := by simpa using h01
            refine zw_put hx hb hts hC hown hs hO f hf (hts _ (zlk_m hlk)) hfin (v := .int (Int32.ofInt x)) (by rw [hty]; rcases h01 with rfl | rfl <;> rfl) (by rw [hty]; rcases h01 with rfl | rfl <;> rfl) hdg (fun H1 z hsz hq hO1 => ?_)
            rw [hN] at hO1
            exact ih h hF hd5 hsp hT ⟨zHp_pIo hH hW.2.2.2.1 h12 hi (.inr (by rw [hfp])) hq hO1, zWf_pI hW hv0, hk, hc, hs, hL, hlv, hsv, hB, hS.put hsz hq (hW.2.2.2.2.1 t i hm hi)⟩ hag hmo hR hret
          · rcases v with x | x | x <;> first | (cases h; done) | skip
            refine zw_put hx hb hts hC hown hs hO f hf (hts _ (zlk_m hlk)) hfin (v := .long (Int64.ofInt x)) (by rw [hty]; rfl) (by rw [hty]; rfl) hdg (fun H1 z hsz hq hO1 => ?_)
            rw [hN] at hO1
            exact ih h hF hd5 hsp hT ⟨zHp_pLo hH hW.2.2.2.1 h12 hi (by rw [hfp]) hq hO1, zWf_pL hW hv0, hk, hc, hs, hL, hlv, hsv, hB, hS.put hsz hq (hW.2.2.2.2.1 t i hm hi)⟩ hag hmo hR hret
          · rcases v with x | x | ⟨t2, _ | jj⟩ <;> first | (cases h; done) | skip
            replace h := zbx h; obtain ⟨htt, h⟩ := h
            have htt := Nat.eq_of_beq_eq_true htt
            subst htt
            refine zw_put hx hb hts hC hown hs hO f hf (hts _ (zlk_m hlk)) hfin (v := va_rf ((some jj).map (ρ t2))) (hty _).1 (hty _).2.1 hdg (fun H1 z hsz hq hO1 => ?_)
            rw [hN] at hO1
            have hj : jj < mC M (ztf t f) := by
              unfold ztf
              rw [if_pos (show t < 12 from h12), hfp]
              exact hv0 jj rfl
            exact ih h hF hd5 hsp hT ⟨zHp_pFo (x := some jj) hH hW.2.2.2.1 h12 hi (by rw [hfp]) hq (by rw [hfp]; exact hO1), zWf_pF hW hj (by omega), hk, hc, hs, hL, hlv, hsv, hB, hS.put hsz hq (hW.2.2.2.2.1 t i hm hi)⟩ hag hmo hR hret
          · rcases v with x | x | ⟨t2, o⟩ <;> first | (cases h; done) | skip
            have h4 : (zfp t f).1 = 4 := by rw [hfp]
            have hrg : (zfp t f).2.2 = rg := by rw [hfp]
            have htg : (zfp t f).2.1 = tg := by rw [hfp]
            have hcase := zfp_4 t h12 f hfz h4
            have hw6 : ∀ oo : Option Nat, (∀ j, oo = some j → j < mC M tg) → zWf ρ B (pR M (zsr (mR M) rg oo)) := by
              intro oo hoo
              rcases hcase with ⟨a1, a2, z⟩ | ⟨a1, a2, z⟩ | ⟨a1, a2, z⟩ | ⟨a1, a2, z⟩ <;> (rw [hfp] at z; simp only [Prod.mk.injEq] at z; obtain ⟨z1, z2⟩ := z; subst z1; subst z2; subst a1; exact zWf_pR hW (by decide) hoo (fun w => by first | (cases w; done) | omega) (fun w => by first | (cases w; done) | omega) (fun w => by first | (exact absurd w (by decide)) | omega))
            refine zw_put hx hb hts hC hown hs hO f hf (hts _ (zlk_m hlk)) hfin (v := va_rf (o.map (ρ t2))) (hty _).1 (hty _).2.1 hdg (fun H1 z hsz hq hO1 => ?_)
            rw [hN] at hO1
            cases o with
            | none =>
              have e1 := zHp_pRo (x := none) hH hW.2.2.2.1 hW.2.2.2.2.2.1 h12 hi hfz h4 hq hO1
              rw [hrg] at e1
              exact ih h hF hd5 hsp hT ⟨e1, hw6 none (fun j hj => by cases hj), hk, hc, hs, hL, hlv, hsv, hB, hS.put hsz hq (hW.2.2.2.2.1 t i hm hi)⟩ hag hmo hR hret
            | some jj =>
              replace h := zbx h; obtain ⟨htt, h⟩ := h
              have htt := Nat.eq_of_beq_eq_true htt
              subst htt
              have e1 := zHp_pRo (x := some jj) hH hW.2.2.2.1 hW.2.2.2.2.2.1 h12 hi hfz h4 hq (by rw [htg]; exact hO1)
              rw [hrg] at e1
              exact ih h hF hd5 hsp hT ⟨e1, hw6 (some jj) (fun j hj => by cases hj; exact hv0 jj rfl), hk, hc, hs, hL, hlv, hsv, hB, hS.put hsz hq (hW.2.2.2.2.1 t i hm hi)⟩ hag hmo hR hret
    case getstatic idx => 
      replace hok := zand2 hok; obtain ⟨hlen, hok⟩ := hok; have hlen := Nat.eq_of_beq_eq_true hlen; subst hlen
      rcases ax with _ | ⟨t, _ | ⟨i, _ | ⟨j, ax⟩⟩⟩ <;> first | (cases hok; done) | skip
      replace hok := zoks_x hok
      have w8 := hW.2.2.2.2.2.2.2
      rcases hok with ⟨heq, hok⟩ | ⟨heq, hok⟩ | ⟨heq, hok⟩
      · subst heq
        obtain ⟨hi, hlk⟩ := zand2 hok
        have hi := Nat.le_of_ble_eq_true hi
        refine va_gets hx hb (hc.1 i hi) hS hown (hts _ (zlk_m hlk)) (fun _ z => z) hdg ?_
        exact ih h hF hd5 hsp hT ⟨hH, hW, hk, hc, hs, hL, hlv, List.forall_mem_cons.mpr ⟨(fun j hj => by cases hj; rw [w8.1]; exact hi), hsv⟩, hB, hS⟩ hag hmo hR hret
      · subst heq
        obtain ⟨hi, hlk⟩ := zand2 hok
        have hi := Nat.eq_of_beq_eq_true hi; subst hi
        refine va_getsN hx hb hc.2.1 hS hown (hts _ (zlk_m hlk)) (fun _ z => z) hdg ?_
        exact ih h hF hd5 hsp hT ⟨hH, hW, hk, hc, hs, hL, hlv, List.forall_mem_cons.mpr ⟨(fun j hj => by cases hj; rw [w8.2.1]; decide), hsv⟩, hB, hS⟩ hag hmo hR hret
      · subst heq
        obtain ⟨hi, hlk⟩ := zand2 hok
        have hi := Nat.eq_of_beq_eq_true hi; subst hi
        refine va_gets hx hb hc.2.2.1 hS hown (hts _ (zlk_m hlk)) (fun _ z => z) hdg ?_
        exact ih h hF hd5 hsp hT ⟨hH, hW, hk, hc, hs, hL, hlv, List.forall_mem_cons.mpr ⟨(fun j hj => by cases hj; rw [w8.2.2.1]; decide), hsv⟩, hB, hS⟩ hag hmo hR hret
    case iaload => 
      have hlen := Nat.eq_of_beq_eq_true hok; subst hlen
      rcases st with _ | ⟨x | x | x, _ | ⟨u | u | ⟨t, _ | i⟩, r⟩⟩ <;> first | (cases h; done) | skip
      replace hsv := List.forall_mem_cons.mp hsv; obtain ⟨hx1, hsv⟩ := hsv
      replace hsv := List.forall_mem_cons.mp hsv; obtain ⟨hi0, hsv⟩ := hsv
      have hi : i < mC M t := hi0 i rfl
      have h104 : t < 104 := by rcases Nat.lt_or_ge t 104 with z | z <;> first | exact z | (have := hW.2.2.2.2.2.2.2.2.2.2.2.2.2.2 t z; omega)
      replace h := zemx h; rcases h with hq | ⟨_, h⟩ | ⟨_, h⟩ | ⟨_, h⟩ | ⟨_, h⟩ | hq | ⟨_, h⟩ <;> first | (cases h; done) | skip
      · obtain ⟨hz, h⟩ := hq
        replace h := zgd h; obtain ⟨hin, h⟩ := h
        obtain ⟨hm, h12⟩ := zmt_a (t := t) (by omega)
        have hcell := (hH t i hm hi).2 h12
        have hAr := (zks_at hs h104).1 (mN M t i) (zav ρ M t i)
        have hty := zty_of (t := t) (by omega)
        rw [hty.1 hz] at hAr
        refine W.iald (v := .int (Int32.ofInt (mI M t i x.toNat))) hx hb hcell hAr (fun z => by cases z) (by rw [arrV_size]; exact zn_clampin hx1 hin) (by rw [zn_nat hx1, arrV_read _ _ (by omega)]; unfold zav; rw [hz]; rfl) rfl rfl hdg ?_
        exact ih h hF hd5 hsp hT ⟨hH, hW, hk, hc, hs, hL, hlv, List.forall_mem_cons.mpr ⟨(hW.1 t i x.toNat).1, hsv⟩, hB, hS⟩ hag hmo hR hret
      · obtain ⟨hz, h⟩ := hq
        replace h := zgd h; obtain ⟨hin, h⟩ := h
        obtain ⟨N, f, hTT, hNN, hff⟩ : ∃ N, ∃ f : Nat → Value, va_T .int (ρ t i) N f (zA B) s s.heap ∧ mN M t i = N ∧ ∀ j, j < N → f j = .int (Int32.ofInt (mKI M t i j)) := zcar hW hk hc hz hi
        obtain ⟨cell, b1, b2, b3, b4, b5, b6, b7⟩ := hTT
        have hcell : H[ρ t i]? = some cell := by rw [hS.2.1 _ (Array.getElem?_eq_some_iff.mp b1).1 b7]; exact b1
        refine W.iald (v := .int (Int32.ofInt (mKI M t i x.toNat))) hx hb hcell b2 b3 (by rw [zn_lt0 hx1, zn_nat hx1]; omega) (by rw [zn_nat hx1, b6 _ (by omega), hff _ (by omega)]) rfl rfl hdg ?_
        exact ih h hF hd5 hsp hT ⟨hH, hW, hk, hc, hs, hL, hlv, List.forall_mem_cons.mpr ⟨(hW.1 t i x.toNat).2.2.1, hsv⟩, hB, hS⟩ hag hmo hR hret
    case baload => 
      have hlen := Nat.eq_of_beq_eq_true hok; subst hlen
      rcases st with _ | ⟨x | x | x, _ | ⟨u | u | ⟨t, _ | i⟩, r⟩⟩ <;> first | (cases h; done) | skip
      replace hsv := List.forall_mem_cons.mp hsv; obtain ⟨hx1, hsv⟩ := hsv
      replace hsv := List.forall_mem_cons.mp hsv; obtain ⟨hi0, hsv⟩ := hsv
      have hi : i < mC M t := hi0 i rfl
      have h104 : t < 104 := by rcases Nat.lt_or_ge t 104 with z | z <;> first | exact z | (have := hW.2.2.2.2.2.2.2.2.2.2.2.2.2.2 t z; omega)
      replace h := zemx h; rcases h with ⟨_, h⟩ | ⟨_, h⟩ | hq | hq | ⟨_, h⟩ | ⟨_, h⟩ | ⟨_, h⟩ <;> first | (cases h; done) | skip
      · obtain ⟨hz, h⟩ := hq
        replace h := zgd h; obtain ⟨hin, h⟩ := h
        obtain ⟨hm, h12⟩ := zmt_a (t := t) (by omega)
        have hcell := (hH t i hm hi).2 h12
        have hAr := (zks_at hs h104).1 (mN M t i) (zav ρ M t i)
        have hty := zty_of (t := t) (by omega)
        rw [hty.2.2.1 hz] at hAr
        refine W.bald (v := .int (Int32.ofInt (mI M t i x.toNat))) hx hb hcell hAr (fun z => by cases z) (by rw [arrV_size]; exact zn_clampin hx1 hin) (by rw [zn_nat hx1, arrV_read _ _ (by omega)]; unfold zav; rw [hz]; rfl) rfl rfl hdg ?_
        exact ih h hF hd5 hsp hT ⟨hH, hW, hk, hc, hs, hL, hlv, List.forall_mem_cons.mpr ⟨(hW.1 t i x.toNat).1, hsv⟩, hB, hS⟩ hag hmo hR hret
      · obtain ⟨hz, h⟩ := hq
        replace h := zgd h; obtain ⟨hin, h⟩ := h
        obtain ⟨hm, h12⟩ := zmt_a (t := t) (by omega)
        have hcell := (hH t i hm hi).2 h12
        have hAr := (zks_at hs h104).1 (mN M t i) (zav ρ M t i)
        have hty := zty_of (t := t) (by omega)
        rw [hty.2.2.2 hz] at hAr
        refine W.zald (v := .int (Int32.ofInt (mI M t i x.toNat))) hx hb hcell hAr (fun z => by cases z) (by rw [arrV_size]; exact zn_clampin hx1 hin) (by rw [zn_nat hx1, arrV_read _ _ (by omega)]; unfold zav; rw [hz]; rfl) rfl rfl hdg ?_
        exact ih h hF hd5 hsp hT ⟨hH, hW, hk, hc, hs, hL, hlv, List.forall_mem_cons.mpr ⟨(hW.1 t i x.toNat).1, hsv⟩, hB, hS⟩ hag hmo hR hret
    case laload => 
      have hlen := Nat.eq_of_beq_eq_true hok; subst hlen
      rcases st with _ | ⟨x | x | x, _ | ⟨u | u | ⟨t, _ | i⟩, r⟩⟩ <;> first | (cases h; done) | skip
      replace hsv := List.forall_mem_cons.mp hsv; obtain ⟨hx1, hsv⟩ := hsv
      replace hsv := List.forall_mem_cons.mp hsv; obtain ⟨hi0, hsv⟩ := hsv
      have hi : i < mC M t := hi0 i rfl
      have h104 : t < 104 := by rcases Nat.lt_or_ge t 104 with z | z <;> first | exact z | (have := hW.2.2.2.2.2.2.2.2.2.2.2.2.2.2 t z; omega)
      replace h := zemx h; rcases h with ⟨_, h⟩ | hq | ⟨_, h⟩ | ⟨_, h⟩ | ⟨_, h⟩ | ⟨_, h⟩ | ⟨_, h⟩ <;> first | (cases h; done) | skip
      obtain ⟨hz, h⟩ := hq
      replace h := zgd h; obtain ⟨hin, h⟩ := h
      obtain ⟨hm, h12⟩ := zmt_a (t := t) (by omega)
      have hcell := (hH t i hm hi).2 h12
      have hAr := (zks_at hs h104).1 (mN M t i) (zav ρ M t i)
      have hty := zty_of (t := t) (by omega)
      rw [hty.2.1 hz] at hAr
      refine W.lald (v := .long (Int64.ofInt (mL M t i x.toNat))) hx hb hcell hAr (fun z => by cases z) (by rw [arrV_size]; exact zn_clampin hx1 hin) (by rw [zn_nat hx1, arrV_read _ _ (by omega)]; unfold zav; rw [hz]; rfl) rfl rfl hdg ?_
      exact ih h hF hd5 hsp hT ⟨hH, hW, hk, hc, hs, hL, hlv, List.forall_mem_cons.mpr ⟨(hW.1 t i x.toNat).2.1, hsv⟩, hB, hS⟩ hag hmo hR hret
    case aaload => 
      have hlen := Nat.eq_of_beq_eq_true hok; subst hlen
      rcases st with _ | ⟨x | x | x, _ | ⟨u | u | ⟨t, _ | i⟩, r⟩⟩ <;> first | (cases h; done) | skip
      replace hsv := List.forall_mem_cons.mp hsv; obtain ⟨hx1, hsv⟩ := hsv
      replace hsv := List.forall_mem_cons.mp hsv; obtain ⟨hi0, hsv⟩ := hsv
      have hi : i < mC M t := hi0 i rfl
      have h104 : t < 104 := by rcases Nat.lt_or_ge t 104 with z | z <;> first | exact z | (have := hW.2.2.2.2.2.2.2.2.2.2.2.2.2.2 t z; omega)
      replace h := zemx h; rcases h with ⟨_, h⟩ | ⟨_, h⟩ | ⟨_, h⟩ | ⟨_, h⟩ | hq | ⟨_, h⟩ | hq <;> first | (cases h; done) | skip
      · obtain ⟨hz, h⟩ := hq
        replace h := zgd h; obtain ⟨hin, h⟩ := h
        obtain ⟨hm, h12⟩ := zmt_a (t := t) (by omega)
        have hcell := (hH t i hm hi).2 h12
        have hAr := (zks_at hs h104).1 (mN M t i) (zav ρ M t i)
        refine W.aald (v := va_rf ((mF M t i x.toNat).map (ρ (ztg t)))) hx hb hcell hAr (zty_4 hz) (fun z => by cases z) (by rw [arrV_size]; exact zn_clampin hx1 hin) (by rw [zn_nat hx1, arrV_read _ _ (by omega)]; unfold zav; rw [hz]; rfl) rfl rfl hdg ?_
        exact ih h hF hd5 hsp hT ⟨hH, hW, hk, hc, hs, hL, hlv, List.forall_mem_cons.mpr ⟨(fun j hj => by have := hW.2.1 t i _ j hi (.inr ⟨h12, by omega⟩) hj; unfold ztf at this; rw [if_neg h12] at this; exact this), hsv⟩, hB, hS⟩ hag hmo hR hret
      · obtain ⟨hz, h⟩ := hq
        replace h := zgd h; obtain ⟨hin, h⟩ := h
        have ht : t = 100 := zek_6 hz
        subst ht
        have w8 := hW.2.2.2.2.2.2.2
        have hi1 : i = 0 := by rw [w8.2.1] at hi; omega
        subst hi1
        unfold zinb at hin
        rw [w8.2.2.2.2.1] at hin
        obtain ⟨cell, b1, b2, b3, b4, b5, b6, b7⟩ := hc.2.2.2.2.2.2.2.1
        have hcell : H[ρ 100 0]? = some cell := by rw [hS.2.1 _ (Array.getElem?_eq_some_iff.mp b1).1 b7]; exact b1
        have hF : mF M 100 0 x.toNat = some x.toNat := w8.2.2.2.2.2.2.1 _ (by omega)
        rw [hF] at h
        refine W.aald (v := .ref (ρ 12 x.toNat)) hx hb hcell b2 rfl b3 (by rw [zn_lt0 hx1, zn_nat hx1]; omega) (by rw [zn_nat hx1, b6 _ (by omega)]) rfl rfl hdg ?_
        exact ih h hFr hd5 hsp hT ⟨hH, hW, hk, hc, hs, hL, hlv, List.forall_mem_cons.mpr ⟨(fun j hj => by cases hj; rw [show ztg 100 = 12 from rfl, w8.1]; omega), hsv⟩, hB, hS⟩ hag hmo hR hret
    case iastore => 
      have hlen := Nat.eq_of_beq_eq_true hok; subst hlen
      rcases st with _ | ⟨v | v | v, _ | ⟨x | x | x, _ | ⟨u | u | ⟨t, _ | i⟩, r⟩⟩⟩ <;> first | (cases h; done) | skip
      replace hsv := List.forall_mem_cons.mp hsv; obtain ⟨hv0, hsv⟩ := hsv
      replace hsv := List.forall_mem_cons.mp hsv; obtain ⟨hx1, hsv⟩ := hsv
      replace hsv := List.forall_mem_cons.mp hsv; obtain ⟨hi0, hsv⟩ := hsv
      have hi : i < mC M t := hi0 i rfl
      have h104 : t < 104 := by rcases Nat.lt_or_ge t 104 with z | z <;> first | exact z | (have := hW.2.2.2.2.2.2.2.2.2.2.2.2.2.2 t z; omega)
      replace h := zemx h; rcases h with hq | ⟨_, h⟩ | ⟨_, h⟩ | ⟨_, h⟩ | ⟨_, h⟩ | ⟨_, h⟩ | ⟨_, h⟩ <;> first | (cases h; done) | skip
      obtain ⟨hz, h⟩ := hq
      replace h := zgd h; obtain ⟨hin, h⟩ := h
      obtain ⟨hm, h12⟩ := zmt_a (t := t) (by omega)
      have hcell := (hH t i hm hi).2 h12
      have hAr := (zks_at hs h104).1 (mN M t i) (zav ρ M t i)
      have hty := zty_of (t := t) (by omega)
      rw [hty.1 hz] at hAr
      refine W.iast hx hb hcell hAr (fun z => by cases z) (by rw [arrV_size]; exact zn_clampin hx1 hin) rfl rfl hdg (fun H1 he hsz hq => ?_)
      rw [zn_nat hx1] at he
      rw [arrV_store] at he
      exact ih h hF hd5 hsp hT ⟨zHp_pIa hH hW.2.2.2.1 hi (.inl hz) hq he, zWf_pI hW hv0, hk, hc, hs, hL, hlv, hsv, hB, hS.put hsz hq (hW.2.2.2.2.1 t i hm hi)⟩ hag hmo hR hret
    case lastore => 
      have hlen := Nat.eq_of_beq_eq_true hok; subst hlen
      rcases st with _ | ⟨v | v | v, _ | ⟨x | x | x, _ | ⟨u | u | ⟨t, _ | i⟩, r⟩⟩⟩ <;> first | (cases h; done) | skip
      replace hsv := List.forall_mem_cons.mp hsv; obtain ⟨hv0, hsv⟩ := hsv
      replace hsv := List.forall_mem_cons.mp hsv; obtain ⟨hx1, hsv⟩ := hsv
      replace hsv := List.forall_mem_cons.mp hsv; obtain ⟨hi0, hsv⟩ := hsv
      have hi : i < mC M t := hi0 i rfl
      have h104 : t < 104 := by rcases Nat.lt_or_ge t 104 with z | z <;> first | exact z | (have := hW.2.2.2.2.2.2.2.2.2.2.2.2.2.2 t z; omega)
      replace h := zemx h; rcases h with ⟨_, h⟩ | hq | ⟨_, h⟩ | ⟨_, h⟩ | ⟨_, h⟩ | ⟨_, h⟩ | ⟨_, h⟩ <;> first | (cases h; done) | skip
      obtain ⟨hz, h⟩ := hq
      replace h := zgd h; obtain ⟨hin, h⟩ := h
      obtain ⟨hm, h12⟩ := zmt_a (t := t) (by omega)
      have hcell := (hH t i hm hi).2 h12
      have hAr := (zks_at hs h104).1 (mN M t i) (zav ρ M t i)
      have hty := zty_of (t := t) (by omega)
      rw [hty.2.1 hz] at hAr
      refine W.last hx hb hcell hAr (fun z => by cases z) (by rw [arrV_size]; exact zn_clampin hx1 hin) rfl rfl hdg (fun H1 he hsz hq => ?_)
      rw [zn_nat hx1] at he
      rw [arrV_store] at he
      exact ih h hF hd5 hsp hT ⟨zHp_pLa hH hW.2.2.2.1 hi hz hq he, zWf_pL hW hv0, hk, hc, hs, hL, hlv, hsv, hB, hS.put hsz hq (hW.2.2.2.2.1 t i hm hi)⟩ hag hmo hR hret
    case bastore => 
      have hlen := Nat.eq_of_beq_eq_true hok; subst hlen
      rcases st with _ | ⟨v | v | v, _ | ⟨x | x | x, _ | ⟨u | u | ⟨t, _ | i⟩, r⟩⟩⟩ <;> first | (cases h; done) | skip
      replace hsv := List.forall_mem_cons.mp hsv; obtain ⟨hv0, hsv⟩ := hsv
      replace hsv := List.forall_mem_cons.mp hsv; obtain ⟨hx1, hsv⟩ := hsv
      replace hsv := List.forall_mem_cons.mp hsv; obtain ⟨hi0, hsv⟩ := hsv
      have hi : i < mC M t := hi0 i rfl
      have h104 : t < 104 := by rcases Nat.lt_or_ge t 104 with z | z <;> first | exact z | (have := hW.2.2.2.2.2.2.2.2.2.2.2.2.2.2 t z; omega)
      replace h := zemx h; rcases h with ⟨_, h⟩ | ⟨_, h⟩ | hq | hq | ⟨_, h⟩ | ⟨_, h⟩ | ⟨_, h⟩ <;> first | (cases h; done) | skip
      · obtain ⟨hz, h⟩ := hq
        replace h := zgd h; obtain ⟨hin, h⟩ := h
        obtain ⟨hm, h12⟩ := zmt_a (t := t) (by omega)
        have hcell := (hH t i hm hi).2 h12
        have hAr := (zks_at hs h104).1 (mN M t i) (zav ρ M t i)
        have hty := zty_of (t := t) (by omega)
        rw [hty.2.2.1 hz] at hAr
        refine W.bast hx hb hcell hAr (fun z => by cases z) (by rw [arrV_size]; exact zn_clampin hx1 hin) rfl rfl hdg (fun H1 he hsz hq => ?_)
        rw [zn_nat hx1] at he
        rw [arrV_store, show narrow .byte (.int (Int32.ofInt v)) = .int (Int32.ofInt (z_i2b v)) from congrArg Value.int (zn_i2b hv0)] at he
        exact ih h hF hd5 hsp hT ⟨zHp_pIa hH hW.2.2.2.1 hi (.inr (.inl hz)) hq he, zWf_pI hW (z_i2b_r _), hk, hc, hs, hL, hlv, hsv, hB, hS.put hsz hq (hW.2.2.2.2.1 t i hm hi)⟩ hag hmo hR hret
      · obtain ⟨hz, h⟩ := hq
        replace h := zgd h; obtain ⟨hin, h⟩ := h
        obtain ⟨hm, h12⟩ := zmt_a (t := t) (by omega)
        have hcell := (hH t i hm hi).2 h12
        have hAr := (zks_at hs h104).1 (mN M t i) (zav ρ M t i)
        have hty := zty_of (t := t) (by omega)
        rw [hty.2.2.2 hz] at hAr
        refine W.zast hx hb hcell hAr (fun z => by cases z) (by rw [arrV_size]; exact zn_clampin hx1 hin) rfl rfl hdg (fun H1 he hsz hq => ?_)
        rw [zn_nat hx1] at he
        rw [arrV_store, show narrow .boolean (.int (Int32.ofInt v)) = .int (Int32.ofInt (z_b1 v)) from congrArg Value.int (zn_b1 hv0)] at he
        exact ih h hF hd5 hsp hT ⟨zHp_pIa hH hW.2.2.2.1 hi (.inr (.inr hz)) hq he, zWf_pI hW (z_b1_r _), hk, hc, hs, hL, hlv, hsv, hB, hS.put hsz hq (hW.2.2.2.2.1 t i hm hi)⟩ hag hmo hR hret
    case arraylength => 
      have hlen := Nat.eq_of_beq_eq_true hok; subst hlen
      rcases st with _ | ⟨x | x | ⟨t, _ | i⟩, r⟩ <;> first | (cases h; done) | skip
      replace hsv := List.forall_mem_cons.mp hsv; obtain ⟨hi0, hsv⟩ := hsv
      have hi : i < mC M t := hi0 i rfl
      have h104 : t < 104 := by rcases Nat.lt_or_ge t 104 with z | z <;> first | exact z | (have := hW.2.2.2.2.2.2.2.2.2.2.2.2.2.2 t z; omega)
      have hz : zek t ≤ 6 ∧ zex zG d tab (pc + 1) ls (.inl (mN M t i : Int) :: r) M n = some (rr, M') := by replace h := zemx h; rcases h with ⟨e, h⟩ | ⟨e, h⟩ | ⟨e, h⟩ | ⟨e, h⟩ | ⟨e, h⟩ | ⟨e, h⟩ | ⟨e, h⟩ <;> exact ⟨by omega, h⟩
      obtain ⟨hz, h⟩ := hz
      have h12 : ¬ t < 12 := fun z => by rw [zek_12 z] at hz; omega
      have h7 := hW.2.2.2.2.2.2.1 t i h12 hi
      have hr : zr32 (mN M t i : Int) := ⟨by omega, by omega⟩
      have hnn : Int32.ofInt (mN M t i : Int) = (mN M t i).toInt32 := Int32.ofInt_eq_ofNat
      by_cases h4 : zek t ≤ 4
      · obtain ⟨hm, -⟩ := zmt_a (t := t) h4
        have hcell := (hH t i hm hi).2 h12
        have hAr := (zks_at hs h104).1 (mN M t i) (zav ρ M t i)
        refine W.alen (n := Int32.ofInt (mN M t i : Int)) hx hb hcell hAr (by rw [arrV_size, hnn]) rfl rfl hdg ?_
        exact ih h hF hd5 hsp hT ⟨hH, hW, hk, hc, hs, hL, hlv, List.forall_mem_cons.mpr ⟨hr, hsv⟩, hB, hS⟩ hag hmo hR hret
      · obtain ⟨ty, N, f, hTT, hNN⟩ : ∃ ty N, ∃ f : Nat → Value, va_T ty (ρ t i) N f (zA B) s s.heap ∧ mN M t i = N := by
          by_cases h5 : zek t = 5
          · obtain ⟨N, f, a1, a2, -⟩ := zcar hW hk hc h5 hi
            exact ⟨_, N, f, a1, a2⟩
          · have ht : t = 100 := zek_6 (by omega)
            subst ht
            have w8 := hW.2.2.2.2.2.2.2
            have hi1 : i = 0 := by rw [w8.2.1] at hi; omega
            subst hi1
            exact ⟨_, _, _, hc.2.2.2.2.2.2.2.1, w8.2.2.2.2.1⟩
        obtain ⟨cell, b1, b2, b3, b4, b5, b6, b7⟩ := hTT
        have hcell : H[ρ t i]? = some cell := by rw [hS.2.1 _ (Array.getElem?_eq_some_iff.mp b1).1 b7]; exact b1
        refine W.alen (n := Int32.ofInt (mN M t i : Int)) hx hb hcell b2 (by rw [b5, hnn, hNN]) rfl rfl hdg ?_
        exact ih h hF hd5 hsp hT ⟨hH, hW, hk, hc, hs, hL, hlv, List.forall_mem_cons.mpr ⟨hr, hsv⟩, hB, hS⟩ hag hmo hR hret
    case aastore => 
      have hlen := Nat.eq_of_beq_eq_true hok; subst hlen
      rcases st with _ | ⟨v | v | ⟨t2, _ | jv⟩, _ | ⟨x | x | x, _ | ⟨u | u | ⟨t, _ | i⟩, r⟩⟩⟩ <;> first | (cases h; done) | skip
      replace hsv := List.forall_mem_cons.mp hsv; obtain ⟨hv0, hsv⟩ := hsv
      replace hsv := List.forall_mem_cons.mp hsv; obtain ⟨hx1, hsv⟩ := hsv
      replace hsv := List.forall_mem_cons.mp hsv; obtain ⟨hi0, hsv⟩ := hsv
      have hi : i < mC M t := hi0 i rfl
      replace h := zbx h; obtain ⟨ht2, h⟩ := h
      have ht2 := Nat.eq_of_beq_eq_true ht2
      subst ht2
      have hjv : jv < mC M (ztg t) := hv0 jv rfl
      replace h := zemx h; rcases h with ⟨_, h⟩ | ⟨_, h⟩ | ⟨_, h⟩ | ⟨_, h⟩ | hq | ⟨_, h⟩ | ⟨_, h⟩ <;> first | (cases h; done) | skip
      obtain ⟨hz, h⟩ := hq
      replace h := zgd h; obtain ⟨hin, h⟩ := h
      obtain ⟨hm, h12⟩ := zmt_a (t := t) (by omega)
      have hcell := (hH t i hm hi).2 h12
      obtain ⟨q, hvw, hty, htg12, h104⟩ : ∃ q, vwCl[ztg t]? = some q ∧ zty t = .object q.1 ∧ ztg t < 12 ∧ t < 104 := by rcases zek_4 hz with rfl | rfl | rfl <;> exact ⟨_, rfl, rfl, by decide, by decide⟩
      have hmv : zmt (ztg t) = true := by simp [zmt, htg12]
      obtain ⟨cellV, g1, g2, g3, -⟩ := (hH (ztg t) jv hmv hjv).1 htg12
      have hcls := (hs.1 (ztg t) q hvw).2
      have hRA := (zks_at hs h104).2
      rw [hty] at hRA
      obtain ⟨kA, comp, k1, k2, k3, -⟩ := hRA
      have hcomp : comp = dC (ztg t) := Option.some.inj (k3.symm.trans hcls.1)
      subst hcomp
      obtain ⟨kC, hkC, -⟩ := hcls.2
      refine W.aast hx hb hcell (fun q h => by cases h) (fun h => by cases h) k1 k2 rfl hkC ⟨fun z => by rw [zn_lt0 hx1] at z; omega, by rw [arrV_size, zn_nat hx1]; omega⟩ g1 (fun q h => by rw [g3] at h; cases h) (by rw [g2]; exact hkC) (by rw [g2]; exact va_assign hcls) rfl rfl hdg (fun H1 he hsz hq => ?_)
      rw [zn_nat hx1, arrV_store] at he
      exact ih h hF hd5 hsp hT ⟨zHp_pFa (x := some jv) hH hW.2.2.2.1 hi hz hq he, zWf_pF hW (by unfold ztf; rw [if_neg h12]; exact hjv) (by rcases zek_4 hz with rfl | rfl | rfl <;> decide), hk, hc, hs, hL, hlv, hsv, hB, hS.put hsz hq (hW.2.2.2.2.1 t i hm hi)⟩ hag hmo hR hret
    case new idx => 
      replace hok := zand2 hok; obtain ⟨hlen, hok⟩ := hok; have hlen := Nat.eq_of_beq_eq_true hlen; subst hlen
      replace h := zbx h; obtain ⟨hnw, h⟩ := h
      rcases ax with _ | ⟨t, _ | ⟨j, ax⟩⟩ <;> first | (cases hok; done) | skip
      change znw M t = true at hnw
      replace hok := zand2 hok; obtain ⟨h12, hok⟩ := hok
      have h12 := Nat.le_of_ble_eq_true h12
      cases hvw : vwCl[t]? with
      | none => rw [hvw] at hok; cases hok
      | some q =>
        rw [hvw] at hok
        obtain ⟨ty, hC, hpt, -⟩ := zclT hvw
        have hN : q.2.2 = znf t := hC.2.2.2.2
        have hm : zmt t = true := by simp [zmt, show t < 12 from h12]
        have hm2 := zex_mo h
        have hc1 : zcells M0 ≤ zcells M := hmo.2.1
        have hs1 : zslots M0 ≤ zslots M := hmo.2.2.1
        have hc2 : zcells M + 1 ≤ zcells M' := hm2.2.1
        have hs2 : zslots M + znf t ≤ zslots M' := hm2.2.2.1
        have hKn := hs.1 t _ hvw
        obtain ⟨hins, hini2⟩ := zinst hts hvw
        rw [hN] at hins
        refine W.newcK hx hb hown (hts _ (zlk_m hok)) hins hini2 rfl hdg (by omega) (by omega) hKn.2.1 rfl (fun H1 kC hkC e1 z1 o1 => ?_)
        have hborn := u_born ty hts hC.2.1 hKn hkC e1 hC.2.2.1
        have hnx := znx_o M t (znf t)
        obtain ⟨hctx, hold, hnew⟩ := zctx_new (H1 := H1) ⟨hH, hW, hk, hc, hs, hL, hlv, hsv, hB, hS⟩ hnx hm hnw (by omega) (fun z => absurd h12 z) z1 o1 ⟨fun _ => by
          rw [show zrn ρ t (mC M t) H.size t (mC M t) = H.size by unfold zrn; rw [if_pos ⟨rfl, rfl⟩]]
          rw [hN] at hborn
          refine hborn.to (fun k hk2 => ?_)
          have hp := hpt k (by rw [hN]; exact hk2)
          obtain ⟨f1, f2, f3⟩ := hnx.2.1 k
          unfold zfv
          rcases hp with ⟨z, hty⟩ | ⟨z, hty⟩ | ⟨z, hty⟩ | ⟨z | z, hty⟩ <;> rw [z]
          · show _ = Value.int (Int32.ofInt (mI (pNew M t (znf t)) t (mC M t) k)); rw [hty, f1]; rfl
          · show _ = Value.int (Int32.ofInt (mI (pNew M t (znf t)) t (mC M t) k)); rw [hty, f1]; rfl
          · show _ = Value.long (Int64.ofInt (mL (pNew M t (znf t)) t (mC M t) k)); rw [hty, f2]; rfl
          · show _ = va_rf ((mF (pNew M t (znf t)) t (mC M t) k).map _); rw [(hty none).2.2, f3]; rfl
          · show _ = va_rf ((zrg (mR M) (zfp t k).2.2).map _)
            rw [(hty none).2.2]
            have w6 := hW.2.2.2.2.2.1
            rcases zfp_4 t h12 k hk2 z with ⟨a1, a2, w⟩ | ⟨a1, a2, w⟩ | ⟨a1, a2, w⟩ | ⟨a1, a2, w⟩ <;> (rw [w]; subst a1; have h0 := Nat.eq_of_beq_eq_true hnw)
            · rw [(w6.2.2.1 h0).1]; rfl
            · rw [(w6.2.2.1 h0).2]; rfl
            · rw [w6.1 h0]; rfl
            · rw [w6.2.1 h0]; rfl, fun z => absurd h12 z⟩
        have e1 : zcells M - zcells M0 + 1 = zcells (pNew M t (znf t)) - zcells M0 := by show _ = zcells M + 1 - zcells M0; omega
        have e2 : zslots M - zslots M0 + znf t = zslots (pNew M t (znf t)) - zslots M0 := by show _ = zslots M + znf t - zslots M0; omega
        have e3 : Value.ref H.size :: st.map (zcv ρ) = (.inr (.inr (t, some (mC M t))) :: st : List ZV).map (zcv (zrn ρ t (mC M t) H.size)) := by
          rw [List.map_cons, zmap_same hold hsv]
          show _ = va_rf (some _) :: _
          rw [hnew]
          rfl
        show W p l e R s m args below meth c H1 locs _ _ Q (F0 m (pc + 3) lsC (Value.ref H.size :: st.map (zcv ρ)))
        rw [e1, e2, e3]
        exact ih h hF hd5 hsp hT hctx ⟨fun t' i' hi' => by rw [hold t' i' (Nat.lt_of_lt_of_le hi' (hmo.1 t'))]; exact hag.1 t' i' hi', (zrn_102 hm).trans hag.2⟩ (zmo_tr hmo (zmo_new M _ _)) hR hret
    case newarray aty => 
      replace hok := zand2 hok; obtain ⟨hok, h104⟩ := hok
      replace hok := zand2 hok; obtain ⟨hok, hz3⟩ := hok
      replace hok := zand2 hok; obtain ⟨hlen, hok⟩ := hok; have hlen := Nat.eq_of_beq_eq_true hlen; subst hlen
      have hok := Nat.eq_of_beq_eq_true hok
      have h104 := Nat.le_of_ble_eq_true h104
      have hz3 := Nat.le_of_ble_eq_true hz3
      rcases st with _ | ⟨x | x | x, r⟩ <;> first | (cases h; done) | skip
      replace hsv := List.forall_mem_cons.mp hsv; obtain ⟨hx1, hsv⟩ := hsv
      replace h := zgd h; obtain ⟨hbd, h⟩ := h
      generalize zhd ax = t at *
      have hm2 := zex_mo h
      have hc1 : zcells M0 ≤ zcells M := hmo.2.1
      have hs1 : zslots M0 ≤ zslots M := hmo.2.2.1
      have hc2 : zcells M + 1 ≤ zcells M' := hm2.2.1
      have hs2 : zslots M + x.toNat ≤ zslots M' := hm2.2.2.1
      have hnx := znx_a M t x.toNat x.toNat
      have hnl := znx_len M t x.toNat x.toNat
      obtain ⟨hm, h12⟩ := zmt_a (t := t) (by omega)
      have hty := zty_of hz3
      have hRA := (zks_at hs h104).2
      obtain ⟨ty, haty, hty2, harr, hdef, hcb⟩ : ∃ ty, newarray.typeOf aty = ty ∧ zty t = ty ∧ (Jvm.Cond.arrayClass ty).before args s = true ∧ (∀ j, zav (zrn ρ t (mC M t) H.size) (pNew (pLen M t (mC M t) x.toNat) t x.toNat) t (mC M t) j = defaultValue ty) ∧ componentBytes ty ≤ 8 ∧ va_RA s (aC t) ty = (s.vm.findClass ("[" ++ ty.toString) = some (aC t)) := by
        rcases zatx hok hz3 with ⟨e, z⟩ | ⟨e, z⟩ | ⟨e, z⟩ | ⟨e, z⟩ <;> subst e
        · exact ⟨.int, rfl, hty.1 z, hts _ (by decide +kernel), fun j => by unfold zav; rw [z, (hnx.2.1 j).1]; rfl, by decide, rfl⟩
        · exact ⟨.long, rfl, hty.2.1 z, hts _ (by decide +kernel), fun j => by unfold zav; rw [z, (hnx.2.1 j).2.1]; rfl, by decide, rfl⟩
        · exact ⟨.byte, rfl, hty.2.2.1 z, hts _ (by decide +kernel), fun j => by unfold zav; rw [z, (hnx.2.1 j).1]; rfl, by decide, rfl⟩
        · exact ⟨.boolean, rfl, hty.2.2.2 z, hts _ (by decide +kernel), fun j => by unfold zav; rw [z, (hnx.2.1 j).1]; rfl, by decide, rfl⟩
      rw [hty2, hcb.2] at hRA
      subst haty
      refine va_newaK (N := x.toNat) hx hb harr rfl hdg rfl (fun z => by rw [zn_lt0 hx1] at z; omega) (zn_nat hx1) (by have := hcb.1; have h8 : x.toNat * componentBytes (newarray.typeOf aty) ≤ x.toNat * 8 := Nat.mul_le_mul_left _ this; omega) (by omega) (by omega) rfl (fun H1 cA e1 z1 o1 _ hNm => ?_)
      have hcA : cA = aC t := Option.some.inj (hNm.symm.trans hRA)
      subst hcA
      obtain ⟨hctx, hold, hnew⟩ := zctx_new (H1 := H1) (st := r) ⟨hH, hW, hk, hc, hs, hL, hlv, hsv, hB, hS⟩ hnx hm (znw_a h12) h104 (fun _ => by rw [hnl]; omega) z1 o1 ⟨fun z => absurd z h12, fun _ => by
        rw [show zrn ρ t (mC M t) H.size t (mC M t) = H.size by unfold zrn; rw [if_pos ⟨rfl, rfl⟩], hnl, e1]
        exact congrArg some (arrV_cg fun j _ => (hdef j).symm)⟩
      have e1 : zcells M - zcells M0 + 1 = zcells (pNew (pLen M t (mC M t) x.toNat) t x.toNat) - zcells M0 := by show _ = zcells M + 1 - zcells M0; omega
      have e2 : zslots M - zslots M0 + x.toNat = zslots (pNew (pLen M t (mC M t) x.toNat) t x.toNat) - zslots M0 := by show _ = zslots M + x.toNat - zslots M0; omega
      have e3 : Value.ref H.size :: r.map (zcv ρ) = (.inr (.inr (t, some (mC M t))) :: r : List ZV).map (zcv (zrn ρ t (mC M t) H.size)) := by
        rw [List.map_cons, zmap_same hold hsv]
        show _ = va_rf (some _) :: _
        rw [hnew]
        rfl
      show W p l e R s m args below meth c H1 locs _ _ Q (F0 m (pc + 2) lsC (Value.ref H.size :: r.map (zcv ρ)))
      rw [e1, e2, e3]
      exact ih h hF hd5 hsp hT hctx ⟨fun t' i' hi' => by rw [hold t' i' (Nat.lt_of_lt_of_le hi' (hmo.1 t'))]; exact hag.1 t' i' hi', (zrn_102 hm).trans hag.2⟩ (zmo_tr hmo (zmo_newl M _ _ _ _)) hR hret
    case anewarray idx => 
      replace hok := zand2 hok; obtain ⟨hok, h104⟩ := hok
      replace hok := zand2 hok; obtain ⟨hlen, hok⟩ := hok; have hlen := Nat.eq_of_beq_eq_true hlen; subst hlen
      have h104 := Nat.le_of_ble_eq_true h104
      rcases st with _ | ⟨x | x | x, r⟩ <;> first | (cases h; done) | skip
      replace hsv := List.forall_mem_cons.mp hsv; obtain ⟨hx1, hsv⟩ := hsv
      rcases ax with _ | ⟨t, _ | ⟨j, ax⟩⟩ <;> first | (cases hok; done) | skip
      change Nat.succ t ≤ 104 at h104
      replace hok := zand2 hok; obtain ⟨hz, hok⟩ := hok
      have hz := Nat.eq_of_beq_eq_true hz
      replace h := zgd h; obtain ⟨hbd, h⟩ := h
      change zex zG d tab (pc + 3) ls (.inr (.inr (t, some (mC M t))) :: r) (pNew (pLen M t (mC M t) x.toNat) t x.toNat) n = some (rr, M') at h
      have hm2 := zex_mo h
      have hc1 : zcells M0 ≤ zcells M := hmo.2.1
      have hs1 : zslots M0 ≤ zslots M := hmo.2.2.1
      have hc2 : zcells M + 1 ≤ zcells M' := hm2.2.1
      have hs2 : zslots M + x.toNat ≤ zslots M' := hm2.2.2.1
      have hnx := znx_a M t x.toNat x.toNat
      have hnl := znx_len M t x.toNat x.toNat
      obtain ⟨hm, h12⟩ := zmt_a (t := t) (by omega)
      obtain ⟨C0, hty, hov⟩ : ∃ C0, zty t = .object C0 ∧ (Jvm.Cond.arrayOver (.object C0)).before args s = true := by rcases zek_4 hz with rfl | rfl | rfl <;> exact ⟨_, rfl, hts _ (by decide +kernel)⟩
      rw [hty] at hok
      have hRA := (zks_at hs h104).2
      rw [hty] at hRA
      obtain ⟨kA0, comp0, k1, k2, k3, k4⟩ := hRA
      refine W.anew hx hb hown (hts _ (zlk_m hok)) hov rfl hdg rfl (fun z => by rw [zn_lt0 hx1] at z; omega) (by rw [zn_nat hx1]; omega) (by omega) (by rw [zn_nat hx1]; omega) (fun cA kA comp f1 f2 f3 f4 => ?_)
      rw [zn_nat hx1]
      have hcA : cA = aC t := Option.some.inj (f1.symm.trans k4)
      subst hcA
      generalize hH1 : H.push ({ cls := aC t, slots := Array.replicate x.toNat .null, vm := .none } : Cell) = H1
      have z1 : H1.size = H.size + 1 := by rw [← hH1, Array.size_push]
      have e1 : H1[H.size]? = some (arrV (aC t) x.toNat (fun _ => .null)) := by rw [← hH1, Array.getElem?_push_size, ← arrV_new]
      have o1 : ∀ q : Nat, q < H.size → H1[q]? = H[q]? := fun q hq => by rw [← hH1, Array.getElem?_push, if_neg (Nat.ne_of_lt hq)]
      obtain ⟨hctx, hold, hnew⟩ := zctx_new (H1 := H1) (st := r) ⟨hH, hW, hk, hc, hs, hL, hlv, hsv, hB, hS⟩ hnx hm (znw_a h12) h104 (fun _ => by rw [hnl]; omega) z1 o1 ⟨fun z => absurd z h12, fun _ => by
        rw [show zrn ρ t (mC M t) H.size t (mC M t) = H.size by unfold zrn; rw [if_pos ⟨rfl, rfl⟩], hnl, e1]
        exact congrArg some (arrV_cg fun j _ => by unfold zav; rw [hz, (hnx.2.1 j).2.2]; rfl)⟩
      have e1 : zcells M - zcells M0 + 1 = zcells (pNew (pLen M t (mC M t) x.toNat) t x.toNat) - zcells M0 := by show _ = zcells M + 1 - zcells M0; omega
      have e2 : zslots M - zslots M0 + x.toNat = zslots (pNew (pLen M t (mC M t) x.toNat) t x.toNat) - zslots M0 := by show _ = zslots M + x.toNat - zslots M0; omega
      have e3 : Value.ref H.size :: r.map (zcv ρ) = (.inr (.inr (t, some (mC M t))) :: r : List ZV).map (zcv (zrn ρ t (mC M t) H.size)) := by
        rw [List.map_cons, zmap_same hold hsv]
        show _ = va_rf (some _) :: _
        rw [hnew]
        rfl
      show W p l e R s m args below meth c H1 locs _ _ Q (F0 m (pc + 3) lsC (Value.ref H.size :: r.map (zcv ρ)))
      rw [e1, e2, e3]
      exact ih h hF hd5 hsp hT hctx ⟨fun t' i' hi' => by rw [hold t' i' (Nat.lt_of_lt_of_le hi' (hmo.1 t'))]; exact hag.1 t' i' hi', (zrn_102 hm).trans hag.2⟩ (zmo_tr hmo (zmo_newl M _ _ _ _)) hR hret
    case invokevirtual idx => 
      replace hok := zand2 hok; obtain ⟨hlen, hok⟩ := hok; have hlen := Nat.eq_of_beq_eq_true hlen; subst hlen
      replace hok := zokc_x hok
      rcases hok with ⟨mi, n0, j, ar, q, rfl, hk2, -⟩ | ⟨mi, n0, j, nest, tg, ar, q, c0, rfl, hq, hst2, h12, hpd, hn0, hvw, hcls, hlk, ⟨hk2, hni⟩ | ⟨hk2, -⟩⟩ | ⟨a, b, j, ar, rfl, hk2, -⟩ | ⟨a, b, j, ar, rfl, hk2, -⟩ | ⟨a, b, j, ar, rfl, -, hlk⟩ | ⟨a, b, j, ar, rfl, hk2, -⟩ | ⟨a, b, j, ar, rfl, hk2, -⟩ | ⟨a, b, j, ar, rfl, hk2, -⟩ | ⟨a, b, j, ar, rfl, hk2, -⟩ <;> first | (cases hk2; done) | skip
      · have hlk := hlk.resolve_right (fun z => by cases z.2)
        cases hpo : zpo n0 [] st with
        | none => simp only [zst, ziv, hpo] at h; cases h
        | some w =>
          obtain ⟨as, rest⟩ := w
          rcases as with _ | ⟨x0 | x0 | ⟨t0, _ | i0⟩, as⟩ <;> simp only [zst, ziv, hpo] at h <;> first | (cases h; done) | skip
          replace h := zbx h; obtain ⟨hlr, h⟩ := h
          replace hlr := zand2 hlr; obtain ⟨ht0, hlr⟩ := hlr
          have ht0 := Nat.eq_of_beq_eq_true ht0
          subst ht0
          replace h := zcx h; obtain ⟨d', tab2, nl2, rv, M2, hd, hg, hsz, he, h⟩ := h
          obtain ⟨hot, hnl2, hom⟩ := zckm_x (hck mi tab2 nl2 hg) hq
          obtain ⟨y2, cc2, nl3, ret2, st2, js⟩ := q
          change nl3 = nl2 at hnl2
          subst hnl2
          obtain ⟨w1, w2, w3, w4, w5, w6, w7, w8, w9⟩ := zokm_x hom
          obtain ⟨pre, has, hst, hpl⟩ := zpo_spec hpo
          rw [List.append_nil] at has
          subst has
          have hv : ∀ v, v ∈ (.inr (.inr (t0, some i0)) :: as : List ZV) → zvl M v := fun v hv => hsv v (by rw [hst]; exact List.mem_append_left _ (List.mem_reverse.mpr hv))
          have hi0 : i0 < mC M t0 := hv _ List.mem_cons_self i0 rfl
          change as.length + 1 = n0 at hpl
          have hpd2 : (parseMethodDescriptor y2.desc).map (fun d => d.parameters.length) = some as.length := by rw [show as.length = n0 - 1 by omega]; exact hpd
          have hcat := zcat_sum ρ rest
          have hlr := Nat.le_of_ble_eq_true hlr
          have hm1 := zex_mo he
          have hm2 := zex_mo h
          have c1 : zcells M0 ≤ zcells M := hmo.2.1
          have c2 : zcells M ≤ zcells M2 := hm1.2.1
          have c3 : zcells M2 ≤ zcells M' := hm2.2.1
          have c4 : zslots M0 ≤ zslots M := hmo.2.2.1
          have c5 : zslots M ≤ zslots M2 := hm1.2.2.1
          have c6 : zslots M2 ≤ zslots M' := hm2.2.2.1
          have hR3 := hR.2.2.1
          have hR4 := hR.2.2.2
          have hR1 := hR.1
          have hR2 := hR.2.1
          have hstk : st.map (zcv ρ) = (as.map (zcv ρ)).reverse ++ Value.ref (ρ t0 i0) :: rest.map (zcv ρ) := by
            rw [hst, List.map_append, List.map_reverse, List.map_cons, List.reverse_cons, List.append_assoc]
            rfl
          refine zafter ih h hF hd5 hsp hT ⟨hH, hW, hk, hc, hs, hL, hlv, fun v hv => hsv v (by rw [hst]; exact List.mem_append_right _ hv), hB, hS⟩ hag hmo hm1 hR hret (a := (Value.ref (ρ t0 i0) :: as.map (zcv ρ)).toArray) ?_
          have hcell : ∃ cellB : Cell, H[ρ t0 i0]? = some cellB ∧ cellB.vm.isStatics = false ∧ s.vm.findClass c0.1 = some cellB.cls := by
            obtain ⟨cell, k1, k2, k3, -⟩ := (hH t0 i0 (by simp [zmt, h12]) hi0).1 h12
            exact ⟨cell, k1, by rw [k3]; rfl, by rw [k2]; exact (hs.1 t0 c0 hvw).2.1⟩
          change y2.cls = c0.1 at hcls
          obtain ⟨w10, w11⟩ := w9 hst2
          exact va_runV (C := c0.1) (Ts := lw_tz) (own := y.cls) (cc := cc) (nL := nl) (g := F0 m pc lsC (st.map (zcv ρ))) (b := ρ t0 i0) (As := as.map (zcv ρ)) (n := as.length) ⟨hx, hb, hml, hown, hts⟩ (zMet ih he hot w4 w7 hsz hW hk hv) (cwV as.length hts (zgood (fun w hw => by
            rcases List.mem_append.mp hw with z | z
            · simp only [List.mem_cons, List.not_mem_nil, or_false] at z
              rcases z with rfl | rfl | rfl | rfl
              · exact ⟨zlk_m hlk, rfl⟩
              · exact ⟨w10, rfl⟩
              · exact ⟨by rw [← hcls]; exact w11 hni, rfl⟩
              · exact ⟨by rw [← hcls]; exact w2, rfl⟩
            · rcases List.mem_cons.mp z with rfl | z
              · exact ⟨w1, rfl⟩
              · exact List.mem_filter.mp z)) rfl rfl rfl ⟨hcls, w5, w6, hpd2⟩ ⟨show d' + 1 + 1 ≤ R.frames by omega, show 8 + (nl3 + 11) + (64 * d' + 200) ≤ R.locals by omega⟩) ⟨zPc_blind, hcell, (zpre (as := .inr (.inr (t0, some i0)) :: as) hH hc hs hts hB hS)⟩ rfl (List.length_map _) hL.1 hstk (show 2 * 0 + ((rest.map (zcv ρ)).map fun v => v.category).sum ≤ 8 by omega) hdg ⟨show zcells M - zcells M0 + (zcells M2 - zcells M) ≤ R.cells by omega, show zslots M - zslots M0 + (zslots M2 - zslots M) ≤ R.slots by omega⟩
      · rcases st with _ | ⟨x1 | x1 | ⟨t1, _ | i1⟩, r⟩ <;> first | (cases h; done) | skip
        replace hsv := List.forall_mem_cons.mp hsv; obtain ⟨hx1, hsv⟩ := hsv
        replace h := zbx h; obtain ⟨hlr, h⟩ := h
        replace hlr := zand2 hlr; obtain ⟨ht1, hlr⟩ := hlr
        have ht1 := Nat.eq_of_beq_eq_true ht1
        subst ht1
        have hlr := Nat.le_of_ble_eq_true hlr
        have hcat := zcat_sum ρ r
        have hm2 := zex_mo h
        have c1 : zcells M0 ≤ zcells M := hmo.2.1
        have c3 : zcells M ≤ zcells M' := hm2.2.1
        have c4 : zslots M0 ≤ zslots M := hmo.2.2.1
        have c6 : zslots M ≤ zslots M' := hm2.2.2.1
        have hR3 := hR.2.2.1
        have hR4 := hR.2.2.2
        have hR1 := hR.1
        have hR2 := hR.2.1
        have hi1 : i1 < 30 := by have := hx1 i1 rfl; rw [hW.2.2.2.2.2.2.2.1] at this; exact this
        refine h4 hF hL.1 hdg (hts _ (zlk_m hlk)) (by omega) (by omega) (by omega) (by omega) (by omega) hc hB hS hi1 ?_
        change zex zG d tab (pc + 3) ls (.inl (mKI M 12 i1 2) :: r) M n = some (rr, M') at h
        rw [hk.1] at h
        exact ih h hF hd5 hsp hT ⟨hH, hW, hk, hc, hs, hL, hlv, List.forall_mem_cons.mpr ⟨by rw [← hk.1]; exact (hW.1 12 i1 2).2.2.1, hsv⟩, hB, hS⟩ hag hmo hR hret
    case invokespecial idx => 
      replace hok := zand2 hok; obtain ⟨hlen, hok⟩ := hok; have hlen := Nat.eq_of_beq_eq_true hlen; subst hlen
      replace hok := zokc_x hok
      rcases hok with ⟨mi, n0, j, ar, q, rfl, hk2, -⟩ | ⟨mi, n0, j, nest, tg, ar, q, c0, rfl, hq, hst2, h12, hpd, hn0, hvw, hcls, hlk, ⟨hk2, -⟩ | ⟨-, hni, hrn⟩⟩ | ⟨a, b, j, ar, rfl, -, hlk⟩ | ⟨a, b, j, ar, rfl, hk2, -⟩ | ⟨a, b, j, ar, rfl, hk2, -⟩ | ⟨a, b, j, ar, rfl, hk2, -⟩ | ⟨a, b, j, ar, rfl, hk2, -⟩ | ⟨a, b, j, ar, rfl, hk2, -⟩ | ⟨a, b, j, ar, rfl, hk2, -⟩ <;> first | (cases hk2; done) | skip
      · skip
        cases hpo : zpo n0 [] st with
        | none => simp only [zst, ziv, hpo] at h; cases h
        | some w =>
          obtain ⟨as, rest⟩ := w
          rcases as with _ | ⟨x0 | x0 | ⟨t0, _ | i0⟩, as⟩ <;> simp only [zst, ziv, hpo] at h <;> first | (cases h; done) | skip
          replace h := zbx h; obtain ⟨hlr, h⟩ := h
          replace hlr := zand2 hlr; obtain ⟨ht0, hlr⟩ := hlr
          have ht0 := Nat.eq_of_beq_eq_true ht0
          subst ht0
          replace h := zcx h; obtain ⟨d', tab2, nl2, rv, M2, hd, hg, hsz, he, h⟩ := h
          obtain ⟨hot, hnl2, hom⟩ := zckm_x (hck mi tab2 nl2 hg) hq
          obtain ⟨y2, cc2, nl3, ret2, st2, js⟩ := q
          change nl3 = nl2 at hnl2
          subst hnl2
          obtain ⟨w1, w2, w3, w4, w5, w6, w7, w8, w9⟩ := zokm_x hom
          obtain ⟨pre, has, hst, hpl⟩ := zpo_spec hpo
          rw [List.append_nil] at has
          subst has
          have hv : ∀ v, v ∈ (.inr (.inr (t0, some i0)) :: as : List ZV) → zvl M v := fun v hv => hsv v (by rw [hst]; exact List.mem_append_left _ (List.mem_reverse.mpr hv))
          have hi0 : i0 < mC M t0 := hv _ List.mem_cons_self i0 rfl
          change as.length + 1 = n0 at hpl
          have hpd2 : (parseMethodDescriptor y2.desc).map (fun d => d.parameters.length) = some as.length := by rw [show as.length = n0 - 1 by omega]; exact hpd
          have hcat := zcat_sum ρ rest
          have hlr := Nat.le_of_ble_eq_true hlr
          have hm1 := zex_mo he
          have hm2 := zex_mo h
          have c1 : zcells M0 ≤ zcells M := hmo.2.1
          have c2 : zcells M ≤ zcells M2 := hm1.2.1
          have c3 : zcells M2 ≤ zcells M' := hm2.2.1
          have c4 : zslots M0 ≤ zslots M := hmo.2.2.1
          have c5 : zslots M ≤ zslots M2 := hm1.2.2.1
          have c6 : zslots M2 ≤ zslots M' := hm2.2.2.1
          have hR3 := hR.2.2.1
          have hR4 := hR.2.2.2
          have hR1 := hR.1
          have hR2 := hR.2.1
          have hstk : st.map (zcv ρ) = (as.map (zcv ρ)).reverse ++ Value.ref (ρ t0 i0) :: rest.map (zcv ρ) := by
            rw [hst, List.map_append, List.map_reverse, List.map_cons, List.reverse_cons, List.append_assoc]
            rfl
          refine zafter ih h hF hd5 hsp hT ⟨hH, hW, hk, hc, hs, hL, hlv, fun v hv => hsv v (by rw [hst]; exact List.mem_append_right _ hv), hB, hS⟩ hag hmo hm1 hR hret (a := (Value.ref (ρ t0 i0) :: as.map (zcv ρ)).toArray) ?_
          obtain ⟨w10, w11⟩ := w9 hst2
          change ret2 = none at hrn
          subst hrn
          change y2.name = "<init>" at hni
          have hgw : GoodIn lw_tz (Jvm.Cond.code y2 cc2 nl3 none :: lw_tz.filter zgdw) := zgood (fun w hw => by
            rcases List.mem_cons.mp hw with rfl | z
            · exact ⟨w1, rfl⟩
            · exact List.mem_filter.mp z)
          rcases hlk with hlk | ⟨hlk, -⟩
          · exact va_runI (Ts := lw_tz) (own := y.cls) (cc := cc) (nL := nl) (g := F0 m pc lsC (st.map (zcv ρ))) (b := ρ t0 i0) (As := as.map (zcv ρ)) (n := as.length) ⟨hx, hb, hml, hown, hts⟩ (zMet ih he hot w4 w7 hsz hW hk hv) (cwI as.length hts hgw rfl rfl rfl (hts _ w2) (hts _ (zlk_m hlk)) (hts _ w10) hni ⟨w5, w6, hpd2⟩ ⟨show d' + 1 + 1 ≤ R.frames by omega, show 8 + (nl3 + 11) + (64 * d' + 200) ≤ R.locals by omega⟩) ⟨zPc_blind, (zpre (as := .inr (.inr (t0, some i0)) :: as) hH hc hs hts hB hS)⟩ rfl (List.length_map _) hL.1 hstk (show 2 * 0 + ((rest.map (zcv ρ)).map fun v => v.category).sum ≤ 8 by omega) hdg ⟨show zcells M - zcells M0 + (zcells M2 - zcells M) ≤ R.cells by omega, show zslots M - zslots M0 + (zslots M2 - zslots M) ≤ R.slots by omega⟩
          · exact va_runIN (host := "WakePark") (Ts := lw_tz) (own := y.cls) (cc := cc) (nL := nl) (g := F0 m pc lsC (st.map (zcv ρ))) (b := ρ t0 i0) (As := as.map (zcv ρ)) (n := as.length) ⟨hx, hb, hml, hown, hts⟩ (zMet ih he hot w4 w7 hsz hW hk hv) ⟨va_cnB as.length hts hgw rfl rfl rfl (va_tabs rfl rfl (hts _ (zlk_m hlk))) (hts _ w2) ⟨w5, w6, hpd2⟩ ⟨show d' + 1 + 1 ≤ R.frames by omega, show 8 + (nl3 + 11) + (64 * d' + 200) ≤ R.locals by omega⟩, hni, hts _ w10⟩ ⟨zPc_blind, (zpre (as := .inr (.inr (t0, some i0)) :: as) hH hc hs hts hB hS)⟩ rfl (List.length_map _) hL.1 hstk (show 2 * 0 + ((rest.map (zcv ρ)).map fun v => v.category).sum ≤ 8 by omega) hdg ⟨show zcells M - zcells M0 + (zcells M2 - zcells M) ≤ R.cells by omega, show zslots M - zslots M0 + (zslots M2 - zslots M) ≤ R.slots by omega⟩
      · rcases st with _ | ⟨x1 | x1 | ⟨t1, _ | i1⟩, r⟩ <;> first | (cases h; done) | skip
        replace hsv := List.forall_mem_cons.mp hsv; obtain ⟨hx1, hsv⟩ := hsv
        replace h := zbx h; obtain ⟨hlr, h⟩ := h
        have hlr := Nat.le_of_ble_eq_true hlr
        have hcat := zcat_sum ρ r
        have hR1 := hR.1
        have hR2 := hR.2.1
        refine W.objInit hx hb hown (hts _ (zlk_m hlk)) (hts _ (by decide +kernel)) (hts _ (by decide +kernel)) (g := F0 m pc lsC (Value.ref (ρ t1 i1) :: r.map (zcv ρ))) rfl (hL.1.trans hml.symm) (rest := r.map (zcv ρ)) rfl hdg (by omega) (show 2 * 0 + ((r.map (zcv ρ)).map fun v => v.category).sum + 12 ≤ R.locals by omega) ?_
        exact ih h hF hd5 hsp hT ⟨hH, hW, hk, hc, hs, hL, hlv, hsv, hB, hS⟩ hag hmo hR hret
    case invokestatic idx => 
      replace hok := zand2 hok; obtain ⟨hlen, hok⟩ := hok; have hlen := Nat.eq_of_beq_eq_true hlen; subst hlen
      replace hok := zokc_x hok
      rcases hok with ⟨mi, n0, j, ar, q, rfl, -, hq, hst2, hlk, hpd⟩ | ⟨mi, n0, j, nest, tg, ar, q, c0, rfl, -, -, -, -, -, -, -, -, ⟨hk2, -⟩ | ⟨hk2, -⟩⟩ | ⟨a, b, j, ar, rfl, hk2, -⟩ | ⟨a, b, j, ar, rfl, -, hlk⟩ | ⟨a, b, j, ar, rfl, hk2, -⟩ | ⟨a, b, j, ar, rfl, -, hlk, hown5⟩ | ⟨a, b, j, ar, rfl, -, hlk⟩ | ⟨a, b, j, ar, rfl, -, hlk⟩ | ⟨a, b, j, ar, rfl, -, hlk⟩ <;> first | (cases hk2; done) | skip
      · cases hpo : zpo n0 [] st with
        | none => simp only [zst, ziv, hpo] at h; cases h
        | some w =>
          obtain ⟨as, rest⟩ := w
          simp only [zst, ziv, hpo] at h
          replace h := zbx h; obtain ⟨hlr, h⟩ := h
          replace h := zcx h; obtain ⟨d', tab2, nl2, rv, M2, hd, hg, hsz, he, h⟩ := h
          obtain ⟨hot, hnl2, hom⟩ := zckm_x (hck mi tab2 nl2 hg) hq
          obtain ⟨y2, cc2, nl3, ret2, st2, js⟩ := q
          change nl3 = nl2 at hnl2
          subst hnl2
          obtain ⟨w1, w2, w3, w4, w5, w6, w7, w8, w9⟩ := zokm_x hom
          obtain ⟨pre, has, hst, hpl⟩ := zpo_spec hpo
          rw [List.append_nil] at has
          subst has
          have hv : ∀ v, v ∈ as → zvl M v := fun v hv => hsv v (by rw [hst]; exact List.mem_append_left _ (List.mem_reverse.mpr hv))
          have hcat := zcat_sum ρ rest
          have hlr := Nat.le_of_ble_eq_true hlr
          have hm1 := zex_mo he
          have hm2 := zex_mo h
          have c1 : zcells M0 ≤ zcells M := hmo.2.1
          have c2 : zcells M ≤ zcells M2 := hm1.2.1
          have c3 : zcells M2 ≤ zcells M' := hm2.2.1
          have c4 : zslots M0 ≤ zslots M := hmo.2.2.1
          have c5 : zslots M ≤ zslots M2 := hm1.2.2.1
          have c6 : zslots M2 ≤ zslots M' := hm2.2.2.1
          have hR3 := hR.2.2.1
          have hR4 := hR.2.2.2
          have hR1 := hR.1
          have hR2 := hR.2.1
          refine zafter ih h hF hd5 hsp hT ⟨hH, hW, hk, hc, hs, hL, hlv, fun v hv => hsv v (by rw [hst]; exact List.mem_append_right _ hv), hB, hS⟩ hag hmo hm1 hR hret (a := (as.map (zcv ρ)).toArray) ?_
          exact va_runS (Ts := lw_tz) (own := y.cls) (cc := cc) (nL := nl) (g := F0 m pc lsC (st.map (zcv ρ))) (As := as.map (zcv ρ)) (n := n0) ⟨hx, hb, hml, hown, hts⟩ (zMet ih he hot w4 w7 hsz hW hk hv) (va_cwS n0 hts (zgood (fun w hw => by
            rcases List.mem_append.mp hw with z | z
            · simp only [List.mem_cons, List.not_mem_nil, or_false] at z
              rcases z with rfl | rfl | rfl
              · exact ⟨zlk_m hlk, rfl⟩
              · exact ⟨w8 hst2, rfl⟩
              · exact ⟨w2, rfl⟩
            · rcases List.mem_cons.mp z with rfl | z
              · exact ⟨w1, rfl⟩
              · exact List.mem_filter.mp z)) rfl rfl rfl ⟨w5, w6, hpd⟩ ⟨show d' + 1 + 1 ≤ R.frames by omega, show 8 + (nl3 + 11) + (64 * d' + 200) ≤ R.locals by omega⟩) ⟨zPc_blind, zpre hH hc hs hts hB hS⟩ rfl (by rw [List.length_map]; exact hpl) hL.1 (by show st.map (zcv ρ) = _; rw [hst, List.map_append, List.map_reverse]) (show 2 * 0 + ((rest.map (zcv ρ)).map fun v => v.category).sum ≤ 8 by omega) hdg ⟨show zcells M - zcells M0 + (zcells M2 - zcells M) ≤ R.cells by omega, show zslots M - zslots M0 + (zslots M2 - zslots M) ≤ R.slots by omega⟩
      · rcases st with _ | ⟨n1 | n1 | n1, _ | ⟨dp | dp | dp, _ | ⟨x2 | x2 | ⟨t2, _ | i2⟩, _ | ⟨s0 | s0 | s0, _ | ⟨x1 | x1 | ⟨t1, _ | i1⟩, r⟩⟩⟩⟩⟩ <;> first | (cases h; done) | skip
        replace hsv := List.forall_mem_cons.mp hsv; obtain ⟨hn1, hsv⟩ := hsv
        replace hsv := List.forall_mem_cons.mp hsv; obtain ⟨hdp, hsv⟩ := hsv
        replace hsv := List.forall_mem_cons.mp hsv; obtain ⟨hx2, hsv⟩ := hsv
        replace hsv := List.forall_mem_cons.mp hsv; obtain ⟨hs0, hsv⟩ := hsv
        replace hsv := List.forall_mem_cons.mp hsv; obtain ⟨hx1, hsv⟩ := hsv
        have hi1 : i1 < mC M t1 := hx1 i1 rfl
        have hi2 : i2 < mC M t2 := hx2 i2 rfl
        replace h := zbx h; obtain ⟨hlr, h⟩ := h
        have hlr := Nat.le_of_ble_eq_true hlr
        replace h := zemx h; rcases h with ⟨hz1, h⟩ | ⟨_, h⟩ | ⟨_, h⟩ | ⟨_, h⟩ | ⟨_, h⟩ | ⟨_, h⟩ | ⟨_, h⟩ <;> first | (cases h; done) | skip
        replace h := zemx h; rcases h with ⟨hz2, h⟩ | ⟨_, h⟩ | ⟨_, h⟩ | ⟨_, h⟩ | ⟨_, h⟩ | ⟨_, h⟩ | ⟨_, h⟩ <;> first | (cases h; done) | skip
        replace h := zgd h; obtain ⟨hbd, h⟩ := h
        obtain ⟨m1, g1⟩ := zmt_a (t := t1) (by omega)
        obtain ⟨m2, g2⟩ := zmt_a (t := t2) (by omega)
        have h1104 : t1 < 104 := by rcases Nat.lt_or_ge t1 104 with z | z <;> first | exact z | (have := hW.2.2.2.2.2.2.2.2.2.2.2.2.2.2 t1 z; omega)
        have h2104 : t2 < 104 := by rcases Nat.lt_or_ge t2 104 with z | z <;> first | exact z | (have := hW.2.2.2.2.2.2.2.2.2.2.2.2.2.2 t2 z; omega)
        have e1 : H[ρ t1 i1]? = some (arrV (aC t1) (mN M t1 i1) (fun j => .int (Int32.ofInt (mI M t1 i1 j)))) := by rw [(hH t1 i1 m1 hi1).2 g1]; exact congrArg some (arrV_cg fun j _ => by unfold zav; rw [hz1]; rfl)
        have e2 : H[ρ t2 i2]? = some (arrV (aC t2) (mN M t2 i2) (fun j => .int (Int32.ofInt (mI M t2 i2 j)))) := by rw [(hH t2 i2 m2 hi2).2 g2]; exact congrArg some (arrV_cg fun j _ => by unfold zav; rw [hz2]; rfl)
        have y1 := (zks_at hs h1104).1
        rw [(zty_of (t := t1) (by omega)).1 hz1] at y1
        have y2 := (zks_at hs h2104).1
        rw [(zty_of (t := t2) (by omega)).1 hz2] at y2
        have hcat := zcat_sum ρ r
        have hR1 := hR.1
        have hR2 := hR.2.1
        have hnw : nativeFrameWords "java/lang/System" "arraycopy" 5 + 11 ≤ 100 := by decide +kernel
        refine zw_copy hx hb (hml.trans hL.1.symm) hown (hts _ (zlk_m hlk)) (hts _ (by decide +kernel)) (hts _ (by decide +kernel)) (hts _ (by decide +kernel)) e1 e2 y1 y2 (by rw [zn_lt0 hs0]; omega) (by rw [zn_lt0 hdp]; omega) (by rw [zn_lt0 hn1]; omega) (by rw [zn_nat hs0, zn_nat hn1]; omega) (by rw [zn_nat hdp, zn_nat hn1]; omega) (by omega) (by omega) hdg (fun H1 L z1 z2 z3 z4 => ?_)
        rw [zn_nat hs0, zn_nat hdp, zn_nat hn1] at z3
        exact ih h hF hd5 hsp hT ⟨zHp_cp hH hW.2.2.2.1 hi2 hz1 hz2 z2 z3, zWf_cp hW, hk, hc, hs, hL, hlv, hsv, hB, ⟨by rw [z1]; exact hS.1, fun q q1 q2 => by rw [z2 q (fun z => q2 (by rw [z]; exact hW.2.2.2.2.1 t2 i2 m2 hi2))]; exact hS.2.1 q q1 q2, fun q hq => by
          rcases List.mem_append.mp hq with z | z
          · exact hS.2.2 q z
          · rw [z4 q z]; exact hW.2.2.2.2.1 t2 i2 m2 hi2⟩⟩ hag hmo hR hret
      · rcases st with _ | ⟨x2 | x2 | ⟨t2, _ | o2⟩, _ | ⟨p3 | p3 | p3, _ | ⟨p2 | p2 | p2, _ | ⟨p1 | p1 | p1, _ | ⟨p0 | p0 | p0, _ | ⟨x1 | x1 | ⟨t1, _ | o1⟩, r⟩⟩⟩⟩⟩⟩ <;> first | (cases h; done) | skip
        replace hsv := List.forall_mem_cons.mp hsv; obtain ⟨hx2, hsv⟩ := hsv
        replace hsv := List.forall_mem_cons.mp hsv; obtain ⟨hp3, hsv⟩ := hsv
        replace hsv := List.forall_mem_cons.mp hsv; obtain ⟨hp2, hsv⟩ := hsv
        replace hsv := List.forall_mem_cons.mp hsv; obtain ⟨hp1, hsv⟩ := hsv
        replace hsv := List.forall_mem_cons.mp hsv; obtain ⟨hp0, hsv⟩ := hsv
        replace hsv := List.forall_mem_cons.mp hsv; obtain ⟨hx1, hsv⟩ := hsv
        replace h := zbx h; obtain ⟨hlr, h⟩ := h
        obtain ⟨hlr, hlr3⟩ := zand2 hlr
        obtain ⟨ht2, ht1⟩ := zand2 hlr
        have ht2 := Nat.eq_of_beq_eq_true ht2
        have ht1 := Nat.eq_of_beq_eq_true ht1
        have hlr3 := Nat.le_of_ble_eq_true hlr3
        subst ht2; subst ht1
        have hcat := zcat_sum ρ r
        have hd4 := (hd5 hown5).2
        have hR3 := hR.2.2.1
        have hR4 := hR.2.2.2
        have hR1 := hR.1
        have hR2 := hR.2.1
        have c1 : zcells M0 ≤ zcells M := hmo.2.1
        have c4 : zslots M0 ≤ zslots M := hmo.2.2.1
        change (if zrt p0 p1 p2 p3 = 1 then zex zG d tab (pc + 3) ls (.inl 1 :: r) (pCe M 6) n else zex zG d tab (pc + 3) ls (.inl 0 :: r) (pL M 103 o2 0 (zrv p0 p1 p2 p3)) n) = some (rr, M') at h
        by_cases hz : zrt p0 p1 p2 p3 = 1
        · rw [if_pos hz] at h
          have hm2 := zex_mo h
          have c3 : zcells M + 1 ≤ zcells M' := hm2.2.1
          have c6 : zslots M + 6 ≤ zslots M' := hm2.2.2.1
          refine h5 (hd5 hown5).1 hF hL.1 hown5 hdg (hts _ (zlk_m hlk)) hp0 hp1 hp2 hp3 (by omega) (by omega) (by omega) (fun _ => ⟨by omega, by omega⟩) (by omega) (by omega) hH hW hc hs hB hS (hx1 _ rfl) (hx2 _ rfl) (fun _ H1 L z1 z2 z3 => ?_) (fun z => absurd hz z)
          have e1 : zcells M - zcells M0 + 1 = zcells (pCe M 6) - zcells M0 := by show _ = zcells M + 1 - zcells M0; omega
          have e2 : zslots M - zslots M0 + 6 = zslots (pCe M 6) - zslots M0 := by show _ = zslots M + 6 - zslots M0; omega
          rw [e1, e2]
          exact ih h hF hd5 hsp hT ⟨zHp_ce (n := 6) hH z2, hW, hk, hc, hs, hL, hlv, List.forall_mem_cons.mpr ⟨⟨by decide, by decide⟩, hsv⟩, hB, ⟨Nat.le_trans hS.1 z1, fun q q1 q2 => by rw [z2 q (Nat.lt_of_lt_of_le q1 hS.1)]; exact hS.2.1 q q1 q2, fun q hq => by
            rcases List.mem_append.mp hq with z | z
            · exact hS.2.2 q z
            · exact z3 q z⟩⟩ hag (zmo_tr hmo (zmo_ce M 6)) hR hret
        · rw [if_neg hz] at h
          have hm2 := zex_mo h
          have c3 : zcells M ≤ zcells M' := hm2.2.1
          have c6 : zslots M ≤ zslots M' := hm2.2.2.1
          have ho2 : o2 < mC M 103 := hx2 _ rfl
          refine h5 (hd5 hown5).1 hF hL.1 hown5 hdg (hts _ (zlk_m hlk)) hp0 hp1 hp2 hp3 (by omega) (by omega) (by omega) (fun z => absurd z hz) (by omega) (by omega) hH hW hc hs hB hS (hx1 _ rfl) ho2 (fun z => absurd z hz) (fun _ H1 L z0 z1 z2 z4 z3 => ?_)
          exact ih h hF hd5 hsp hT ⟨zHp_pLa hH hW.2.2.2.1 ho2 rfl z2 z4, zWf_pL hW z0, hk, hc, hs, hL, hlv, List.forall_mem_cons.mpr ⟨⟨by decide, by decide⟩, hsv⟩, hB, ⟨by rw [z1]; exact hS.1, fun q q1 q2 => by rw [z2 q (fun z => q2 (by rw [z]; exact hW.2.2.2.2.1 103 o2 rfl ho2))]; exact hS.2.1 q q1 q2, fun q hq => by
            rcases List.mem_append.mp hq with z | z
            · exact hS.2.2 q z
            · exact z3 q z⟩⟩ hag hmo hR hret
      · rcases st with _ | ⟨v1 | v1 | v1, _ | ⟨u1 | u1 | u1, r⟩⟩ <;> first | (cases h; done) | skip
        replace hsv := List.forall_mem_cons.mp hsv; obtain ⟨hv1, hsv⟩ := hsv
        replace hsv := List.forall_mem_cons.mp hsv; obtain ⟨hu1, hsv⟩ := hsv
        replace h := zbx h; obtain ⟨hlr, h⟩ := h
        have hlr := Nat.le_of_ble_eq_true hlr
        have hcat := zcat_sum ρ r
        have hm2 := zex_mo h
        have c1 : zcells M0 ≤ zcells M := hmo.2.1
        have c3 : zcells M ≤ zcells M' := hm2.2.1
        have c4 : zslots M0 ≤ zslots M := hmo.2.2.1
        have c6 : zslots M ≤ zslots M' := hm2.2.2.1
        have hR3 := hR.2.2.1
        have hR4 := hR.2.2.2
        have hR1 := hR.1
        have hR2 := hR.2.1
        refine va_mmax hx hb (hml.trans hL.1.symm) hown (hts _ (zlk_m hlk)) (hts _ (by decide +kernel)) (hts _ (by decide +kernel)) (hts _ (by decide +kernel)) (by omega) (by omega) (by omega) (by omega) hdg ?_
        have hval : (if Int32.ofInt u1 < Int32.ofInt v1 then Int32.ofInt v1 else Int32.ofInt u1) = Int32.ofInt (zmax u1 v1) := by unfold zmax; by_cases z : u1 < v1 <;> simp [z, zn_lt hu1 hv1]
        rw [hval]
        exact ih h hF hd5 hsp hT ⟨hH, hW, hk, hc, hs, hL, hlv, List.forall_mem_cons.mpr ⟨(by unfold zmax; split <;> assumption), hsv⟩, hB, hS⟩ hag hmo hR hret
      · rcases st with _ | ⟨v1 | v1 | v1, _ | ⟨u1 | u1 | u1, r⟩⟩ <;> first | (cases h; done) | skip
        replace hsv := List.forall_mem_cons.mp hsv; obtain ⟨hv1, hsv⟩ := hsv
        replace hsv := List.forall_mem_cons.mp hsv; obtain ⟨hu1, hsv⟩ := hsv
        replace h := zbx h; obtain ⟨hlr, h⟩ := h
        have hlr := Nat.le_of_ble_eq_true hlr
        have hcat := zcat_sum ρ r
        have hm2 := zex_mo h
        have c1 : zcells M0 ≤ zcells M := hmo.2.1
        have c3 : zcells M ≤ zcells M' := hm2.2.1
        have c4 : zslots M0 ≤ zslots M := hmo.2.2.1
        have c6 : zslots M ≤ zslots M' := hm2.2.2.1
        have hR3 := hR.2.2.1
        have hR4 := hR.2.2.2
        have hR1 := hR.1
        have hR2 := hR.2.1
        refine va_mmin hx hb (hml.trans hL.1.symm) hown (hts _ (zlk_m hlk)) (hts _ (by decide +kernel)) (hts _ (by decide +kernel)) (hts _ (by decide +kernel)) (by omega) (by omega) (by omega) (by omega) hdg ?_
        have hval : (if Int32.ofInt v1 < Int32.ofInt u1 then Int32.ofInt v1 else Int32.ofInt u1) = Int32.ofInt (zmin u1 v1) := by unfold zmin; by_cases z : v1 < u1 <;> simp [z, zn_lt hv1 hu1]
        rw [hval]
        exact ih h hF hd5 hsp hT ⟨hH, hW, hk, hc, hs, hL, hlv, List.forall_mem_cons.mpr ⟨(by unfold zmin; split <;> assumption), hsv⟩, hB, hS⟩ hag hmo hR hret
      · rcases st with _ | ⟨u1 | u1 | u1, r⟩ <;> first | (cases h; done) | skip
        replace hsv := List.forall_mem_cons.mp hsv; obtain ⟨hu1, hsv⟩ := hsv
        replace h := zbx h; obtain ⟨hlr, h⟩ := h
        have hlr := Nat.le_of_ble_eq_true hlr
        have hcat := zcat_sum ρ r
        have hm2 := zex_mo h
        have c1 : zcells M0 ≤ zcells M := hmo.2.1
        have c3 : zcells M ≤ zcells M' := hm2.2.1
        have c4 : zslots M0 ≤ zslots M := hmo.2.2.1
        have c6 : zslots M ≤ zslots M' := hm2.2.2.1
        have hR3 := hR.2.2.1
        have hR4 := hR.2.2.2
        have hR1 := hR.1
        have hR2 := hR.2.1
        refine va_mabs hx hb (hml.trans hL.1.symm) hown (hts _ (zlk_m hlk)) (hts _ (by decide +kernel)) (hts _ (by decide +kernel)) (hts _ (by decide +kernel)) (by omega) (by omega) (by omega) (by omega) hdg ?_
        have hval : (if 0 ≤ Int32.ofInt u1 then Int32.ofInt u1 else 0 - Int32.ofInt u1) = Int32.ofInt (zabs u1) := by
          have e0 : (0 : Int32) ≤ Int32.ofInt u1 ↔ 0 ≤ u1 := zn_le zr_0 hu1
          unfold zabs
          by_cases z : 0 ≤ u1
          · rw [if_pos z, if_pos (e0.mpr z)]
          · rw [if_neg z, if_neg (fun w => z (e0.mp w))]; exact zn_sub 0 u1
        rw [hval]
        exact ih h hF hd5 hsp hT ⟨hH, hW, hk, hc, hs, hL, hlv, List.forall_mem_cons.mpr ⟨(by show zr32 _; unfold zabs; split; exact hu1; exact z32_r _), hsv⟩, hB, hS⟩ hag hmo hR hret
    all_goals (cases h)
theorem zsnd_0 : zSnd l dC dI aC B sl sx hl 0 := by
  intro d tab pc ls st M r M' h
  cases h
theorem zsnd (hck : ∀ (mi : Nat) (tab : ZT) (nl : Nat), zG mi = some (tab, nl) → zckm mi tab nl = true) (h4 : zR4 l B sl sx) (h5 : hl = true → zR5 l dC dI aC B sl sx) (n : Nat) : zSnd l dC dI aC B sl sx hl n := by
  induction n with
  | zero => exact zsnd_0
  | succ n ih => exact zsnd_step hck h4 h5 ih
end ZTHM
end
section
section ZR4S
variable {l : Launch} {B sl : Nat} {sx : Nat → Int}
def zOws : List Jvm.Cond := .code yJx29ce0_ordinal_8abf5 cJx29ce0_ordinal_8abf5 1 (some .int) :: [.fieldLink "java/lang/Enum" 7 "java/lang/Enum" "ordinal" "I"]
def zOP (a : Nat) (w : Int32) (B : Nat) : Array Value → State → Prop := fun v U => v = #[.ref a] ∧ va_OF "java/lang/Enum" "ordinal" "I" (.int w) a (zA B) U U.heap
def zOQ (w : Int32) : Array Value → State → Outcome → State → Prop := fun _ st oc t => oc = .returned (some (.int w)) ∧ t.heap = st.heap
theorem zOP_blind {a : Nat} {w : Int32} : FrameBlind (zOP a w B) := by
  intro v U g mk h
  exact ⟨h.1, va_OF.moved (u := U) (U := U.calling g mk v) (Vm.Alike.refl U.vm) h.2⟩
theorem zOmet (a : Nat) (w : Int32) : Met l yJx29ce0_ordinal_8abf5 zOws {} (zOP a w B) (zOQ w) 0 0 (fun _ => False) := by
  refine va_MetF (by decide +kernel) rfl ?_
  intro p e s m args below meth c s₁ hB hml hP
  obtain ⟨hargs, hO⟩ := hP
  subst hargs
  have hts := atoms_spec (ws := zOws) hB.pre
  have hown : s.vm.findClass "java/lang/Enum" = some m.cls := findClass_of_methodNamed hB.named
  rw [show (#[Value.ref a] : Array Value) = [Value.ref a].toArray from rfl, lg_entry_eq]
  have hlv := lv_entry [Value.ref a] (n := 1) (by show (1:Nat) ≤ 1; exact Nat.le_refl _)
  refine lv_aload_n hB.exec hB.bytes (show decode cJx29ce0_ordinal_8abf5 0 = .ok (.aload_n 0, 1) by decide +kernel) rfl (hlv.2.2 _ (List.mem_cons_self)) ?_
  refine vk_getf (A := zA B) hB.exec hB.bytes hO ⟨Nat.le_refl _, fun _ _ _ => rfl, fun _ h => by cases h⟩ hown (hts _ (by decide +kernel)) (fun _ z => z) (show decode cJx29ce0_ordinal_8abf5 1 = .ok (.getfield 7, 3) by decide +kernel) ?_
  exact W.iret hB.exec hB.bytes hB.returns (fun t ht _ => ⟨rfl, ht⟩) (fun _ h => by cases h) (show decode cJx29ce0_ordinal_8abf5 4 = .ok (.ireturn, 1) by decide +kernel) hB.notSynchronized
theorem zR4_ok : zR4 l B sl sx := by
  intro p e s m args below meth c R H locs cells slots lsC Q y cc nl pc idx ρ i rest hF hls hdg hlk hcat h1 h2 h3 h4 hc hB hS hi kk
  obtain ⟨hx, hb, hml, hown, hts, -⟩ := hF
  have hts2 : ∀ w ∈ (Jvm.Cond.methodLink y.cls idx ⟨"WakePark$Word", "ordinal", "()I"⟩ :: lw_tz), w.before args s = true := fun w hw => by
    rcases List.mem_cons.mp hw with rfl | z
    · exact hlk
    · exact hts w z
  have hgood : GoodIn (Jvm.Cond.methodLink y.cls idx ⟨"WakePark$Word", "ordinal", "()I"⟩ :: lw_tz) (va_wsU y.cls idx "WakePark$Word" "java/lang/Enum" ⟨"WakePark$Word", "ordinal", "()I"⟩ yJx29ce0_ordinal_8abf5 zOws) := by
    intro w hw
    rcases List.mem_cons.mp hw with rfl | z
    · exact ⟨List.mem_cons_self, .inl rfl⟩
    · have h0 : ∀ w ∈ ([.sameMethod "WakePark$Word" "java/lang/Enum" "ordinal" "()I", .selects "WakePark$Word" ⟨"WakePark$Word", "ordinal", "()I"⟩ yJx29ce0_ordinal_8abf5, .instanceMethod yJx29ce0_ordinal_8abf5, .initialized "java/lang/Enum", .code yJx29ce0_ordinal_8abf5 cJx29ce0_ordinal_8abf5 1 (some .int), .fieldLink "java/lang/Enum" 7 "java/lang/Enum" "ordinal" "I"] : List Jvm.Cond), w ∈ lw_tz ∧ zgdw w = true := by decide +kernel
      have h1 := h0 w z
      exact ⟨List.mem_cons_of_mem _ h1.1, zgdw_of h1.2⟩
  have hO := (hc.2.2.2.2.2.2.1 i hi).kept hS.2.1
  have hcell : ∃ cellB : Cell, H[ρ 12 i]? = some cellB ∧ cellB.vm.isStatics = false ∧ s.vm.findClass "WakePark$Word" = some cellB.cls := by
    obtain ⟨cell, k1, k2, k3, -⟩ := (hc.2.2.2.1 i hi).kept hS.2.1
    exact ⟨cell, k1, k2, k3⟩
  have hr := va_runU (p := p) (e := e) (below := below) (meth := meth) (R := R) (locs := locs) (cells := cells) (slots := slots) (H := H) (cc := cc) (nL := nl) (own := y.cls) (C := "WakePark$Word") (owner := "java/lang/Enum") (x := ⟨"WakePark$Word", "ordinal", "()I"⟩) (As := []) (rest := rest) (g := F0 m pc lsC (.ref (ρ 12 i) :: rest)) (b := ρ 12 i) ⟨hx, hb, hml, hown, hts2⟩ (zOmet (l := l) (B := B) (ρ 12 i) (Int32.ofInt (zKI sx 12 i 2))) (va_cwU 0 hts2 hgood rfl rfl rfl rfl ⟨by decide, by decide, by decide +kernel⟩ ⟨by show 0 + 1 ≤ _; omega, by show 8 + (1 + 11) + 0 ≤ _; omega⟩)
    ⟨zOP_blind, hcell, fun U hU hWm => ⟨rfl, by rw [hU]; exact va_OF.moved hWm.alike hO⟩⟩ rfl rfl hls rfl (by show 2 * 0 + _ ≤ 8; omega) hdg ⟨by show cells + 0 ≤ _; omega, by show slots + 0 ≤ _; omega⟩
  intro T hT X
  obtain ⟨v, st₀, t, T', L, h0, X', hL, e1, e2, ⟨hv, hh⟩, st⟩ := hr T hT X
  have hL0 : L = [] := by
    cases L with
    | nil => rfl
    | cons q L => exact (hL q List.mem_cons_self).elim
  subst hL0
  rw [List.append_nil] at X'
  have hv : v = some (.int (Int32.ofInt (zKI sx 12 i 2))) := Outcome.returned.inj hv
  subst hv
  obtain ⟨t2, a1, b1⟩ := kk T' (by rw [e1, hh, h0]) X'
  exact ⟨t2, st t2 a1, b1⟩
end ZR4S
end
