-- ===== PART A: goes FIRST, ahead of the names: the tables' words, and 'selects' of the private methods out of them =====
/-- a private method of a class that the tables say can be made, by its rows of tables_1 -/
def lw_okq (q : MethodName × Nat) : Prop := (q.1.cls ≠ "java/lang/invoke/MethodHandle" ∧ q.1.cls ≠ "java/lang/invoke/VarHandle") ∧ Cond.instantiable q.1.cls q.2 ∈ tables_1 ∧ Cond.privateMethod q.1 ∈ tables_1 ∧ Cond.instanceMethod q.1 ∈ tables_1
theorem lw_p0 : lw_okq (⟨"MoonLine", "find", "(I)I"⟩, 18) := ⟨⟨by decide +kernel, by decide +kernel⟩, List.mem_of_getElem? (i := 17) (by decide +kernel), List.mem_of_getElem? (i := 322) (by decide +kernel), List.mem_of_getElem? (i := 323) (by decide +kernel)⟩
theorem lw_p1 : lw_okq (⟨"MoonLine", "refusalOfPlace", "(II)I"⟩, 18) := ⟨⟨by decide +kernel, by decide +kernel⟩, List.mem_of_getElem? (i := 17) (by decide +kernel), List.mem_of_getElem? (i := 340) (by decide +kernel), List.mem_of_getElem? (i := 341) (by decide +kernel)⟩
theorem lw_p2 : lw_okq (⟨"MoonLine", "refusalOfRow", "(I)I"⟩, 18) := ⟨⟨by decide +kernel, by decide +kernel⟩, List.mem_of_getElem? (i := 17) (by decide +kernel), List.mem_of_getElem? (i := 344) (by decide +kernel), List.mem_of_getElem? (i := 345) (by decide +kernel)⟩
theorem lw_p3 : lw_okq (⟨"MoonLine", "refusalOfText", "(I)I"⟩, 18) := ⟨⟨by decide +kernel, by decide +kernel⟩, List.mem_of_getElem? (i := 17) (by decide +kernel), List.mem_of_getElem? (i := 402) (by decide +kernel), List.mem_of_getElem? (i := 403) (by decide +kernel)⟩
theorem lw_p4 : lw_okq (⟨"MoonLine$Crowd", "takes", "(II)Z"⟩, 4) := ⟨⟨by decide +kernel, by decide +kernel⟩, List.mem_of_getElem? (i := 29) (by decide +kernel), List.mem_of_getElem? (i := 422) (by decide +kernel), List.mem_of_getElem? (i := 423) (by decide +kernel)⟩
theorem lw_p5 : lw_okq (⟨"MoonLine$Crowd", "takesLetter", "(I)Z"⟩, 4) := ⟨⟨by decide +kernel, by decide +kernel⟩, List.mem_of_getElem? (i := 29) (by decide +kernel), List.mem_of_getElem? (i := 426) (by decide +kernel), List.mem_of_getElem? (i := 427) (by decide +kernel)⟩
theorem lw_p6 : lw_okq (⟨"MoonLine", "detailOf", "(II)I"⟩, 18) := ⟨⟨by decide +kernel, by decide +kernel⟩, List.mem_of_getElem? (i := 17) (by decide +kernel), List.mem_of_getElem? (i := 454) (by decide +kernel), List.mem_of_getElem? (i := 455) (by decide +kernel)⟩
theorem lw_p7 : lw_okq (⟨"MoonLine$Queue", "isAsleepAt", "(LMoonLine$Crowd;I)Z"⟩, 6) := ⟨⟨by decide +kernel, by decide +kernel⟩, List.mem_of_getElem? (i := 55) (by decide +kernel), List.mem_of_getElem? (i := 475) (by decide +kernel), List.mem_of_getElem? (i := 476) (by decide +kernel)⟩
theorem lw_p8 : lw_okq (⟨"MoonLine", "passNight", "(I)I"⟩, 18) := ⟨⟨by decide +kernel, by decide +kernel⟩, List.mem_of_getElem? (i := 17) (by decide +kernel), List.mem_of_getElem? (i := 511) (by decide +kernel), List.mem_of_getElem? (i := 512) (by decide +kernel)⟩
theorem lw_p9 : lw_okq (⟨"MoonLine$Queue", "pushAhead", "(LMoonLine$Crowd;)V"⟩, 6) := ⟨⟨by decide +kernel, by decide +kernel⟩, List.mem_of_getElem? (i := 55) (by decide +kernel), List.mem_of_getElem? (i := 523) (by decide +kernel), List.mem_of_getElem? (i := 524) (by decide +kernel)⟩
theorem lw_p10 : lw_okq (⟨"MoonLine$Queue", "nextToGo", "(LMoonLine$Crowd;)I"⟩, 6) := ⟨⟨by decide +kernel, by decide +kernel⟩, List.mem_of_getElem? (i := 55) (by decide +kernel), List.mem_of_getElem? (i := 532) (by decide +kernel), List.mem_of_getElem? (i := 533) (by decide +kernel)⟩
theorem lw_p11 : lw_okq (⟨"MoonLine$Queue", "waitOneMore", "(LMoonLine$Crowd;I)V"⟩, 6) := ⟨⟨by decide +kernel, by decide +kernel⟩, List.mem_of_getElem? (i := 55) (by decide +kernel), List.mem_of_getElem? (i := 539) (by decide +kernel), List.mem_of_getElem? (i := 540) (by decide +kernel)⟩
theorem lw_p12 : lw_okq (⟨"MoonLine", "doDeedsAnew", "()V"⟩, 18) := ⟨⟨by decide +kernel, by decide +kernel⟩, List.mem_of_getElem? (i := 17) (by decide +kernel), List.mem_of_getElem? (i := 555) (by decide +kernel), List.mem_of_getElem? (i := 556) (by decide +kernel)⟩
theorem lw_p13 : lw_okq (⟨"MoonLine$NightWalk", "waysFrom", "(I)J"⟩, 11) := ⟨⟨by decide +kernel, by decide +kernel⟩, List.mem_of_getElem? (i := 104) (by decide +kernel), List.mem_of_getElem? (i := 617) (by decide +kernel), List.mem_of_getElem? (i := 618) (by decide +kernel)⟩
theorem lw_p14 : lw_okq (⟨"MoonLine$NightWalk", "waysBy", "(IZI)J"⟩, 11) := ⟨⟨by decide +kernel, by decide +kernel⟩, List.mem_of_getElem? (i := 104) (by decide +kernel), List.mem_of_getElem? (i := 621) (by decide +kernel), List.mem_of_getElem? (i := 622) (by decide +kernel)⟩
theorem lw_p15 : lw_okq (⟨"MoonLine$NightWalk", "isToGo", "(LMoonLine$Queue;)Z"⟩, 11) := ⟨⟨by decide +kernel, by decide +kernel⟩, List.mem_of_getElem? (i := 104) (by decide +kernel), List.mem_of_getElem? (i := 630) (by decide +kernel), List.mem_of_getElem? (i := 631) (by decide +kernel)⟩
def lw_privs_1 : List (MethodName × Nat) := [(⟨"MoonLine", "find", "(I)I"⟩, 18), (⟨"MoonLine", "refusalOfPlace", "(II)I"⟩, 18), (⟨"MoonLine", "refusalOfRow", "(I)I"⟩, 18), (⟨"MoonLine", "refusalOfText", "(I)I"⟩, 18), (⟨"MoonLine$Crowd", "takes", "(II)Z"⟩, 4), (⟨"MoonLine$Crowd", "takesLetter", "(I)Z"⟩, 4), (⟨"MoonLine", "detailOf", "(II)I"⟩, 18), (⟨"MoonLine$Queue", "isAsleepAt", "(LMoonLine$Crowd;I)Z"⟩, 6), (⟨"MoonLine", "passNight", "(I)I"⟩, 18), (⟨"MoonLine$Queue", "pushAhead", "(LMoonLine$Crowd;)V"⟩, 6), (⟨"MoonLine$Queue", "nextToGo", "(LMoonLine$Crowd;)I"⟩, 6), (⟨"MoonLine$Queue", "waitOneMore", "(LMoonLine$Crowd;I)V"⟩, 6), (⟨"MoonLine", "doDeedsAnew", "()V"⟩, 18), (⟨"MoonLine$NightWalk", "waysFrom", "(I)J"⟩, 11), (⟨"MoonLine$NightWalk", "waysBy", "(IZI)J"⟩, 11), (⟨"MoonLine$NightWalk", "isToGo", "(LMoonLine$Queue;)Z"⟩, 11)]
theorem lw_r1 : ∀ q ∈ lw_privs_1, lw_okq q := List.forall_mem_cons.mpr ⟨lw_p0, List.forall_mem_cons.mpr ⟨lw_p1, List.forall_mem_cons.mpr ⟨lw_p2, List.forall_mem_cons.mpr ⟨lw_p3, List.forall_mem_cons.mpr ⟨lw_p4, List.forall_mem_cons.mpr ⟨lw_p5, List.forall_mem_cons.mpr ⟨lw_p6, List.forall_mem_cons.mpr ⟨lw_p7, List.forall_mem_cons.mpr ⟨lw_p8, List.forall_mem_cons.mpr ⟨lw_p9, List.forall_mem_cons.mpr ⟨lw_p10, List.forall_mem_cons.mpr ⟨lw_p11, List.forall_mem_cons.mpr ⟨lw_p12, List.forall_mem_cons.mpr ⟨lw_p13, List.forall_mem_cons.mpr ⟨lw_p14, List.forall_mem_cons.mpr ⟨lw_p15, fun _ h => absurd h List.not_mem_nil⟩⟩⟩⟩⟩⟩⟩⟩⟩⟩⟩⟩⟩⟩⟩⟩
theorem lw_p16 : lw_okq (⟨"MoonLine", "tellChance", "(JJ)V"⟩, 18) := ⟨⟨by decide +kernel, by decide +kernel⟩, List.mem_of_getElem? (i := 17) (by decide +kernel), List.mem_of_getElem? (i := 647) (by decide +kernel), List.mem_of_getElem? (i := 648) (by decide +kernel)⟩
theorem lw_p17 : lw_okq (⟨"MoonLine$TradeSearch", "isReachedBy", "(II)Z"⟩, 8) := ⟨⟨by decide +kernel, by decide +kernel⟩, List.mem_of_getElem? (i := 150) (by decide +kernel), List.mem_of_getElem? (i := 679) (by decide +kernel), List.mem_of_getElem? (i := 680) (by decide +kernel)⟩
theorem lw_p18 : lw_okq (⟨"MoonLine$TradeSearch", "isReached", "(LMoonLine$Queue;)Z"⟩, 8) := ⟨⟨by decide +kernel, by decide +kernel⟩, List.mem_of_getElem? (i := 150) (by decide +kernel), List.mem_of_getElem? (i := 683) (by decide +kernel), List.mem_of_getElem? (i := 684) (by decide +kernel)⟩
theorem lw_p19 : lw_okq (⟨"MoonLine$TradeSearch", "tradeAt", "(II)V"⟩, 8) := ⟨⟨by decide +kernel, by decide +kernel⟩, List.mem_of_getElem? (i := 150) (by decide +kernel), List.mem_of_getElem? (i := 688) (by decide +kernel), List.mem_of_getElem? (i := 689) (by decide +kernel)⟩
theorem lw_p20 : lw_okq (⟨"MoonLine$TradeSearch", "lookForCheaper", "(II)V"⟩, 8) := ⟨⟨by decide +kernel, by decide +kernel⟩, List.mem_of_getElem? (i := 150) (by decide +kernel), List.mem_of_getElem? (i := 705) (by decide +kernel), List.mem_of_getElem? (i := 706) (by decide +kernel)⟩
theorem lw_p21 : lw_okq (⟨"MoonLine$CloudGame", "isWonFrom", "(II)Z"⟩, 4) := ⟨⟨by decide +kernel, by decide +kernel⟩, List.mem_of_getElem? (i := 184) (by decide +kernel), List.mem_of_getElem? (i := 723) (by decide +kernel), List.mem_of_getElem? (i := 724) (by decide +kernel)⟩
theorem lw_p22 : lw_okq (⟨"MoonLine$CloudGame", "isWonBehindTrade", "(II)Z"⟩, 4) := ⟨⟨by decide +kernel, by decide +kernel⟩, List.mem_of_getElem? (i := 184) (by decide +kernel), List.mem_of_getElem? (i := 728) (by decide +kernel), List.mem_of_getElem? (i := 729) (by decide +kernel)⟩
theorem lw_p23 : lw_okq (⟨"MoonLine", "wrongInGoers", "(LMoonLine$Row;I)I"⟩, 18) := ⟨⟨by decide +kernel, by decide +kernel⟩, List.mem_of_getElem? (i := 17) (by decide +kernel), List.mem_of_getElem? (i := 738) (by decide +kernel), List.mem_of_getElem? (i := 739) (by decide +kernel)⟩
theorem lw_p24 : lw_okq (⟨"MoonLine", "goSo", "(LMoonLine$Crowd;LMoonLine$Row;LMoonLine$Row;)Z"⟩, 18) := ⟨⟨by decide +kernel, by decide +kernel⟩, List.mem_of_getElem? (i := 17) (by decide +kernel), List.mem_of_getElem? (i := 742) (by decide +kernel), List.mem_of_getElem? (i := 743) (by decide +kernel)⟩
theorem lw_p25 : lw_okq (⟨"MoonLine$NightWalk", "fitFrom", "(II)V"⟩, 11) := ⟨⟨by decide +kernel, by decide +kernel⟩, List.mem_of_getElem? (i := 104) (by decide +kernel), List.mem_of_getElem? (i := 754) (by decide +kernel), List.mem_of_getElem? (i := 755) (by decide +kernel)⟩
theorem lw_p26 : lw_okq (⟨"MoonLine", "tellWays", "(J)V"⟩, 18) := ⟨⟨by decide +kernel, by decide +kernel⟩, List.mem_of_getElem? (i := 17) (by decide +kernel), List.mem_of_getElem? (i := 758) (by decide +kernel), List.mem_of_getElem? (i := 759) (by decide +kernel)⟩
theorem lw_p27 : lw_okq (⟨"MoonLine", "wrongInPairs", "(LMoonLine$Row;)I"⟩, 18) := ⟨⟨by decide +kernel, by decide +kernel⟩, List.mem_of_getElem? (i := 17) (by decide +kernel), List.mem_of_getElem? (i := 770) (by decide +kernel), List.mem_of_getElem? (i := 771) (by decide +kernel)⟩
theorem lw_p28 : lw_okq (⟨"MoonLine$Memories", "isPerson", "(I)Z"⟩, 4) := ⟨⟨by decide +kernel, by decide +kernel⟩, List.mem_of_getElem? (i := 205) (by decide +kernel), List.mem_of_getElem? (i := 784) (by decide +kernel), List.mem_of_getElem? (i := 785) (by decide +kernel)⟩
theorem lw_p29 : lw_okq (⟨"MoonLine$Memories", "standBehind", "(IIII)V"⟩, 4) := ⟨⟨by decide +kernel, by decide +kernel⟩, List.mem_of_getElem? (i := 205) (by decide +kernel), List.mem_of_getElem? (i := 792) (by decide +kernel), List.mem_of_getElem? (i := 793) (by decide +kernel)⟩
theorem lw_p30 : lw_okq (⟨"MoonLine$Memories", "countOrder", "(I)V"⟩, 4) := ⟨⟨by decide +kernel, by decide +kernel⟩, List.mem_of_getElem? (i := 205) (by decide +kernel), List.mem_of_getElem? (i := 796) (by decide +kernel), List.mem_of_getElem? (i := 797) (by decide +kernel)⟩
theorem lw_p31 : lw_okq (⟨"MoonLine", "isMerge", "(LMoonLine$Row;LMoonLine$Row;LMoonLine$Row;)Z"⟩, 18) := ⟨⟨by decide +kernel, by decide +kernel⟩, List.mem_of_getElem? (i := 17) (by decide +kernel), List.mem_of_getElem? (i := 808) (by decide +kernel), List.mem_of_getElem? (i := 809) (by decide +kernel)⟩
def lw_privs_2 : List (MethodName × Nat) := [(⟨"MoonLine", "tellChance", "(JJ)V"⟩, 18), (⟨"MoonLine$TradeSearch", "isReachedBy", "(II)Z"⟩, 8), (⟨"MoonLine$TradeSearch", "isReached", "(LMoonLine$Queue;)Z"⟩, 8), (⟨"MoonLine$TradeSearch", "tradeAt", "(II)V"⟩, 8), (⟨"MoonLine$TradeSearch", "lookForCheaper", "(II)V"⟩, 8), (⟨"MoonLine$CloudGame", "isWonFrom", "(II)Z"⟩, 4), (⟨"MoonLine$CloudGame", "isWonBehindTrade", "(II)Z"⟩, 4), (⟨"MoonLine", "wrongInGoers", "(LMoonLine$Row;I)I"⟩, 18), (⟨"MoonLine", "goSo", "(LMoonLine$Crowd;LMoonLine$Row;LMoonLine$Row;)Z"⟩, 18), (⟨"MoonLine$NightWalk", "fitFrom", "(II)V"⟩, 11), (⟨"MoonLine", "tellWays", "(J)V"⟩, 18), (⟨"MoonLine", "wrongInPairs", "(LMoonLine$Row;)I"⟩, 18), (⟨"MoonLine$Memories", "isPerson", "(I)Z"⟩, 4), (⟨"MoonLine$Memories", "standBehind", "(IIII)V"⟩, 4), (⟨"MoonLine$Memories", "countOrder", "(I)V"⟩, 4), (⟨"MoonLine", "isMerge", "(LMoonLine$Row;LMoonLine$Row;LMoonLine$Row;)Z"⟩, 18)]
theorem lw_r2 : ∀ q ∈ lw_privs_2, lw_okq q := List.forall_mem_cons.mpr ⟨lw_p16, List.forall_mem_cons.mpr ⟨lw_p17, List.forall_mem_cons.mpr ⟨lw_p18, List.forall_mem_cons.mpr ⟨lw_p19, List.forall_mem_cons.mpr ⟨lw_p20, List.forall_mem_cons.mpr ⟨lw_p21, List.forall_mem_cons.mpr ⟨lw_p22, List.forall_mem_cons.mpr ⟨lw_p23, List.forall_mem_cons.mpr ⟨lw_p24, List.forall_mem_cons.mpr ⟨lw_p25, List.forall_mem_cons.mpr ⟨lw_p26, List.forall_mem_cons.mpr ⟨lw_p27, List.forall_mem_cons.mpr ⟨lw_p28, List.forall_mem_cons.mpr ⟨lw_p29, List.forall_mem_cons.mpr ⟨lw_p30, List.forall_mem_cons.mpr ⟨lw_p31, fun _ h => absurd h List.not_mem_nil⟩⟩⟩⟩⟩⟩⟩⟩⟩⟩⟩⟩⟩⟩⟩⟩
theorem lw_p32 : lw_okq (⟨"MoonLine", "numberOf", "(I)I"⟩, 18) := ⟨⟨by decide +kernel, by decide +kernel⟩, List.mem_of_getElem? (i := 17) (by decide +kernel), List.mem_of_getElem? (i := 842) (by decide +kernel), List.mem_of_getElem? (i := 843) (by decide +kernel)⟩
theorem lw_p33 : lw_okq (⟨"MoonLine", "rowsThere", "()I"⟩, 18) := ⟨⟨by decide +kernel, by decide +kernel⟩, List.mem_of_getElem? (i := 17) (by decide +kernel), List.mem_of_getElem? (i := 857) (by decide +kernel), List.mem_of_getElem? (i := 858) (by decide +kernel)⟩
theorem lw_p34 : lw_okq (⟨"MoonLine", "textsThere", "()I"⟩, 18) := ⟨⟨by decide +kernel, by decide +kernel⟩, List.mem_of_getElem? (i := 17) (by decide +kernel), List.mem_of_getElem? (i := 861) (by decide +kernel), List.mem_of_getElem? (i := 862) (by decide +kernel)⟩
theorem lw_p35 : lw_okq (⟨"MoonLine", "keptThere", "()I"⟩, 18) := ⟨⟨by decide +kernel, by decide +kernel⟩, List.mem_of_getElem? (i := 17) (by decide +kernel), List.mem_of_getElem? (i := 865) (by decide +kernel), List.mem_of_getElem? (i := 866) (by decide +kernel)⟩
theorem lw_p36 : lw_okq (⟨"MoonLineModel", "find", "(I)I"⟩, 24) := ⟨⟨by decide +kernel, by decide +kernel⟩, List.mem_of_getElem? (i := 893) (by decide +kernel), List.mem_of_getElem? (i := 983) (by decide +kernel), List.mem_of_getElem? (i := 984) (by decide +kernel)⟩
theorem lw_p37 : lw_okq (⟨"MoonLineModel", "makeRow", "(II)V"⟩, 24) := ⟨⟨by decide +kernel, by decide +kernel⟩, List.mem_of_getElem? (i := 893) (by decide +kernel), List.mem_of_getElem? (i := 987) (by decide +kernel), List.mem_of_getElem? (i := 988) (by decide +kernel)⟩
theorem lw_p38 : lw_okq (⟨"MoonLineModel", "refused", "(II)I"⟩, 24) := ⟨⟨by decide +kernel, by decide +kernel⟩, List.mem_of_getElem? (i := 893) (by decide +kernel), List.mem_of_getElem? (i := 995) (by decide +kernel), List.mem_of_getElem? (i := 996) (by decide +kernel)⟩
theorem lw_p39 : lw_okq (⟨"MoonLineModel", "tell", "(I)I"⟩, 24) := ⟨⟨by decide +kernel, by decide +kernel⟩, List.mem_of_getElem? (i := 893) (by decide +kernel), List.mem_of_getElem? (i := 999) (by decide +kernel), List.mem_of_getElem? (i := 1000) (by decide +kernel)⟩
theorem lw_p40 : lw_okq (⟨"MoonLineModel", "isSpan", "(III)Z"⟩, 24) := ⟨⟨by decide +kernel, by decide +kernel⟩, List.mem_of_getElem? (i := 893) (by decide +kernel), List.mem_of_getElem? (i := 1015) (by decide +kernel), List.mem_of_getElem? (i := 1016) (by decide +kernel)⟩
theorem lw_p41 : lw_okq (⟨"MoonLineModel", "faultOf", "(I)I"⟩, 24) := ⟨⟨by decide +kernel, by decide +kernel⟩, List.mem_of_getElem? (i := 893) (by decide +kernel), List.mem_of_getElem? (i := 1039) (by decide +kernel), List.mem_of_getElem? (i := 1040) (by decide +kernel)⟩
theorem lw_p42 : lw_okq (⟨"MoonLineModel", "skip", "()V"⟩, 24) := ⟨⟨by decide +kernel, by decide +kernel⟩, List.mem_of_getElem? (i := 893) (by decide +kernel), List.mem_of_getElem? (i := 1043) (by decide +kernel), List.mem_of_getElem? (i := 1044) (by decide +kernel)⟩
theorem lw_p43 : lw_okq (⟨"MoonLineModel", "here", "()I"⟩, 24) := ⟨⟨by decide +kernel, by decide +kernel⟩, List.mem_of_getElem? (i := 893) (by decide +kernel), List.mem_of_getElem? (i := 1047) (by decide +kernel), List.mem_of_getElem? (i := 1048) (by decide +kernel)⟩
theorem lw_p44 : lw_okq (⟨"MoonLineModel", "readsPerson", "()Z"⟩, 24) := ⟨⟨by decide +kernel, by decide +kernel⟩, List.mem_of_getElem? (i := 893) (by decide +kernel), List.mem_of_getElem? (i := 1051) (by decide +kernel), List.mem_of_getElem? (i := 1052) (by decide +kernel)⟩
theorem lw_p45 : lw_okq (⟨"MoonLineModel", "figure", "(I)I"⟩, 24) := ⟨⟨by decide +kernel, by decide +kernel⟩, List.mem_of_getElem? (i := 893) (by decide +kernel), List.mem_of_getElem? (i := 1058) (by decide +kernel), List.mem_of_getElem? (i := 1059) (by decide +kernel)⟩
theorem lw_p46 : lw_okq (⟨"MoonLineModel", "isPerson", "(I)Z"⟩, 24) := ⟨⟨by decide +kernel, by decide +kernel⟩, List.mem_of_getElem? (i := 893) (by decide +kernel), List.mem_of_getElem? (i := 1071) (by decide +kernel), List.mem_of_getElem? (i := 1072) (by decide +kernel)⟩
theorem lw_p47 : lw_okq (⟨"MoonLineModel", "toldOf", "(II)I"⟩, 24) := ⟨⟨by decide +kernel, by decide +kernel⟩, List.mem_of_getElem? (i := 893) (by decide +kernel), List.mem_of_getElem? (i := 1076) (by decide +kernel), List.mem_of_getElem? (i := 1077) (by decide +kernel)⟩
def lw_privs_3 : List (MethodName × Nat) := [(⟨"MoonLine", "numberOf", "(I)I"⟩, 18), (⟨"MoonLine", "rowsThere", "()I"⟩, 18), (⟨"MoonLine", "textsThere", "()I"⟩, 18), (⟨"MoonLine", "keptThere", "()I"⟩, 18), (⟨"MoonLineModel", "find", "(I)I"⟩, 24), (⟨"MoonLineModel", "makeRow", "(II)V"⟩, 24), (⟨"MoonLineModel", "refused", "(II)I"⟩, 24), (⟨"MoonLineModel", "tell", "(I)I"⟩, 24), (⟨"MoonLineModel", "isSpan", "(III)Z"⟩, 24), (⟨"MoonLineModel", "faultOf", "(I)I"⟩, 24), (⟨"MoonLineModel", "skip", "()V"⟩, 24), (⟨"MoonLineModel", "here", "()I"⟩, 24), (⟨"MoonLineModel", "readsPerson", "()Z"⟩, 24), (⟨"MoonLineModel", "figure", "(I)I"⟩, 24), (⟨"MoonLineModel", "isPerson", "(I)Z"⟩, 24), (⟨"MoonLineModel", "toldOf", "(II)I"⟩, 24)]
theorem lw_r3 : ∀ q ∈ lw_privs_3, lw_okq q := List.forall_mem_cons.mpr ⟨lw_p32, List.forall_mem_cons.mpr ⟨lw_p33, List.forall_mem_cons.mpr ⟨lw_p34, List.forall_mem_cons.mpr ⟨lw_p35, List.forall_mem_cons.mpr ⟨lw_p36, List.forall_mem_cons.mpr ⟨lw_p37, List.forall_mem_cons.mpr ⟨lw_p38, List.forall_mem_cons.mpr ⟨lw_p39, List.forall_mem_cons.mpr ⟨lw_p40, List.forall_mem_cons.mpr ⟨lw_p41, List.forall_mem_cons.mpr ⟨lw_p42, List.forall_mem_cons.mpr ⟨lw_p43, List.forall_mem_cons.mpr ⟨lw_p44, List.forall_mem_cons.mpr ⟨lw_p45, List.forall_mem_cons.mpr ⟨lw_p46, List.forall_mem_cons.mpr ⟨lw_p47, fun _ h => absurd h List.not_mem_nil⟩⟩⟩⟩⟩⟩⟩⟩⟩⟩⟩⟩⟩⟩⟩⟩
theorem lw_p48 : lw_okq (⟨"MoonLineModel", "placeOf", "(II)I"⟩, 24) := ⟨⟨by decide +kernel, by decide +kernel⟩, List.mem_of_getElem? (i := 893) (by decide +kernel), List.mem_of_getElem? (i := 1080) (by decide +kernel), List.mem_of_getElem? (i := 1081) (by decide +kernel)⟩
theorem lw_p49 : lw_okq (⟨"MoonLineModel", "isOf", "(II)Z"⟩, 24) := ⟨⟨by decide +kernel, by decide +kernel⟩, List.mem_of_getElem? (i := 893) (by decide +kernel), List.mem_of_getElem? (i := 1088) (by decide +kernel), List.mem_of_getElem? (i := 1089) (by decide +kernel)⟩
theorem lw_p50 : lw_okq (⟨"MoonLineModel", "sleeping", "(IIZ)I"⟩, 24) := ⟨⟨by decide +kernel, by decide +kernel⟩, List.mem_of_getElem? (i := 893) (by decide +kernel), List.mem_of_getElem? (i := 1092) (by decide +kernel), List.mem_of_getElem? (i := 1093) (by decide +kernel)⟩
theorem lw_p51 : lw_okq (⟨"MoonLineModel", "sleepsAt", "(II)Z"⟩, 24) := ⟨⟨by decide +kernel, by decide +kernel⟩, List.mem_of_getElem? (i := 893) (by decide +kernel), List.mem_of_getElem? (i := 1096) (by decide +kernel), List.mem_of_getElem? (i := 1097) (by decide +kernel)⟩
theorem lw_p52 : lw_okq (⟨"MoonLineModel", "isAsleep", "(II)Z"⟩, 24) := ⟨⟨by decide +kernel, by decide +kernel⟩, List.mem_of_getElem? (i := 893) (by decide +kernel), List.mem_of_getElem? (i := 1100) (by decide +kernel), List.mem_of_getElem? (i := 1101) (by decide +kernel)⟩
theorem lw_p53 : lw_okq (⟨"MoonLineModel", "awakeFrom", "(II)I"⟩, 24) := ⟨⟨by decide +kernel, by decide +kernel⟩, List.mem_of_getElem? (i := 893) (by decide +kernel), List.mem_of_getElem? (i := 1104) (by decide +kernel), List.mem_of_getElem? (i := 1105) (by decide +kernel)⟩
theorem lw_p54 : lw_okq (⟨"MoonLineModel", "keepPast", "()V"⟩, 24) := ⟨⟨by decide +kernel, by decide +kernel⟩, List.mem_of_getElem? (i := 893) (by decide +kernel), List.mem_of_getElem? (i := 1117) (by decide +kernel), List.mem_of_getElem? (i := 1118) (by decide +kernel)⟩
theorem lw_p55 : lw_okq (⟨"MoonLineModel", "pass", "(II)I"⟩, 24) := ⟨⟨by decide +kernel, by decide +kernel⟩, List.mem_of_getElem? (i := 893) (by decide +kernel), List.mem_of_getElem? (i := 1121) (by decide +kernel), List.mem_of_getElem? (i := 1122) (by decide +kernel)⟩
theorem lw_p56 : lw_okq (⟨"MoonLineModel", "pushes", "(I)V"⟩, 24) := ⟨⟨by decide +kernel, by decide +kernel⟩, List.mem_of_getElem? (i := 893) (by decide +kernel), List.mem_of_getElem? (i := 1125) (by decide +kernel), List.mem_of_getElem? (i := 1126) (by decide +kernel)⟩
theorem lw_p57 : lw_okq (⟨"MoonLineModel", "goesAhead", "(II)Z"⟩, 24) := ⟨⟨by decide +kernel, by decide +kernel⟩, List.mem_of_getElem? (i := 893) (by decide +kernel), List.mem_of_getElem? (i := 1132) (by decide +kernel), List.mem_of_getElem? (i := 1133) (by decide +kernel)⟩
theorem lw_p58 : lw_okq (⟨"MoonLineModel", "swap", "(II)V"⟩, 24) := ⟨⟨by decide +kernel, by decide +kernel⟩, List.mem_of_getElem? (i := 893) (by decide +kernel), List.mem_of_getElem? (i := 1136) (by decide +kernel), List.mem_of_getElem? (i := 1137) (by decide +kernel)⟩
theorem lw_p59 : lw_okq (⟨"MoonLineModel", "goer", "(I)I"⟩, 24) := ⟨⟨by decide +kernel, by decide +kernel⟩, List.mem_of_getElem? (i := 893) (by decide +kernel), List.mem_of_getElem? (i := 1140) (by decide +kernel), List.mem_of_getElem? (i := 1141) (by decide +kernel)⟩
theorem lw_p60 : lw_okq (⟨"MoonLineModel", "leaves", "(II)V"⟩, 24) := ⟨⟨by decide +kernel, by decide +kernel⟩, List.mem_of_getElem? (i := 893) (by decide +kernel), List.mem_of_getElem? (i := 1144) (by decide +kernel), List.mem_of_getElem? (i := 1145) (by decide +kernel)⟩
theorem lw_p61 : lw_okq (⟨"MoonLineModel", "areTwo", "(II)Z"⟩, 24) := ⟨⟨by decide +kernel, by decide +kernel⟩, List.mem_of_getElem? (i := 893) (by decide +kernel), List.mem_of_getElem? (i := 1152) (by decide +kernel), List.mem_of_getElem? (i := 1153) (by decide +kernel)⟩
theorem lw_p62 : lw_okq (⟨"MoonLineModel", "copyLine", "(III)V"⟩, 24) := ⟨⟨by decide +kernel, by decide +kernel⟩, List.mem_of_getElem? (i := 893) (by decide +kernel), List.mem_of_getElem? (i := 1165) (by decide +kernel), List.mem_of_getElem? (i := 1166) (by decide +kernel)⟩
theorem lw_p63 : lw_okq (⟨"MoonLineModel", "layTried", "()V"⟩, 24) := ⟨⟨by decide +kernel, by decide +kernel⟩, List.mem_of_getElem? (i := 893) (by decide +kernel), List.mem_of_getElem? (i := 1177) (by decide +kernel), List.mem_of_getElem? (i := 1178) (by decide +kernel)⟩
def lw_privs_4 : List (MethodName × Nat) := [(⟨"MoonLineModel", "placeOf", "(II)I"⟩, 24), (⟨"MoonLineModel", "isOf", "(II)Z"⟩, 24), (⟨"MoonLineModel", "sleeping", "(IIZ)I"⟩, 24), (⟨"MoonLineModel", "sleepsAt", "(II)Z"⟩, 24), (⟨"MoonLineModel", "isAsleep", "(II)Z"⟩, 24), (⟨"MoonLineModel", "awakeFrom", "(II)I"⟩, 24), (⟨"MoonLineModel", "keepPast", "()V"⟩, 24), (⟨"MoonLineModel", "pass", "(II)I"⟩, 24), (⟨"MoonLineModel", "pushes", "(I)V"⟩, 24), (⟨"MoonLineModel", "goesAhead", "(II)Z"⟩, 24), (⟨"MoonLineModel", "swap", "(II)V"⟩, 24), (⟨"MoonLineModel", "goer", "(I)I"⟩, 24), (⟨"MoonLineModel", "leaves", "(II)V"⟩, 24), (⟨"MoonLineModel", "areTwo", "(II)Z"⟩, 24), (⟨"MoonLineModel", "copyLine", "(III)V"⟩, 24), (⟨"MoonLineModel", "layTried", "()V"⟩, 24)]
theorem lw_r4 : ∀ q ∈ lw_privs_4, lw_okq q := List.forall_mem_cons.mpr ⟨lw_p48, List.forall_mem_cons.mpr ⟨lw_p49, List.forall_mem_cons.mpr ⟨lw_p50, List.forall_mem_cons.mpr ⟨lw_p51, List.forall_mem_cons.mpr ⟨lw_p52, List.forall_mem_cons.mpr ⟨lw_p53, List.forall_mem_cons.mpr ⟨lw_p54, List.forall_mem_cons.mpr ⟨lw_p55, List.forall_mem_cons.mpr ⟨lw_p56, List.forall_mem_cons.mpr ⟨lw_p57, List.forall_mem_cons.mpr ⟨lw_p58, List.forall_mem_cons.mpr ⟨lw_p59, List.forall_mem_cons.mpr ⟨lw_p60, List.forall_mem_cons.mpr ⟨lw_p61, List.forall_mem_cons.mpr ⟨lw_p62, List.forall_mem_cons.mpr ⟨lw_p63, fun _ h => absurd h List.not_mem_nil⟩⟩⟩⟩⟩⟩⟩⟩⟩⟩⟩⟩⟩⟩⟩⟩
theorem lw_p64 : lw_okq (⟨"MoonLineModel", "noNights", "(II)I"⟩, 24) := ⟨⟨by decide +kernel, by decide +kernel⟩, List.mem_of_getElem? (i := 893) (by decide +kernel), List.mem_of_getElem? (i := 1185) (by decide +kernel), List.mem_of_getElem? (i := 1186) (by decide +kernel)⟩
theorem lw_p65 : lw_okq (⟨"MoonLineModel", "areAll", "(III)Z"⟩, 24) := ⟨⟨by decide +kernel, by decide +kernel⟩, List.mem_of_getElem? (i := 893) (by decide +kernel), List.mem_of_getElem? (i := 1189) (by decide +kernel), List.mem_of_getElem? (i := 1190) (by decide +kernel)⟩
theorem lw_p66 : lw_okq (⟨"MoonLineModel", "goesBy", "(III)I"⟩, 24) := ⟨⟨by decide +kernel, by decide +kernel⟩, List.mem_of_getElem? (i := 893) (by decide +kernel), List.mem_of_getElem? (i := 1202) (by decide +kernel), List.mem_of_getElem? (i := 1203) (by decide +kernel)⟩
theorem lw_p67 : lw_okq (⟨"MoonLineModel", "tellParts", "(JJ)I"⟩, 24) := ⟨⟨by decide +kernel, by decide +kernel⟩, List.mem_of_getElem? (i := 893) (by decide +kernel), List.mem_of_getElem? (i := 1221) (by decide +kernel), List.mem_of_getElem? (i := 1222) (by decide +kernel)⟩
theorem lw_p68 : lw_okq (⟨"MoonLineModel", "tradeRows", "(I)I"⟩, 24) := ⟨⟨by decide +kernel, by decide +kernel⟩, List.mem_of_getElem? (i := 893) (by decide +kernel), List.mem_of_getElem? (i := 1234) (by decide +kernel), List.mem_of_getElem? (i := 1235) (by decide +kernel)⟩
theorem lw_p69 : lw_okq (⟨"MoonLineModel", "pairs", "()I"⟩, 24) := ⟨⟨by decide +kernel, by decide +kernel⟩, List.mem_of_getElem? (i := 893) (by decide +kernel), List.mem_of_getElem? (i := 1238) (by decide +kernel), List.mem_of_getElem? (i := 1239) (by decide +kernel)⟩
theorem lw_p70 : lw_okq (⟨"MoonLineModel", "layTrades", "(II)V"⟩, 24) := ⟨⟨by decide +kernel, by decide +kernel⟩, List.mem_of_getElem? (i := 893) (by decide +kernel), List.mem_of_getElem? (i := 1245) (by decide +kernel), List.mem_of_getElem? (i := 1246) (by decide +kernel)⟩
theorem lw_p71 : lw_okq (⟨"MoonLineModel", "tradeOf", "(III)I"⟩, 24) := ⟨⟨by decide +kernel, by decide +kernel⟩, List.mem_of_getElem? (i := 893) (by decide +kernel), List.mem_of_getElem? (i := 1249) (by decide +kernel), List.mem_of_getElem? (i := 1250) (by decide +kernel)⟩
theorem lw_p72 : lw_okq (⟨"MoonLineModel", "goesClear", "(II)I"⟩, 24) := ⟨⟨by decide +kernel, by decide +kernel⟩, List.mem_of_getElem? (i := 893) (by decide +kernel), List.mem_of_getElem? (i := 1253) (by decide +kernel), List.mem_of_getElem? (i := 1254) (by decide +kernel)⟩
theorem lw_p73 : lw_okq (⟨"MoonLineModel", "winsBy", "(III)Z"⟩, 24) := ⟨⟨by decide +kernel, by decide +kernel⟩, List.mem_of_getElem? (i := 893) (by decide +kernel), List.mem_of_getElem? (i := 1270) (by decide +kernel), List.mem_of_getElem? (i := 1271) (by decide +kernel)⟩
theorem lw_p74 : lw_okq (⟨"MoonLineModel", "noWent", "(II)I"⟩, 24) := ⟨⟨by decide +kernel, by decide +kernel⟩, List.mem_of_getElem? (i := 893) (by decide +kernel), List.mem_of_getElem? (i := 1281) (by decide +kernel), List.mem_of_getElem? (i := 1282) (by decide +kernel)⟩
theorem lw_p75 : lw_okq (⟨"MoonLineModel", "wentSo", "(II)Z"⟩, 24) := ⟨⟨by decide +kernel, by decide +kernel⟩, List.mem_of_getElem? (i := 893) (by decide +kernel), List.mem_of_getElem? (i := 1285) (by decide +kernel), List.mem_of_getElem? (i := 1286) (by decide +kernel)⟩
theorem lw_p76 : lw_okq (⟨"MoonLineModel", "liesBy", "(I)I"⟩, 24) := ⟨⟨by decide +kernel, by decide +kernel⟩, List.mem_of_getElem? (i := 893) (by decide +kernel), List.mem_of_getElem? (i := 1297) (by decide +kernel), List.mem_of_getElem? (i := 1298) (by decide +kernel)⟩
theorem lw_p77 : lw_okq (⟨"MoonLineModel", "nextOrder", "(I)Z"⟩, 24) := ⟨⟨by decide +kernel, by decide +kernel⟩, List.mem_of_getElem? (i := 893) (by decide +kernel), List.mem_of_getElem? (i := 1301) (by decide +kernel), List.mem_of_getElem? (i := 1302) (by decide +kernel)⟩
theorem lw_p78 : lw_okq (⟨"MoonLineModel", "countOf", "(I)I"⟩, 24) := ⟨⟨by decide +kernel, by decide +kernel⟩, List.mem_of_getElem? (i := 893) (by decide +kernel), List.mem_of_getElem? (i := 1342) (by decide +kernel), List.mem_of_getElem? (i := 1343) (by decide +kernel)⟩
theorem lw_p79 : lw_okq (⟨"MoonLineModel", "wentMany", "()I"⟩, 24) := ⟨⟨by decide +kernel, by decide +kernel⟩, List.mem_of_getElem? (i := 893) (by decide +kernel), List.mem_of_getElem? (i := 1346) (by decide +kernel), List.mem_of_getElem? (i := 1347) (by decide +kernel)⟩
def lw_privs_5 : List (MethodName × Nat) := [(⟨"MoonLineModel", "noNights", "(II)I"⟩, 24), (⟨"MoonLineModel", "areAll", "(III)Z"⟩, 24), (⟨"MoonLineModel", "goesBy", "(III)I"⟩, 24), (⟨"MoonLineModel", "tellParts", "(JJ)I"⟩, 24), (⟨"MoonLineModel", "tradeRows", "(I)I"⟩, 24), (⟨"MoonLineModel", "pairs", "()I"⟩, 24), (⟨"MoonLineModel", "layTrades", "(II)V"⟩, 24), (⟨"MoonLineModel", "tradeOf", "(III)I"⟩, 24), (⟨"MoonLineModel", "goesClear", "(II)I"⟩, 24), (⟨"MoonLineModel", "winsBy", "(III)Z"⟩, 24), (⟨"MoonLineModel", "noWent", "(II)I"⟩, 24), (⟨"MoonLineModel", "wentSo", "(II)Z"⟩, 24), (⟨"MoonLineModel", "liesBy", "(I)I"⟩, 24), (⟨"MoonLineModel", "nextOrder", "(I)Z"⟩, 24), (⟨"MoonLineModel", "countOf", "(I)I"⟩, 24), (⟨"MoonLineModel", "wentMany", "()I"⟩, 24)]
theorem lw_r5 : ∀ q ∈ lw_privs_5, lw_okq q := List.forall_mem_cons.mpr ⟨lw_p64, List.forall_mem_cons.mpr ⟨lw_p65, List.forall_mem_cons.mpr ⟨lw_p66, List.forall_mem_cons.mpr ⟨lw_p67, List.forall_mem_cons.mpr ⟨lw_p68, List.forall_mem_cons.mpr ⟨lw_p69, List.forall_mem_cons.mpr ⟨lw_p70, List.forall_mem_cons.mpr ⟨lw_p71, List.forall_mem_cons.mpr ⟨lw_p72, List.forall_mem_cons.mpr ⟨lw_p73, List.forall_mem_cons.mpr ⟨lw_p74, List.forall_mem_cons.mpr ⟨lw_p75, List.forall_mem_cons.mpr ⟨lw_p76, List.forall_mem_cons.mpr ⟨lw_p77, List.forall_mem_cons.mpr ⟨lw_p78, List.forall_mem_cons.mpr ⟨lw_p79, fun _ h => absurd h List.not_mem_nil⟩⟩⟩⟩⟩⟩⟩⟩⟩⟩⟩⟩⟩⟩⟩⟩
theorem lw_p80 : lw_okq (⟨"MoonLineModel", "kindMany", "(I)I"⟩, 24) := ⟨⟨by decide +kernel, by decide +kernel⟩, List.mem_of_getElem? (i := 893) (by decide +kernel), List.mem_of_getElem? (i := 1353) (by decide +kernel), List.mem_of_getElem? (i := 1354) (by decide +kernel)⟩
theorem lw_p81 : lw_okq (⟨"MoonLineModel", "thereOf", "(I)I"⟩, 24) := ⟨⟨by decide +kernel, by decide +kernel⟩, List.mem_of_getElem? (i := 893) (by decide +kernel), List.mem_of_getElem? (i := 1357) (by decide +kernel), List.mem_of_getElem? (i := 1358) (by decide +kernel)⟩
def lw_privs_6 : List (MethodName × Nat) := [(⟨"MoonLineModel", "kindMany", "(I)I"⟩, 24), (⟨"MoonLineModel", "thereOf", "(I)I"⟩, 24)]
theorem lw_r6 : ∀ q ∈ lw_privs_6, lw_okq q := List.forall_mem_cons.mpr ⟨lw_p80, List.forall_mem_cons.mpr ⟨lw_p81, fun _ h => absurd h List.not_mem_nil⟩⟩
def lw_privs : List (MethodName × Nat) := lw_privs_1 ++ (lw_privs_2 ++ (lw_privs_3 ++ (lw_privs_4 ++ (lw_privs_5 ++ (lw_privs_6)))))
def lw_tbl : List Cond := k2_sels lw_privs ++ tables_1
theorem lw_privs_ok : ∀ q ∈ lw_privs, lw_okq q := by
  show ∀ q ∈ lw_privs_1 ++ (lw_privs_2 ++ (lw_privs_3 ++ (lw_privs_4 ++ (lw_privs_5 ++ (lw_privs_6))))), lw_okq q
  exact List.forall_mem_append.mpr ⟨lw_r1, List.forall_mem_append.mpr ⟨lw_r2, List.forall_mem_append.mpr ⟨lw_r3, List.forall_mem_append.mpr ⟨lw_r4, List.forall_mem_append.mpr ⟨lw_r5, lw_r6⟩⟩⟩⟩⟩
def RX0 : String := "MoonLine$CloudGame"
def TX0 : u_T := fun k => match k with
  | 0 => ("MoonLine$CloudGame", "steps", "[LMoonLine$Queue;", true)
  | 1 => ("MoonLine$CloudGame", "crowd", "LMoonLine$Crowd;", false)
  | 2 => ("MoonLine$CloudGame", "player", "I", false)
  | _ => ("MoonLine$CloudGame", "length", "I", false)
def tyX0 : Nat → FieldType := fun k => match k with
  | 0 => .array (.object "MoonLine$Queue")
  | 1 => .object "MoonLine$Crowd"
  | 2 => .int
  | _ => .int
abbrev wsX00 : List Cond := u_ws RX0 TX0 4
theorem nmX0 : ∀ a, a < 4 → ∀ b, b < 4 → a ≠ b → (TX0 a).2.1 ≠ (TX0 b).2.1 := by decide +kernel
theorem tyX0_ok : ∀ k, k < 4 → parseFieldDescriptor (TX0 k).2.2.1 = some (tyX0 k) := by decide +kernel
abbrev cX0_init : ByteArray := prog_2_method_1_code
def yX0_init : MethodName := ⟨RX0, "<init>", "()V"⟩
abbrev cX0_begin : ByteArray := prog_2_method_2_code
def yX0_begin : MethodName := ⟨RX0, "begin", "(LMoonLine$Crowd;LMoonLine$Queue;II)V"⟩
abbrev cX0_isWon : ByteArray := prog_2_method_3_code
def yX0_isWon : MethodName := ⟨RX0, "isWon", "()Z"⟩
abbrev cX0_isWonFrom : ByteArray := prog_2_method_4_code
def yX0_isWonFrom : MethodName := ⟨RX0, "isWonFrom", "(II)Z"⟩
abbrev cX0_isWonBehindTrade : ByteArray := prog_2_method_5_code
def yX0_isWonBehindTrade : MethodName := ⟨RX0, "isWonBehindTrade", "(II)Z"⟩
def RX1 : String := "MoonLine$Crowd"
def TX1 : u_T := fun k => match k with
  | 0 => ("MoonLine$Crowd", "kind", "[I", true)
  | 1 => ("MoonLine$Crowd", "patience", "[I", true)
  | 2 => ("MoonLine$Crowd", "price", "[I", true)
  | _ => ("MoonLine$Crowd", "number", "I", false)
def tyX1 : Nat → FieldType := fun k => match k with
  | 0 => .array .int
  | 1 => .array .int
  | 2 => .array .int
  | _ => .int
abbrev wsX10 : List Cond := u_ws RX1 TX1 4
theorem nmX1 : ∀ a, a < 4 → ∀ b, b < 4 → a ≠ b → (TX1 a).2.1 ≠ (TX1 b).2.1 := by decide +kernel
theorem tyX1_ok : ∀ k, k < 4 → parseFieldDescriptor (TX1 k).2.2.1 = some (tyX1 k) := by decide +kernel
abbrev cX1_init : ByteArray := prog_3_method_1_code
def yX1_init : MethodName := ⟨RX1, "<init>", "()V"⟩
abbrev cX1_has : ByteArray := prog_3_method_2_code
def yX1_has : MethodName := ⟨RX1, "has", "(I)Z"⟩
abbrev cX1_setAs : ByteArray := prog_3_method_3_code
def yX1_setAs : MethodName := ⟨RX1, "setAs", "(LMoonLine$Crowd;)V"⟩
abbrev cX1_isOf : ByteArray := prog_3_method_4_code
def yX1_isOf : MethodName := ⟨RX1, "isOf", "(II)Z"⟩
abbrev cX1_isAsleep : ByteArray := prog_3_method_5_code
def yX1_isAsleep : MethodName := ⟨RX1, "isAsleep", "(II)Z"⟩
abbrev cX1_howMany : ByteArray := prog_3_method_6_code
def yX1_howMany : MethodName := ⟨RX1, "howMany", "(I)I"⟩
abbrev cX1_read : ByteArray := prog_3_method_7_code
def yX1_read : MethodName := ⟨RX1, "read", "(LMoonLine$Text;)I"⟩
abbrev cX1_takes : ByteArray := prog_3_method_8_code
def yX1_takes : MethodName := ⟨RX1, "takes", "(II)Z"⟩
abbrev cX1_takesLetter : ByteArray := prog_3_method_9_code
def yX1_takesLetter : MethodName := ⟨RX1, "takesLetter", "(I)Z"⟩
def RX2 : String := "MoonLine$Deeds"
def TX2 : u_T := fun k => match k with
  | 0 => ("MoonLine$Deeds", "deed", "[I", true)
  | _ => ("MoonLine$Deeds", "number", "I", false)
def tyX2 : Nat → FieldType := fun k => match k with
  | 0 => .array .int
  | _ => .int
abbrev wsX20 : List Cond := u_ws RX2 TX2 2
theorem nmX2 : ∀ a, a < 2 → ∀ b, b < 2 → a ≠ b → (TX2 a).2.1 ≠ (TX2 b).2.1 := by decide +kernel
theorem tyX2_ok : ∀ k, k < 2 → parseFieldDescriptor (TX2 k).2.2.1 = some (tyX2 k) := by decide +kernel
abbrev cX2_init : ByteArray := prog_4_method_1_code
def yX2_init : MethodName := ⟨RX2, "<init>", "()V"⟩
abbrev cX2_hasRoomFor : ByteArray := prog_4_method_2_code
def yX2_hasRoomFor : MethodName := ⟨RX2, "hasRoomFor", "(I)Z"⟩
abbrev cX2_add : ByteArray := prog_4_method_3_code
def yX2_add : MethodName := ⟨RX2, "add", "(I)V"⟩
abbrev cX2_setAs : ByteArray := prog_4_method_4_code
def yX2_setAs : MethodName := ⟨RX2, "setAs", "(LMoonLine$Deeds;)V"⟩
def RX3 : String := "MoonLine$Memories"
def TX3 : u_T := fun k => match k with
  | 0 => ("MoonLine$Memories", "said", "[[I", true)
  | 1 => ("MoonLine$Memories", "number", "I", false)
  | 2 => ("MoonLine$Memories", "mostTrue", "I", false)
  | _ => ("MoonLine$Memories", "ways", "J", false)
def tyX3 : Nat → FieldType := fun k => match k with
  | 0 => .array (.array .int)
  | 1 => .int
  | 2 => .int
  | _ => .long
abbrev wsX30 : List Cond := u_ws RX3 TX3 4
theorem nmX3 : ∀ a, a < 4 → ∀ b, b < 4 → a ≠ b → (TX3 a).2.1 ≠ (TX3 b).2.1 := by decide +kernel
theorem tyX3_ok : ∀ k, k < 4 → parseFieldDescriptor (TX3 k).2.2.1 = some (tyX3 k) := by decide +kernel
abbrev cX3_init : ByteArray := prog_5_method_1_code
def yX3_init : MethodName := ⟨RX3, "<init>", "()V"⟩
abbrev cX3_begin : ByteArray := prog_5_method_2_code
def yX3_begin : MethodName := ⟨RX3, "begin", "(I)V"⟩
abbrev cX3_addPair : ByteArray := prog_5_method_3_code
def yX3_addPair : MethodName := ⟨RX3, "addPair", "(II)V"⟩
abbrev cX3_isPerson : ByteArray := prog_5_method_4_code
def yX3_isPerson : MethodName := ⟨RX3, "isPerson", "(I)Z"⟩
abbrev cX3_countOrders : ByteArray := prog_5_method_5_code
def yX3_countOrders : MethodName := ⟨RX3, "countOrders", "()V"⟩
abbrev cX3_standBehind : ByteArray := prog_5_method_6_code
def yX3_standBehind : MethodName := ⟨RX3, "standBehind", "(IIII)V"⟩
abbrev cX3_countOrder : ByteArray := prog_5_method_7_code
def yX3_countOrder : MethodName := ⟨RX3, "countOrder", "(I)V"⟩
def RX4 : String := "MoonLine$NightWalk"
def TX4 : u_T := fun k => match k with
  | 0 => ("MoonLine$NightWalk", "steps", "[LMoonLine$Queue;", true)
  | 1 => ("MoonLine$NightWalk", "power", "[J", true)
  | 2 => ("MoonLine$NightWalk", "crowd", "LMoonLine$Crowd;", false)
  | 3 => ("MoonLine$NightWalk", "goers", "LMoonLine$Row;", false)
  | 4 => ("MoonLine$NightWalk", "length", "I", false)
  | 5 => ("MoonLine$NightWalk", "awaited", "I", false)
  | 6 => ("MoonLine$NightWalk", "clearWeight", "I", false)
  | 7 => ("MoonLine$NightWalk", "cloudyWeight", "I", false)
  | 8 => ("MoonLine$NightWalk", "commonBits", "I", false)
  | 9 => ("MoonLine$NightWalk", "soonestNight", "I", false)
  | _ => ("MoonLine$NightWalk", "fitting", "J", false)
def tyX4 : Nat → FieldType := fun k => match k with
  | 0 => .array (.object "MoonLine$Queue")
  | 1 => .array .long
  | 2 => .object "MoonLine$Crowd"
  | 3 => .object "MoonLine$Row"
  | 4 => .int
  | 5 => .int
  | 6 => .int
  | 7 => .int
  | 8 => .int
  | 9 => .int
  | _ => .long
abbrev wsX40 : List Cond := u_ws RX4 TX4 11
theorem nmX4 : ∀ a, a < 11 → ∀ b, b < 11 → a ≠ b → (TX4 a).2.1 ≠ (TX4 b).2.1 := by decide +kernel
theorem tyX4_ok : ∀ k, k < 11 → parseFieldDescriptor (TX4 k).2.2.1 = some (tyX4 k) := by decide +kernel
abbrev cX4_init : ByteArray := prog_6_method_1_code
def yX4_init : MethodName := ⟨RX4, "<init>", "()V"⟩
abbrev cX4_begin : ByteArray := prog_6_method_2_code
def yX4_begin : MethodName := ⟨RX4, "begin", "(LMoonLine$Crowd;LMoonLine$Queue;I)V"⟩
abbrev cX4_waitFor : ByteArray := prog_6_method_3_code
def yX4_waitFor : MethodName := ⟨RX4, "waitFor", "(III)V"⟩
abbrev cX4_allWays : ByteArray := prog_6_method_4_code
def yX4_allWays : MethodName := ⟨RX4, "allWays", "(I)J"⟩
abbrev cX4_ways : ByteArray := prog_6_method_5_code
def yX4_ways : MethodName := ⟨RX4, "ways", "()J"⟩
abbrev cX4_waysFrom : ByteArray := prog_6_method_6_code
def yX4_waysFrom : MethodName := ⟨RX4, "waysFrom", "(I)J"⟩
abbrev cX4_waysBy : ByteArray := prog_6_method_7_code
def yX4_waysBy : MethodName := ⟨RX4, "waysBy", "(IZI)J"⟩
abbrev cX4_isToGo : ByteArray := prog_6_method_8_code
def yX4_isToGo : MethodName := ⟨RX4, "isToGo", "(LMoonLine$Queue;)Z"⟩
abbrev cX4_countFitting : ByteArray := prog_6_method_9_code
def yX4_countFitting : MethodName := ⟨RX4, "countFitting", "(LMoonLine$Row;)V"⟩
abbrev cX4_alwaysClear : ByteArray := prog_6_method_10_code
def yX4_alwaysClear : MethodName := ⟨RX4, "alwaysClear", "()I"⟩
abbrev cX4_fitFrom : ByteArray := prog_6_method_11_code
def yX4_fitFrom : MethodName := ⟨RX4, "fitFrom", "(II)V"⟩
def RX5 : String := "MoonLine$Queue"
def TX5 : u_T := fun k => match k with
  | 0 => ("MoonLine$Queue", "order", "[I", true)
  | 1 => ("MoonLine$Queue", "waited", "[I", true)
  | 2 => ("MoonLine$Queue", "wentIn", "[I", true)
  | 3 => ("MoonLine$Queue", "size", "I", false)
  | 4 => ("MoonLine$Queue", "night", "I", false)
  | _ => ("MoonLine$Queue", "gaveUp", "I", false)
def tyX5 : Nat → FieldType := fun k => match k with
  | 0 => .array .int
  | 1 => .array .int
  | 2 => .array .int
  | 3 => .int
  | 4 => .int
  | _ => .int
abbrev wsX50 : List Cond := u_ws RX5 TX5 6
theorem nmX5 : ∀ a, a < 6 → ∀ b, b < 6 → a ≠ b → (TX5 a).2.1 ≠ (TX5 b).2.1 := by decide +kernel
theorem tyX5_ok : ∀ k, k < 6 → parseFieldDescriptor (TX5 k).2.2.1 = some (tyX5 k) := by decide +kernel
abbrev cX5_init : ByteArray := prog_7_method_1_code
def yX5_init : MethodName := ⟨RX5, "<init>", "()V"⟩
abbrev cX5_beginWith : ByteArray := prog_7_method_2_code
def yX5_beginWith : MethodName := ⟨RX5, "beginWith", "(I)V"⟩
abbrev cX5_setAs : ByteArray := prog_7_method_3_code
def yX5_setAs : MethodName := ⟨RX5, "setAs", "(LMoonLine$Queue;)V"⟩
abbrev cX5_whoAt : ByteArray := prog_7_method_4_code
def yX5_whoAt : MethodName := ⟨RX5, "whoAt", "(I)I"⟩
abbrev cX5_placeOf : ByteArray := prog_7_method_5_code
def yX5_placeOf : MethodName := ⟨RX5, "placeOf", "(I)I"⟩
abbrev cX5_standing : ByteArray := prog_7_method_6_code
def yX5_standing : MethodName := ⟨RX5, "standing", "()I"⟩
abbrev cX5_swapPlaces : ByteArray := prog_7_method_7_code
def yX5_swapPlaces : MethodName := ⟨RX5, "swapPlaces", "(II)V"⟩
abbrev cX5_swapPersons : ByteArray := prog_7_method_8_code
def yX5_swapPersons : MethodName := ⟨RX5, "swapPersons", "(II)V"⟩
abbrev cX5_asleepAhead : ByteArray := prog_7_method_9_code
def yX5_asleepAhead : MethodName := ⟨RX5, "asleepAhead", "(LMoonLine$Crowd;I)I"⟩
abbrev cX5_awakeBehind : ByteArray := prog_7_method_10_code
def yX5_awakeBehind : MethodName := ⟨RX5, "awakeBehind", "(LMoonLine$Crowd;I)I"⟩
abbrev cX5_stepsOfRam : ByteArray := prog_7_method_11_code
def yX5_stepsOfRam : MethodName := ⟨RX5, "stepsOfRam", "(LMoonLine$Crowd;I)I"⟩
abbrev cX5_firstAwakeFrom : ByteArray := prog_7_method_12_code
def yX5_firstAwakeFrom : MethodName := ⟨RX5, "firstAwakeFrom", "(LMoonLine$Crowd;I)I"⟩
abbrev cX5_pass : ByteArray := prog_7_method_13_code
def yX5_pass : MethodName := ⟨RX5, "pass", "(LMoonLine$Crowd;Z)I"⟩
abbrev cX5_isAsleepAt : ByteArray := prog_7_method_14_code
def yX5_isAsleepAt : MethodName := ⟨RX5, "isAsleepAt", "(LMoonLine$Crowd;I)Z"⟩
abbrev cX5_pushAhead : ByteArray := prog_7_method_15_code
def yX5_pushAhead : MethodName := ⟨RX5, "pushAhead", "(LMoonLine$Crowd;)V"⟩
abbrev cX5_nextToGo : ByteArray := prog_7_method_16_code
def yX5_nextToGo : MethodName := ⟨RX5, "nextToGo", "(LMoonLine$Crowd;)I"⟩
abbrev cX5_waitOneMore : ByteArray := prog_7_method_17_code
def yX5_waitOneMore : MethodName := ⟨RX5, "waitOneMore", "(LMoonLine$Crowd;I)V"⟩
def RX6 : String := "MoonLine$Row"
def TX6 : u_T := fun k => match k with
  | 0 => ("MoonLine$Row", "places", "[I", true)
  | _ => ("MoonLine$Row", "size", "I", false)
def tyX6 : Nat → FieldType := fun k => match k with
  | 0 => .array .int
  | _ => .int
abbrev wsX60 : List Cond := u_ws RX6 TX6 2
theorem nmX6 : ∀ a, a < 2 → ∀ b, b < 2 → a ≠ b → (TX6 a).2.1 ≠ (TX6 b).2.1 := by decide +kernel
theorem tyX6_ok : ∀ k, k < 2 → parseFieldDescriptor (TX6 k).2.2.1 = some (tyX6 k) := by decide +kernel
abbrev cX6_init : ByteArray := prog_8_method_1_code
def yX6_init : MethodName := ⟨RX6, "<init>", "()V"⟩
abbrev cX6_isMissing : ByteArray := prog_8_method_2_code
def yX6_isMissing : MethodName := ⟨RX6, "isMissing", "()Z"⟩
abbrev cX6_has : ByteArray := prog_8_method_3_code
def yX6_has : MethodName := ⟨RX6, "has", "(I)Z"⟩
abbrev cX6_hasSpan : ByteArray := prog_8_method_4_code
def yX6_hasSpan : MethodName := ⟨RX6, "hasSpan", "(II)Z"⟩
abbrev cX6_beginWith : ByteArray := prog_8_method_5_code
def yX6_beginWith : MethodName := ⟨RX6, "beginWith", "(I)V"⟩
abbrev cX6_sum : ByteArray := prog_8_method_6_code
def yX6_sum : MethodName := ⟨RX6, "sum", "()J"⟩
abbrev cX6_addTo : ByteArray := prog_8_method_7_code
def yX6_addTo : MethodName := ⟨RX6, "addTo", "(J)J"⟩
def RX7 : String := "MoonLine$Text"
def TX7 : u_T := fun k => match k with
  | 0 => ("MoonLine$Text", "bytes", "[B", true)
  | _ => ("MoonLine$Text", "size", "I", false)
def tyX7 : Nat → FieldType := fun k => match k with
  | 0 => .array .byte
  | _ => .int
abbrev wsX70 : List Cond := u_ws RX7 TX7 2
theorem nmX7 : ∀ a, a < 2 → ∀ b, b < 2 → a ≠ b → (TX7 a).2.1 ≠ (TX7 b).2.1 := by decide +kernel
theorem tyX7_ok : ∀ k, k < 2 → parseFieldDescriptor (TX7 k).2.2.1 = some (tyX7 k) := by decide +kernel
abbrev cX7_init : ByteArray := prog_9_method_1_code
def yX7_init : MethodName := ⟨RX7, "<init>", "()V"⟩
abbrev cX7_isMissing : ByteArray := prog_9_method_2_code
def yX7_isMissing : MethodName := ⟨RX7, "isMissing", "()Z"⟩
abbrev cX7_has : ByteArray := prog_9_method_3_code
def yX7_has : MethodName := ⟨RX7, "has", "(I)Z"⟩
abbrev cX7_beginWith : ByteArray := prog_9_method_4_code
def yX7_beginWith : MethodName := ⟨RX7, "beginWith", "(I)V"⟩
abbrev cX7_addTo : ByteArray := prog_9_method_5_code
def yX7_addTo : MethodName := ⟨RX7, "addTo", "(J)J"⟩
def RX8 : String := "MoonLine$TradeSearch"
def TX8 : u_T := fun k => match k with
  | 0 => ("MoonLine$TradeSearch", "steps", "[LMoonLine$Queue;", true)
  | 1 => ("MoonLine$TradeSearch", "trial", "LMoonLine$Queue;", true)
  | 2 => ("MoonLine$TradeSearch", "crowd", "LMoonLine$Crowd;", false)
  | 3 => ("MoonLine$TradeSearch", "nights", "I", false)
  | 4 => ("MoonLine$TradeSearch", "one", "I", false)
  | 5 => ("MoonLine$TradeSearch", "follower", "I", false)
  | 6 => ("MoonLine$TradeSearch", "leastSum", "I", false)
  | _ => ("MoonLine$TradeSearch", "chosen", "[I", true)
def tyX8 : Nat → FieldType := fun k => match k with
  | 0 => .array (.object "MoonLine$Queue")
  | 1 => .object "MoonLine$Queue"
  | 2 => .object "MoonLine$Crowd"
  | 3 => .int
  | 4 => .int
  | 5 => .int
  | 6 => .int
  | _ => .array .int
abbrev wsX80 : List Cond := u_ws RX8 TX8 8
theorem nmX8 : ∀ a, a < 8 → ∀ b, b < 8 → a ≠ b → (TX8 a).2.1 ≠ (TX8 b).2.1 := by decide +kernel
theorem tyX8_ok : ∀ k, k < 8 → parseFieldDescriptor (TX8 k).2.2.1 = some (tyX8 k) := by decide +kernel
abbrev cX8_init : ByteArray := prog_10_method_1_code
def yX8_init : MethodName := ⟨RX8, "<init>", "()V"⟩
abbrev cX8_begin : ByteArray := prog_10_method_2_code
def yX8_begin : MethodName := ⟨RX8, "begin", "(LMoonLine$Crowd;LMoonLine$Queue;I)V"⟩
abbrev cX8_seek : ByteArray := prog_10_method_3_code
def yX8_seek : MethodName := ⟨RX8, "seek", "(II)V"⟩
abbrev cX8_fewestTrades : ByteArray := prog_10_method_4_code
def yX8_fewestTrades : MethodName := ⟨RX8, "fewestTrades", "()I"⟩
abbrev cX8_isReachedBy : ByteArray := prog_10_method_5_code
def yX8_isReachedBy : MethodName := ⟨RX8, "isReachedBy", "(II)Z"⟩
abbrev cX8_leastPrice : ByteArray := prog_10_method_6_code
def yX8_leastPrice : MethodName := ⟨RX8, "leastPrice", "()I"⟩
abbrev cX8_lookForCheaper : ByteArray := prog_10_method_7_code
def yX8_lookForCheaper : MethodName := ⟨RX8, "lookForCheaper", "(II)V"⟩
abbrev cX8_tradeAt : ByteArray := prog_10_method_8_code
def yX8_tradeAt : MethodName := ⟨RX8, "tradeAt", "(II)V"⟩
abbrev cX8_isReached : ByteArray := prog_10_method_9_code
def yX8_isReached : MethodName := ⟨RX8, "isReached", "(LMoonLine$Queue;)Z"⟩
def RX9 : String := "MoonLine"
def TX9 : u_T := fun k => match k with
  | 0 => ("MoonLine", "allRows", "[LMoonLine$Row;", true)
  | 1 => ("MoonLine", "allTexts", "[LMoonLine$Text;", true)
  | 2 => ("MoonLine", "crowd", "LMoonLine$Crowd;", true)
  | 3 => ("MoonLine", "draft", "LMoonLine$Crowd;", true)
  | 4 => ("MoonLine", "queue", "LMoonLine$Queue;", true)
  | 5 => ("MoonLine", "aside", "LMoonLine$Queue;", true)
  | 6 => ("MoonLine", "deeds", "LMoonLine$Deeds;", true)
  | 7 => ("MoonLine", "kept", "[LMoonLine$Deeds;", true)
  | 8 => ("MoonLine", "walk", "LMoonLine$NightWalk;", true)
  | 9 => ("MoonLine", "search", "LMoonLine$TradeSearch;", true)
  | 10 => ("MoonLine", "cloudGame", "LMoonLine$CloudGame;", true)
  | 11 => ("MoonLine", "memories", "LMoonLine$Memories;", true)
  | 12 => ("MoonLine", "reached", "[Z", true)
  | 13 => ("MoonLine", "findingTimes", "[I", true)
  | 14 => ("MoonLine", "latestFinding", "I", false)
  | 15 => ("MoonLine", "toldNumber", "I", false)
  | 16 => ("MoonLine", "toldUpper", "J", false)
  | _ => ("MoonLine", "toldLower", "J", false)
def tyX9 : Nat → FieldType := fun k => match k with
  | 0 => .array (.object "MoonLine$Row")
  | 1 => .array (.object "MoonLine$Text")
  | 2 => .object "MoonLine$Crowd"
  | 3 => .object "MoonLine$Crowd"
  | 4 => .object "MoonLine$Queue"
  | 5 => .object "MoonLine$Queue"
  | 6 => .object "MoonLine$Deeds"
  | 7 => .array (.object "MoonLine$Deeds")
  | 8 => .object "MoonLine$NightWalk"
  | 9 => .object "MoonLine$TradeSearch"
  | 10 => .object "MoonLine$CloudGame"
  | 11 => .object "MoonLine$Memories"
  | 12 => .array .boolean
  | 13 => .array .int
  | 14 => .int
  | 15 => .int
  | 16 => .long
  | _ => .long
abbrev wsX90 : List Cond := u_ws RX9 TX9 18
theorem nmX9 : ∀ a, a < 18 → ∀ b, b < 18 → a ≠ b → (TX9 a).2.1 ≠ (TX9 b).2.1 := by decide +kernel
theorem tyX9_ok : ∀ k, k < 18 → parseFieldDescriptor (TX9 k).2.2.1 = some (tyX9 k) := by decide +kernel
abbrev cX9_init : ByteArray := prog_1_method_1_code
def yX9_init : MethodName := ⟨RX9, "<init>", "()V"⟩
abbrev cX9_row : ByteArray := prog_1_method_2_code
def yX9_row : MethodName := ⟨RX9, "row", "(II)I"⟩
abbrev cX9_lay : ByteArray := prog_1_method_3_code
def yX9_lay : MethodName := ⟨RX9, "lay", "(III)I"⟩
abbrev cX9_at : ByteArray := prog_1_method_4_code
def yX9_at : MethodName := ⟨RX9, "at", "(II)I"⟩
abbrev cX9_tear : ByteArray := prog_1_method_5_code
def yX9_tear : MethodName := ⟨RX9, "tear", "(I)I"⟩
abbrev cX9_copy : ByteArray := prog_1_method_6_code
def yX9_copy : MethodName := ⟨RX9, "copy", "(IIIII)I"⟩
abbrev cX9_mean : ByteArray := prog_1_method_7_code
def yX9_mean : MethodName := ⟨RX9, "mean", "(I)I"⟩
abbrev cX9_text : ByteArray := prog_1_method_8_code
def yX9_text : MethodName := ⟨RX9, "text", "(II)I"⟩
abbrev cX9_put : ByteArray := prog_1_method_9_code
def yX9_put : MethodName := ⟨RX9, "put", "(III)I"⟩
abbrev cX9_fault : ByteArray := prog_1_method_10_code
def yX9_fault : MethodName := ⟨RX9, "fault", "(I)I"⟩
abbrev cX9_line : ByteArray := prog_1_method_11_code
def yX9_line : MethodName := ⟨RX9, "line", "(I)I"⟩
abbrev cX9_person : ByteArray := prog_1_method_12_code
def yX9_person : MethodName := ⟨RX9, "person", "(II)I"⟩
abbrev cX9_mark : ByteArray := prog_1_method_13_code
def yX9_mark : MethodName := ⟨RX9, "mark", "(II)I"⟩
abbrev cX9_price : ByteArray := prog_1_method_14_code
def yX9_price : MethodName := ⟨RX9, "price", "(II)I"⟩
abbrev cX9_night : ByteArray := prog_1_method_15_code
def yX9_night : MethodName := ⟨RX9, "night", "(I)I"⟩
abbrev cX9_trade : ByteArray := prog_1_method_16_code
def yX9_trade : MethodName := ⟨RX9, "trade", "(II)I"⟩
abbrev cX9_undo : ByteArray := prog_1_method_17_code
def yX9_undo : MethodName := ⟨RX9, "undo", "(I)I"⟩
abbrev cX9_keep : ByteArray := prog_1_method_18_code
def yX9_keep : MethodName := ⟨RX9, "keep", "(I)I"⟩
abbrev cX9_on : ByteArray := prog_1_method_19_code
def yX9_on : MethodName := ⟨RX9, "on", "(I)I"⟩
abbrev cX9_tonight : ByteArray := prog_1_method_20_code
def yX9_tonight : MethodName := ⟨RX9, "tonight", "()I"⟩
abbrev cX9_turn : ByteArray := prog_1_method_21_code
def yX9_turn : MethodName := ⟨RX9, "turn", "(II)I"⟩
abbrev cX9_after : ByteArray := prog_1_method_22_code
def yX9_after : MethodName := ⟨RX9, "after", "(I)I"⟩
abbrev cX9_soonest : ByteArray := prog_1_method_23_code
def yX9_soonest : MethodName := ⟨RX9, "soonest", "(II)I"⟩
abbrev cX9_rows : ByteArray := prog_1_method_24_code
def yX9_rows : MethodName := ⟨RX9, "rows", "(II)I"⟩
abbrev cX9_odds : ByteArray := prog_1_method_25_code
def yX9_odds : MethodName := ⟨RX9, "odds", "(III)I"⟩
abbrev cX9_mid : ByteArray := prog_1_method_26_code
def yX9_mid : MethodName := ⟨RX9, "mid", "(II)I"⟩
abbrev cX9_push : ByteArray := prog_1_method_27_code
def yX9_push : MethodName := ⟨RX9, "push", "(III)I"⟩
abbrev cX9_pair : ByteArray := prog_1_method_28_code
def yX9_pair : MethodName := ⟨RX9, "pair", "(III)I"⟩
abbrev cX9_cheap : ByteArray := prog_1_method_29_code
def yX9_cheap : MethodName := ⟨RX9, "cheap", "(II)I"⟩
abbrev cX9_game : ByteArray := prog_1_method_30_code
def yX9_game : MethodName := ⟨RX9, "game", "(II)I"⟩
abbrev cX9_kinds : ByteArray := prog_1_method_31_code
def yX9_kinds : MethodName := ⟨RX9, "kinds", "(III)I"⟩
abbrev cX9_clear : ByteArray := prog_1_method_32_code
def yX9_clear : MethodName := ⟨RX9, "clear", "(I)I"⟩
abbrev cX9_lies : ByteArray := prog_1_method_33_code
def yX9_lies : MethodName := ⟨RX9, "lies", "(I)I"⟩
abbrev cX9_merge : ByteArray := prog_1_method_34_code
def yX9_merge : MethodName := ⟨RX9, "merge", "(II)I"⟩
abbrev cX9_merged : ByteArray := prog_1_method_35_code
def yX9_merged : MethodName := ⟨RX9, "merged", "(III)I"⟩
abbrev cX9_message : ByteArray := prog_1_method_36_code
def yX9_message : MethodName := ⟨RX9, "message", "(I)I"⟩
abbrev cX9_lots : ByteArray := prog_1_method_37_code
def yX9_lots : MethodName := ⟨RX9, "lots", "(II)I"⟩
abbrev cX9_asked : ByteArray := prog_1_method_38_code
def yX9_asked : MethodName := ⟨RX9, "asked", "()I"⟩
abbrev cX9_upper : ByteArray := prog_1_method_39_code
def yX9_upper : MethodName := ⟨RX9, "upper", "()J"⟩
abbrev cX9_lower : ByteArray := prog_1_method_40_code
def yX9_lower : MethodName := ⟨RX9, "lower", "()J"⟩
abbrev cX9_count : ByteArray := prog_1_method_41_code
def yX9_count : MethodName := ⟨RX9, "count", "(I)I"⟩
abbrev cX9_finding : ByteArray := prog_1_method_42_code
def yX9_finding : MethodName := ⟨RX9, "finding", "()I"⟩
abbrev cX9_findings : ByteArray := prog_1_method_43_code
def yX9_findings : MethodName := ⟨RX9, "findings", "(I)I"⟩
abbrev cX9_digest : ByteArray := prog_1_method_44_code
def yX9_digest : MethodName := ⟨RX9, "digest", "()J"⟩
abbrev cX9_isRow : ByteArray := prog_1_method_45_code
def yX9_isRow : MethodName := ⟨RX9, "isRow", "(I)Z"⟩
abbrev cX9_isText : ByteArray := prog_1_method_46_code
def yX9_isText : MethodName := ⟨RX9, "isText", "(I)Z"⟩
abbrev cX9_isKeptPlace : ByteArray := prog_1_method_47_code
def yX9_isKeptPlace : MethodName := ⟨RX9, "isKeptPlace", "(I)Z"⟩
abbrev cX9_isChance : ByteArray := prog_1_method_48_code
def yX9_isChance : MethodName := ⟨RX9, "isChance", "(I)Z"⟩
abbrev cX9_isTradeNights : ByteArray := prog_1_method_49_code
def yX9_isTradeNights : MethodName := ⟨RX9, "isTradeNights", "(I)Z"⟩
abbrev cX9_find : ByteArray := prog_1_method_50_code
def yX9_find : MethodName := ⟨RX9, "find", "(I)I"⟩
abbrev cX9_refusalOfRow : ByteArray := prog_1_method_51_code
def yX9_refusalOfRow : MethodName := ⟨RX9, "refusalOfRow", "(I)I"⟩
abbrev cX9_refusalOfPlace : ByteArray := prog_1_method_52_code
def yX9_refusalOfPlace : MethodName := ⟨RX9, "refusalOfPlace", "(II)I"⟩
abbrev cX9_refusalOfText : ByteArray := prog_1_method_53_code
def yX9_refusalOfText : MethodName := ⟨RX9, "refusalOfText", "(I)I"⟩
abbrev cX9_tellWays : ByteArray := prog_1_method_54_code
def yX9_tellWays : MethodName := ⟨RX9, "tellWays", "(J)V"⟩
abbrev cX9_tellChance : ByteArray := prog_1_method_55_code
def yX9_tellChance : MethodName := ⟨RX9, "tellChance", "(JJ)V"⟩
abbrev cX9_commonDivisor : ByteArray := prog_1_method_56_code
def yX9_commonDivisor : MethodName := ⟨RX9, "commonDivisor", "(JJ)J"⟩
abbrev cX9_numberOf : ByteArray := prog_1_method_57_code
def yX9_numberOf : MethodName := ⟨RX9, "numberOf", "(I)I"⟩
abbrev cX9_rowsThere : ByteArray := prog_1_method_58_code
def yX9_rowsThere : MethodName := ⟨RX9, "rowsThere", "()I"⟩
abbrev cX9_textsThere : ByteArray := prog_1_method_59_code
def yX9_textsThere : MethodName := ⟨RX9, "textsThere", "()I"⟩
abbrev cX9_keptThere : ByteArray := prog_1_method_60_code
def yX9_keptThere : MethodName := ⟨RX9, "keptThere", "()I"⟩
abbrev cX9_detailOf : ByteArray := prog_1_method_61_code
def yX9_detailOf : MethodName := ⟨RX9, "detailOf", "(II)I"⟩
abbrev cX9_passNight : ByteArray := prog_1_method_62_code
def yX9_passNight : MethodName := ⟨RX9, "passNight", "(I)I"⟩
abbrev cX9_doDeedsAnew : ByteArray := prog_1_method_63_code
def yX9_doDeedsAnew : MethodName := ⟨RX9, "doDeedsAnew", "()V"⟩
abbrev cX9_wrongInNights : ByteArray := prog_1_method_64_code
def yX9_wrongInNights : MethodName := ⟨RX9, "wrongInNights", "(LMoonLine$Row;)I"⟩
abbrev cX9_wrongInGoers : ByteArray := prog_1_method_65_code
def yX9_wrongInGoers : MethodName := ⟨RX9, "wrongInGoers", "(LMoonLine$Row;I)I"⟩
abbrev cX9_wrongInPairs : ByteArray := prog_1_method_66_code
def yX9_wrongInPairs : MethodName := ⟨RX9, "wrongInPairs", "(LMoonLine$Row;)I"⟩
abbrev cX9_goSo : ByteArray := prog_1_method_67_code
def yX9_goSo : MethodName := ⟨RX9, "goSo", "(LMoonLine$Crowd;LMoonLine$Row;LMoonLine$Row;)Z"⟩
abbrev cX9_isMerge : ByteArray := prog_1_method_68_code
def yX9_isMerge : MethodName := ⟨RX9, "isMerge", "(LMoonLine$Row;LMoonLine$Row;LMoonLine$Row;)Z"⟩
def RX10 : String := "MoonLineModel"
def TX10 : u_T := fun k => match k with
  | 0 => ("MoonLineModel", "row", "[I", true)
  | 1 => ("MoonLineModel", "persons", "I", false)
  | 2 => ("MoonLineModel", "kinds", "[I", true)
  | 3 => ("MoonLineModel", "patience", "[I", true)
  | 4 => ("MoonLineModel", "prices", "[I", true)
  | 5 => ("MoonLineModel", "sizes", "[I", true)
  | 6 => ("MoonLineModel", "items", "[I", true)
  | 7 => ("MoonLineModel", "lengths", "[I", true)
  | 8 => ("MoonLineModel", "bytes", "[I", true)
  | 9 => ("MoonLineModel", "asked", "I", false)
  | 10 => ("MoonLineModel", "upper", "J", false)
  | 11 => ("MoonLineModel", "lower", "J", false)
  | 12 => ("MoonLineModel", "finding", "I", false)
  | 13 => ("MoonLineModel", "findings", "[I", true)
  | 14 => ("MoonLineModel", "from", "I", false)
  | 15 => ("MoonLineModel", "place", "I", false)
  | 16 => ("MoonLineModel", "end", "I", false)
  | 17 => ("MoonLineModel", "readPersons", "[I", true)
  | 18 => ("MoonLineModel", "readMany", "I", false)
  | 19 => ("MoonLineModel", "stood", "[I", true)
  | 20 => ("MoonLineModel", "paid", "I", false)
  | 21 => ("MoonLineModel", "wins", "[Z", true)
  | 22 => ("MoonLineModel", "order", "[I", true)
  | _ => ("MoonLineModel", "merges", "[J", true)
def tyX10 : Nat → FieldType := fun k => match k with
  | 0 => .array .int
  | 1 => .int
  | 2 => .array .int
  | 3 => .array .int
  | 4 => .array .int
  | 5 => .array .int
  | 6 => .array .int
  | 7 => .array .int
  | 8 => .array .int
  | 9 => .int
  | 10 => .long
  | 11 => .long
  | 12 => .int
  | 13 => .array .int
  | 14 => .int
  | 15 => .int
  | 16 => .int
  | 17 => .array .int
  | 18 => .int
  | 19 => .array .int
  | 20 => .int
  | 21 => .array .boolean
  | 22 => .array .int
  | _ => .array .long
abbrev wsX100 : List Cond := u_ws RX10 TX10 24
theorem nmX10 : ∀ a, a < 24 → ∀ b, b < 24 → a ≠ b → (TX10 a).2.1 ≠ (TX10 b).2.1 := by decide +kernel
theorem tyX10_ok : ∀ k, k < 24 → parseFieldDescriptor (TX10 k).2.2.1 = some (tyX10 k) := by decide +kernel
abbrev cX10_init : ByteArray := prog_12_method_1_code
def yX10_init : MethodName := ⟨RX10, "<init>", "()V"⟩
abbrev cX10_bits : ByteArray := prog_12_method_2_code
def yX10_bits : MethodName := ⟨RX10, "bits", "(I)I"⟩
abbrev cX10_in : ByteArray := prog_12_method_3_code
def yX10_in : MethodName := ⟨RX10, "in", "(JJJ)Z"⟩
abbrev cX10_has : ByteArray := prog_12_method_4_code
def yX10_has : MethodName := ⟨RX10, "has", "(II)Z"⟩
abbrev cX10_find : ByteArray := prog_12_method_5_code
def yX10_find : MethodName := ⟨RX10, "find", "(I)I"⟩
abbrev cX10_tell : ByteArray := prog_12_method_6_code
def yX10_tell : MethodName := ⟨RX10, "tell", "(I)I"⟩
abbrev cX10_isRow : ByteArray := prog_12_method_7_code
def yX10_isRow : MethodName := ⟨RX10, "isRow", "(I)Z"⟩
abbrev cX10_isText : ByteArray := prog_12_method_8_code
def yX10_isText : MethodName := ⟨RX10, "isText", "(I)Z"⟩
abbrev cX10_row : ByteArray := prog_12_method_9_code
def yX10_row : MethodName := ⟨RX10, "row", "(II)I"⟩
abbrev cX10_makeRow : ByteArray := prog_12_method_10_code
def yX10_makeRow : MethodName := ⟨RX10, "makeRow", "(II)V"⟩
abbrev cX10_refused : ByteArray := prog_12_method_11_code
def yX10_refused : MethodName := ⟨RX10, "refused", "(II)I"⟩
abbrev cX10_lay : ByteArray := prog_12_method_12_code
def yX10_lay : MethodName := ⟨RX10, "lay", "(III)I"⟩
abbrev cX10_at : ByteArray := prog_12_method_13_code
def yX10_at : MethodName := ⟨RX10, "at", "(II)I"⟩
abbrev cX10_tear : ByteArray := prog_12_method_14_code
def yX10_tear : MethodName := ⟨RX10, "tear", "(I)I"⟩
abbrev cX10_isSpan : ByteArray := prog_12_method_15_code
def yX10_isSpan : MethodName := ⟨RX10, "isSpan", "(III)Z"⟩
abbrev cX10_copy : ByteArray := prog_12_method_16_code
def yX10_copy : MethodName := ⟨RX10, "copy", "(IIIII)I"⟩
abbrev cX10_mean : ByteArray := prog_12_method_17_code
def yX10_mean : MethodName := ⟨RX10, "mean", "(I)I"⟩
abbrev cX10_text : ByteArray := prog_12_method_18_code
def yX10_text : MethodName := ⟨RX10, "text", "(II)I"⟩
abbrev cX10_put : ByteArray := prog_12_method_19_code
def yX10_put : MethodName := ⟨RX10, "put", "(III)I"⟩
abbrev cX10_here : ByteArray := prog_12_method_20_code
def yX10_here : MethodName := ⟨RX10, "here", "()I"⟩
abbrev cX10_skip : ByteArray := prog_12_method_21_code
def yX10_skip : MethodName := ⟨RX10, "skip", "()V"⟩
abbrev cX10_figure : ByteArray := prog_12_method_22_code
def yX10_figure : MethodName := ⟨RX10, "figure", "(I)I"⟩
abbrev cX10_kindOfLetter : ByteArray := prog_12_method_23_code
def yX10_kindOfLetter : MethodName := ⟨RX10, "kindOfLetter", "(I)I"⟩
abbrev cX10_readsPerson : ByteArray := prog_12_method_24_code
def yX10_readsPerson : MethodName := ⟨RX10, "readsPerson", "()Z"⟩
abbrev cX10_faultOf : ByteArray := prog_12_method_25_code
def yX10_faultOf : MethodName := ⟨RX10, "faultOf", "(I)I"⟩
abbrev cX10_fault : ByteArray := prog_12_method_26_code
def yX10_fault : MethodName := ⟨RX10, "fault", "(I)I"⟩
abbrev cX10_line : ByteArray := prog_12_method_27_code
def yX10_line : MethodName := ⟨RX10, "line", "(I)I"⟩
abbrev cX10_isPerson : ByteArray := prog_12_method_28_code
def yX10_isPerson : MethodName := ⟨RX10, "isPerson", "(I)Z"⟩
abbrev cX10_isAsleep : ByteArray := prog_12_method_29_code
def yX10_isAsleep : MethodName := ⟨RX10, "isAsleep", "(II)Z"⟩
abbrev cX10_sleepsAt : ByteArray := prog_12_method_30_code
def yX10_sleepsAt : MethodName := ⟨RX10, "sleepsAt", "(II)Z"⟩
abbrev cX10_placeOf : ByteArray := prog_12_method_31_code
def yX10_placeOf : MethodName := ⟨RX10, "placeOf", "(II)I"⟩
abbrev cX10_isPusher : ByteArray := prog_12_method_32_code
def yX10_isPusher : MethodName := ⟨RX10, "isPusher", "(I)Z"⟩
abbrev cX10_swap : ByteArray := prog_12_method_33_code
def yX10_swap : MethodName := ⟨RX10, "swap", "(II)V"⟩
abbrev cX10_goesAhead : ByteArray := prog_12_method_34_code
def yX10_goesAhead : MethodName := ⟨RX10, "goesAhead", "(II)Z"⟩
abbrev cX10_pushes : ByteArray := prog_12_method_35_code
def yX10_pushes : MethodName := ⟨RX10, "pushes", "(I)V"⟩
abbrev cX10_awakeFrom : ByteArray := prog_12_method_36_code
def yX10_awakeFrom : MethodName := ⟨RX10, "awakeFrom", "(II)I"⟩
abbrev cX10_leaves : ByteArray := prog_12_method_37_code
def yX10_leaves : MethodName := ⟨RX10, "leaves", "(II)V"⟩
abbrev cX10_goer : ByteArray := prog_12_method_38_code
def yX10_goer : MethodName := ⟨RX10, "goer", "(I)I"⟩
abbrev cX10_pass : ByteArray := prog_12_method_39_code
def yX10_pass : MethodName := ⟨RX10, "pass", "(II)I"⟩
abbrev cX10_copyLine : ByteArray := prog_12_method_40_code
def yX10_copyLine : MethodName := ⟨RX10, "copyLine", "(III)V"⟩
abbrev cX10_layTried : ByteArray := prog_12_method_41_code
def yX10_layTried : MethodName := ⟨RX10, "layTried", "()V"⟩
abbrev cX10_toldOf : ByteArray := prog_12_method_42_code
def yX10_toldOf : MethodName := ⟨RX10, "toldOf", "(II)I"⟩
abbrev cX10_person : ByteArray := prog_12_method_43_code
def yX10_person : MethodName := ⟨RX10, "person", "(II)I"⟩
abbrev cX10_isOf : ByteArray := prog_12_method_44_code
def yX10_isOf : MethodName := ⟨RX10, "isOf", "(II)Z"⟩
abbrev cX10_sleeping : ByteArray := prog_12_method_45_code
def yX10_sleeping : MethodName := ⟨RX10, "sleeping", "(IIZ)I"⟩
abbrev cX10_mark : ByteArray := prog_12_method_46_code
def yX10_mark : MethodName := ⟨RX10, "mark", "(II)I"⟩
abbrev cX10_price : ByteArray := prog_12_method_47_code
def yX10_price : MethodName := ⟨RX10, "price", "(II)I"⟩
abbrev cX10_keepPast : ByteArray := prog_12_method_48_code
def yX10_keepPast : MethodName := ⟨RX10, "keepPast", "()V"⟩
abbrev cX10_night : ByteArray := prog_12_method_49_code
def yX10_night : MethodName := ⟨RX10, "night", "(I)I"⟩
abbrev cX10_areTwo : ByteArray := prog_12_method_50_code
def yX10_areTwo : MethodName := ⟨RX10, "areTwo", "(II)Z"⟩
abbrev cX10_trade : ByteArray := prog_12_method_51_code
def yX10_trade : MethodName := ⟨RX10, "trade", "(II)I"⟩
abbrev cX10_undo : ByteArray := prog_12_method_52_code
def yX10_undo : MethodName := ⟨RX10, "undo", "(I)I"⟩
abbrev cX10_keep : ByteArray := prog_12_method_53_code
def yX10_keep : MethodName := ⟨RX10, "keep", "(I)I"⟩
abbrev cX10_on : ByteArray := prog_12_method_54_code
def yX10_on : MethodName := ⟨RX10, "on", "(I)I"⟩
abbrev cX10_tonight : ByteArray := prog_12_method_55_code
def yX10_tonight : MethodName := ⟨RX10, "tonight", "()I"⟩
abbrev cX10_noNights : ByteArray := prog_12_method_56_code
def yX10_noNights : MethodName := ⟨RX10, "noNights", "(II)I"⟩
abbrev cX10_noWent : ByteArray := prog_12_method_57_code
def yX10_noWent : MethodName := ⟨RX10, "noWent", "(II)I"⟩
abbrev cX10_areAll : ByteArray := prog_12_method_58_code
def yX10_areAll : MethodName := ⟨RX10, "areAll", "(III)Z"⟩
abbrev cX10_turn : ByteArray := prog_12_method_59_code
def yX10_turn : MethodName := ⟨RX10, "turn", "(II)I"⟩
abbrev cX10_after : ByteArray := prog_12_method_60_code
def yX10_after : MethodName := ⟨RX10, "after", "(I)I"⟩
abbrev cX10_goesBy : ByteArray := prog_12_method_61_code
def yX10_goesBy : MethodName := ⟨RX10, "goesBy", "(III)I"⟩
abbrev cX10_soonest : ByteArray := prog_12_method_62_code
def yX10_soonest : MethodName := ⟨RX10, "soonest", "(II)I"⟩
abbrev cX10_rows : ByteArray := prog_12_method_63_code
def yX10_rows : MethodName := ⟨RX10, "rows", "(II)I"⟩
abbrev cX10_tellParts : ByteArray := prog_12_method_64_code
def yX10_tellParts : MethodName := ⟨RX10, "tellParts", "(JJ)I"⟩
abbrev cX10_waysOf : ByteArray := prog_12_method_65_code
def yX10_waysOf : MethodName := ⟨RX10, "waysOf", "(III)J"⟩
abbrev cX10_odds : ByteArray := prog_12_method_66_code
def yX10_odds : MethodName := ⟨RX10, "odds", "(III)I"⟩
abbrev cX10_mid : ByteArray := prog_12_method_67_code
def yX10_mid : MethodName := ⟨RX10, "mid", "(II)I"⟩
abbrev cX10_power : ByteArray := prog_12_method_68_code
def yX10_power : MethodName := ⟨RX10, "power", "(II)I"⟩
abbrev cX10_pairs : ByteArray := prog_12_method_69_code
def yX10_pairs : MethodName := ⟨RX10, "pairs", "()I"⟩
abbrev cX10_tradeOf : ByteArray := prog_12_method_70_code
def yX10_tradeOf : MethodName := ⟨RX10, "tradeOf", "(III)I"⟩
abbrev cX10_layTrades : ByteArray := prog_12_method_71_code
def yX10_layTrades : MethodName := ⟨RX10, "layTrades", "(II)V"⟩
abbrev cX10_goesClear : ByteArray := prog_12_method_72_code
def yX10_goesClear : MethodName := ⟨RX10, "goesClear", "(II)I"⟩
abbrev cX10_tradeRows : ByteArray := prog_12_method_73_code
def yX10_tradeRows : MethodName := ⟨RX10, "tradeRows", "(I)I"⟩
abbrev cX10_push : ByteArray := prog_12_method_74_code
def yX10_push : MethodName := ⟨RX10, "push", "(III)I"⟩
abbrev cX10_pair : ByteArray := prog_12_method_75_code
def yX10_pair : MethodName := ⟨RX10, "pair", "(III)I"⟩
abbrev cX10_cheap : ByteArray := prog_12_method_76_code
def yX10_cheap : MethodName := ⟨RX10, "cheap", "(II)I"⟩
abbrev cX10_winsBy : ByteArray := prog_12_method_77_code
def yX10_winsBy : MethodName := ⟨RX10, "winsBy", "(III)Z"⟩
abbrev cX10_clouds : ByteArray := prog_12_method_78_code
def yX10_clouds : MethodName := ⟨RX10, "clouds", "(II)I"⟩
abbrev cX10_game : ByteArray := prog_12_method_79_code
def yX10_game : MethodName := ⟨RX10, "game", "(II)I"⟩
abbrev cX10_wentSo : ByteArray := prog_12_method_80_code
def yX10_wentSo : MethodName := ⟨RX10, "wentSo", "(II)Z"⟩
abbrev cX10_kinds : ByteArray := prog_12_method_81_code
def yX10_kinds : MethodName := ⟨RX10, "kinds", "(III)I"⟩
abbrev cX10_clear : ByteArray := prog_12_method_82_code
def yX10_clear : MethodName := ⟨RX10, "clear", "(I)I"⟩
abbrev cX10_nextOrder : ByteArray := prog_12_method_83_code
def yX10_nextOrder : MethodName := ⟨RX10, "nextOrder", "(I)Z"⟩
abbrev cX10_liesBy : ByteArray := prog_12_method_84_code
def yX10_liesBy : MethodName := ⟨RX10, "liesBy", "(I)I"⟩
abbrev cX10_lies : ByteArray := prog_12_method_85_code
def yX10_lies : MethodName := ⟨RX10, "lies", "(I)I"⟩
abbrev cX10_merge : ByteArray := prog_12_method_86_code
def yX10_merge : MethodName := ⟨RX10, "merge", "(II)I"⟩
abbrev cX10_merged : ByteArray := prog_12_method_87_code
def yX10_merged : MethodName := ⟨RX10, "merged", "(III)I"⟩
abbrev cX10_message : ByteArray := prog_12_method_88_code
def yX10_message : MethodName := ⟨RX10, "message", "(I)I"⟩
abbrev cX10_lots : ByteArray := prog_12_method_89_code
def yX10_lots : MethodName := ⟨RX10, "lots", "(II)I"⟩
abbrev cX10_asked : ByteArray := prog_12_method_90_code
def yX10_asked : MethodName := ⟨RX10, "asked", "()I"⟩
abbrev cX10_upper : ByteArray := prog_12_method_91_code
def yX10_upper : MethodName := ⟨RX10, "upper", "()J"⟩
abbrev cX10_lower : ByteArray := prog_12_method_92_code
def yX10_lower : MethodName := ⟨RX10, "lower", "()J"⟩
abbrev cX10_wentMany : ByteArray := prog_12_method_93_code
def yX10_wentMany : MethodName := ⟨RX10, "wentMany", "()I"⟩
abbrev cX10_kindMany : ByteArray := prog_12_method_94_code
def yX10_kindMany : MethodName := ⟨RX10, "kindMany", "(I)I"⟩
abbrev cX10_thereOf : ByteArray := prog_12_method_95_code
def yX10_thereOf : MethodName := ⟨RX10, "thereOf", "(I)I"⟩
abbrev cX10_countOf : ByteArray := prog_12_method_96_code
def yX10_countOf : MethodName := ⟨RX10, "countOf", "(I)I"⟩
abbrev cX10_count : ByteArray := prog_12_method_97_code
def yX10_count : MethodName := ⟨RX10, "count", "(I)I"⟩
abbrev cX10_finding : ByteArray := prog_12_method_98_code
def yX10_finding : MethodName := ⟨RX10, "finding", "()I"⟩
abbrev cX10_findings : ByteArray := prog_12_method_99_code
def yX10_findings : MethodName := ⟨RX10, "findings", "(I)I"⟩
abbrev cX10_digest : ByteArray := prog_12_method_100_code
def yX10_digest : MethodName := ⟨RX10, "digest", "()J"⟩
def RJ6 : String := "java/lang/Integer"
def TJ6 : u_T := fun k => match k with
  | _ => ("", "", "", false)
def tyJ6 : Nat → FieldType := fun k => match k with
  | _ => .int
abbrev wsJ60 : List Cond := u_ws RJ6 TJ6 0
theorem nmJ6 : ∀ a, a < 0 → ∀ b, b < 0 → a ≠ b → (TJ6 a).2.1 ≠ (TJ6 b).2.1 := by decide +kernel
theorem tyJ6_ok : ∀ k, k < 0 → parseFieldDescriptor (TJ6 k).2.2.1 = some (tyJ6 k) := by decide +kernel
abbrev cJ6_bitCount_0f7a4 : ByteArray := prog_13_method_49_code
def yJ6_bitCount_0f7a4 : MethodName := ⟨RJ6, "bitCount", "(I)I"⟩
def RJ9 : String := "java/lang/Math"
def TJ9 : u_T := fun k => match k with
  | _ => ("", "", "", false)
def tyJ9 : Nat → FieldType := fun k => match k with
  | _ => .int
abbrev wsJ90 : List Cond := u_ws RJ9 TJ9 0
theorem nmJ9 : ∀ a, a < 0 → ∀ b, b < 0 → a ≠ b → (TJ9 a).2.1 ≠ (TJ9 b).2.1 := by decide +kernel
theorem tyJ9_ok : ∀ k, k < 0 → parseFieldDescriptor (TJ9 k).2.2.1 = some (tyJ9 k) := by decide +kernel
abbrev cJ9_min_7cf53 : ByteArray := prog_14_method_69_code
def yJ9_min_7cf53 : MethodName := ⟨RJ9, "min", "(II)I"⟩
def RJ10 : String := "java/lang/System"
def TJ10 : u_T := fun k => match k with
  | _ => ("", "", "", false)
def tyJ10 : Nat → FieldType := fun k => match k with
  | _ => .int
abbrev wsJ100 : List Cond := u_ws RJ10 TJ10 0
theorem nmJ10 : ∀ a, a < 0 → ∀ b, b < 0 → a ≠ b → (TJ10 a).2.1 ≠ (TJ10 b).2.1 := by decide +kernel
theorem tyJ10_ok : ∀ k, k < 0 → parseFieldDescriptor (TJ10 k).2.2.1 = some (tyJ10 k) := by decide +kernel
def RJ7 : String := "java/util/Arrays"
def TJ7 : u_T := fun k => match k with
  | _ => ("", "", "", false)
def tyJ7 : Nat → FieldType := fun k => match k with
  | _ => .int
abbrev wsJ70 : List Cond := u_ws RJ7 TJ7 0
theorem nmJ7 : ∀ a, a < 0 → ∀ b, b < 0 → a ≠ b → (TJ7 a).2.1 ≠ (TJ7 b).2.1 := by decide +kernel
theorem tyJ7_ok : ∀ k, k < 0 → parseFieldDescriptor (TJ7 k).2.2.1 = some (tyJ7 k) := by decide +kernel
abbrev cJ7_fill_53178 : ByteArray := prog_16_method_103_code
def yJ7_fill_53178 : MethodName := ⟨RJ7, "fill", "([II)V"⟩
abbrev cJ7_fill_031fb : ByteArray := prog_16_method_109_code
def yJ7_fill_031fb : MethodName := ⟨RJ7, "fill", "([BB)V"⟩
def RL : String := "MoonLineLaw"
abbrev cL_law : ByteArray := code
def yL_law : MethodName := ⟨RL, "law", "([I)Z"⟩
abbrev vwCl : List vw_C := [(RX0, TX0, 4), (RX1, TX1, 4), (RX2, TX2, 2), (RX3, TX3, 4), (RX4, TX4, 11), (RX5, TX5, 6), (RX6, TX6, 2), (RX7, TX7, 2), (RX8, TX8, 8), (RX9, TX9, 18), (RX10, TX10, 24)]
def lw_g : List Cond := lw_tbl.filter goodWord
theorem mg {w : Cond} (i : Nat) (h : lw_tbl[i]? = some w) (g : goodWord w = true) : w ∈ lw_g := List.mem_filter.mpr ⟨List.mem_of_getElem? h, g⟩
