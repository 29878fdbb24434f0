theorem ms0 {w : Cond} (h : w ∈ k2_sels lw_privs) : w ∈ lw_tbl := List.mem_append_left _ h
theorem mg0 {w : Cond} (i : Nat) (h : (k2_sels lw_privs)[i]? = some w) (g : goodWord w = true) : w ∈ lw_g := List.mem_filter.mpr ⟨ms0 (List.mem_of_getElem? h), g⟩
theorem w_0 : (Jvm.Cond.selects "MoonLine" ⟨"MoonLine", "find", "(I)I"⟩ ⟨"MoonLine", "find", "(I)I"⟩) ∈ lw_g := mg0 0 rfl rfl
theorem w_1 : (Jvm.Cond.selects "MoonLine" ⟨"MoonLine", "refusalOfPlace", "(II)I"⟩ ⟨"MoonLine", "refusalOfPlace", "(II)I"⟩) ∈ lw_g := mg0 1 rfl rfl
theorem w_2 : (Jvm.Cond.selects "MoonLine" ⟨"MoonLine", "refusalOfRow", "(I)I"⟩ ⟨"MoonLine", "refusalOfRow", "(I)I"⟩) ∈ lw_g := mg0 2 rfl rfl
theorem w_3 : (Jvm.Cond.selects "MoonLine" ⟨"MoonLine", "refusalOfText", "(I)I"⟩ ⟨"MoonLine", "refusalOfText", "(I)I"⟩) ∈ lw_g := mg0 3 rfl rfl
theorem w_4 : (Jvm.Cond.selects "MoonLine$Crowd" ⟨"MoonLine$Crowd", "takes", "(II)Z"⟩ ⟨"MoonLine$Crowd", "takes", "(II)Z"⟩) ∈ lw_g := mg0 4 rfl rfl
theorem w_5 : (Jvm.Cond.selects "MoonLine$Crowd" ⟨"MoonLine$Crowd", "takesLetter", "(I)Z"⟩ ⟨"MoonLine$Crowd", "takesLetter", "(I)Z"⟩) ∈ lw_g := mg0 5 rfl rfl
theorem w_6 : (Jvm.Cond.selects "MoonLine" ⟨"MoonLine", "detailOf", "(II)I"⟩ ⟨"MoonLine", "detailOf", "(II)I"⟩) ∈ lw_g := mg0 6 rfl rfl
theorem w_7 : (Jvm.Cond.selects "MoonLine$Queue" ⟨"MoonLine$Queue", "isAsleepAt", "(LMoonLine$Crowd;I)Z"⟩ ⟨"MoonLine$Queue", "isAsleepAt", "(LMoonLine$Crowd;I)Z"⟩) ∈ lw_g := mg0 7 rfl rfl
theorem w_8 : (Jvm.Cond.selects "MoonLine" ⟨"MoonLine", "passNight", "(I)I"⟩ ⟨"MoonLine", "passNight", "(I)I"⟩) ∈ lw_g := mg0 8 rfl rfl
theorem w_9 : (Jvm.Cond.selects "MoonLine$Queue" ⟨"MoonLine$Queue", "pushAhead", "(LMoonLine$Crowd;)V"⟩ ⟨"MoonLine$Queue", "pushAhead", "(LMoonLine$Crowd;)V"⟩) ∈ lw_g := mg0 9 rfl rfl
theorem w_10 : (Jvm.Cond.selects "MoonLine$Queue" ⟨"MoonLine$Queue", "nextToGo", "(LMoonLine$Crowd;)I"⟩ ⟨"MoonLine$Queue", "nextToGo", "(LMoonLine$Crowd;)I"⟩) ∈ lw_g := mg0 10 rfl rfl
theorem w_11 : (Jvm.Cond.selects "MoonLine$Queue" ⟨"MoonLine$Queue", "waitOneMore", "(LMoonLine$Crowd;I)V"⟩ ⟨"MoonLine$Queue", "waitOneMore", "(LMoonLine$Crowd;I)V"⟩) ∈ lw_g := mg0 11 rfl rfl
theorem w_12 : (Jvm.Cond.selects "MoonLine" ⟨"MoonLine", "doDeedsAnew", "()V"⟩ ⟨"MoonLine", "doDeedsAnew", "()V"⟩) ∈ lw_g := mg0 12 rfl rfl
theorem w_13 : (Jvm.Cond.selects "MoonLine$NightWalk" ⟨"MoonLine$NightWalk", "waysFrom", "(I)J"⟩ ⟨"MoonLine$NightWalk", "waysFrom", "(I)J"⟩) ∈ lw_g := mg0 13 rfl rfl
theorem w_14 : (Jvm.Cond.selects "MoonLine$NightWalk" ⟨"MoonLine$NightWalk", "waysBy", "(IZI)J"⟩ ⟨"MoonLine$NightWalk", "waysBy", "(IZI)J"⟩) ∈ lw_g := mg0 14 rfl rfl
theorem w_15 : (Jvm.Cond.selects "MoonLine$NightWalk" ⟨"MoonLine$NightWalk", "isToGo", "(LMoonLine$Queue;)Z"⟩ ⟨"MoonLine$NightWalk", "isToGo", "(LMoonLine$Queue;)Z"⟩) ∈ lw_g := mg0 15 rfl rfl
theorem w_16 : (Jvm.Cond.selects "MoonLine" ⟨"MoonLine", "tellChance", "(JJ)V"⟩ ⟨"MoonLine", "tellChance", "(JJ)V"⟩) ∈ lw_g := mg0 16 rfl rfl
theorem w_17 : (Jvm.Cond.selects "MoonLine$TradeSearch" ⟨"MoonLine$TradeSearch", "isReachedBy", "(II)Z"⟩ ⟨"MoonLine$TradeSearch", "isReachedBy", "(II)Z"⟩) ∈ lw_g := mg0 17 rfl rfl
theorem w_18 : (Jvm.Cond.selects "MoonLine$TradeSearch" ⟨"MoonLine$TradeSearch", "isReached", "(LMoonLine$Queue;)Z"⟩ ⟨"MoonLine$TradeSearch", "isReached", "(LMoonLine$Queue;)Z"⟩) ∈ lw_g := mg0 18 rfl rfl
theorem w_19 : (Jvm.Cond.selects "MoonLine$TradeSearch" ⟨"MoonLine$TradeSearch", "tradeAt", "(II)V"⟩ ⟨"MoonLine$TradeSearch", "tradeAt", "(II)V"⟩) ∈ lw_g := mg0 19 rfl rfl
theorem w_20 : (Jvm.Cond.selects "MoonLine$TradeSearch" ⟨"MoonLine$TradeSearch", "lookForCheaper", "(II)V"⟩ ⟨"MoonLine$TradeSearch", "lookForCheaper", "(II)V"⟩) ∈ lw_g := mg0 20 rfl rfl
theorem w_21 : (Jvm.Cond.selects "MoonLine$CloudGame" ⟨"MoonLine$CloudGame", "isWonFrom", "(II)Z"⟩ ⟨"MoonLine$CloudGame", "isWonFrom", "(II)Z"⟩) ∈ lw_g := mg0 21 rfl rfl
theorem w_22 : (Jvm.Cond.selects "MoonLine$CloudGame" ⟨"MoonLine$CloudGame", "isWonBehindTrade", "(II)Z"⟩ ⟨"MoonLine$CloudGame", "isWonBehindTrade", "(II)Z"⟩) ∈ lw_g := mg0 22 rfl rfl
theorem w_23 : (Jvm.Cond.selects "MoonLine" ⟨"MoonLine", "wrongInGoers", "(LMoonLine$Row;I)I"⟩ ⟨"MoonLine", "wrongInGoers", "(LMoonLine$Row;I)I"⟩) ∈ lw_g := mg0 23 rfl rfl
theorem w_24 : (Jvm.Cond.selects "MoonLine" ⟨"MoonLine", "goSo", "(LMoonLine$Crowd;LMoonLine$Row;LMoonLine$Row;)Z"⟩ ⟨"MoonLine", "goSo", "(LMoonLine$Crowd;LMoonLine$Row;LMoonLine$Row;)Z"⟩) ∈ lw_g := mg0 24 rfl rfl
theorem w_25 : (Jvm.Cond.selects "MoonLine$NightWalk" ⟨"MoonLine$NightWalk", "fitFrom", "(II)V"⟩ ⟨"MoonLine$NightWalk", "fitFrom", "(II)V"⟩) ∈ lw_g := mg0 25 rfl rfl
theorem w_26 : (Jvm.Cond.selects "MoonLine" ⟨"MoonLine", "tellWays", "(J)V"⟩ ⟨"MoonLine", "tellWays", "(J)V"⟩) ∈ lw_g := mg0 26 rfl rfl
theorem w_27 : (Jvm.Cond.selects "MoonLine" ⟨"MoonLine", "wrongInPairs", "(LMoonLine$Row;)I"⟩ ⟨"MoonLine", "wrongInPairs", "(LMoonLine$Row;)I"⟩) ∈ lw_g := mg0 27 rfl rfl
theorem w_28 : (Jvm.Cond.selects "MoonLine$Memories" ⟨"MoonLine$Memories", "isPerson", "(I)Z"⟩ ⟨"MoonLine$Memories", "isPerson", "(I)Z"⟩) ∈ lw_g := mg0 28 rfl rfl
theorem w_29 : (Jvm.Cond.selects "MoonLine$Memories" ⟨"MoonLine$Memories", "standBehind", "(IIII)V"⟩ ⟨"MoonLine$Memories", "standBehind", "(IIII)V"⟩) ∈ lw_g := mg0 29 rfl rfl
theorem w_30 : (Jvm.Cond.selects "MoonLine$Memories" ⟨"MoonLine$Memories", "countOrder", "(I)V"⟩ ⟨"MoonLine$Memories", "countOrder", "(I)V"⟩) ∈ lw_g := mg0 30 rfl rfl
theorem w_31 : (Jvm.Cond.selects "MoonLine" ⟨"MoonLine", "isMerge", "(LMoonLine$Row;LMoonLine$Row;LMoonLine$Row;)Z"⟩ ⟨"MoonLine", "isMerge", "(LMoonLine$Row;LMoonLine$Row;LMoonLine$Row;)Z"⟩) ∈ lw_g := mg0 31 rfl rfl
theorem w_32 : (Jvm.Cond.selects "MoonLine" ⟨"MoonLine", "numberOf", "(I)I"⟩ ⟨"MoonLine", "numberOf", "(I)I"⟩) ∈ lw_g := mg0 32 rfl rfl
theorem w_33 : (Jvm.Cond.selects "MoonLine" ⟨"MoonLine", "rowsThere", "()I"⟩ ⟨"MoonLine", "rowsThere", "()I"⟩) ∈ lw_g := mg0 33 rfl rfl
theorem w_34 : (Jvm.Cond.selects "MoonLine" ⟨"MoonLine", "textsThere", "()I"⟩ ⟨"MoonLine", "textsThere", "()I"⟩) ∈ lw_g := mg0 34 rfl rfl
theorem w_35 : (Jvm.Cond.selects "MoonLine" ⟨"MoonLine", "keptThere", "()I"⟩ ⟨"MoonLine", "keptThere", "()I"⟩) ∈ lw_g := mg0 35 rfl rfl
theorem w_36 : (Jvm.Cond.selects "MoonLineModel" ⟨"MoonLineModel", "find", "(I)I"⟩ ⟨"MoonLineModel", "find", "(I)I"⟩) ∈ lw_g := mg0 36 rfl rfl
theorem w_37 : (Jvm.Cond.selects "MoonLineModel" ⟨"MoonLineModel", "makeRow", "(II)V"⟩ ⟨"MoonLineModel", "makeRow", "(II)V"⟩) ∈ lw_g := mg0 37 rfl rfl
theorem w_38 : (Jvm.Cond.selects "MoonLineModel" ⟨"MoonLineModel", "refused", "(II)I"⟩ ⟨"MoonLineModel", "refused", "(II)I"⟩) ∈ lw_g := mg0 38 rfl rfl
theorem w_39 : (Jvm.Cond.selects "MoonLineModel" ⟨"MoonLineModel", "tell", "(I)I"⟩ ⟨"MoonLineModel", "tell", "(I)I"⟩) ∈ lw_g := mg0 39 rfl rfl
theorem w_40 : (Jvm.Cond.selects "MoonLineModel" ⟨"MoonLineModel", "isSpan", "(III)Z"⟩ ⟨"MoonLineModel", "isSpan", "(III)Z"⟩) ∈ lw_g := mg0 40 rfl rfl
theorem w_41 : (Jvm.Cond.selects "MoonLineModel" ⟨"MoonLineModel", "faultOf", "(I)I"⟩ ⟨"MoonLineModel", "faultOf", "(I)I"⟩) ∈ lw_g := mg0 41 rfl rfl
theorem w_42 : (Jvm.Cond.selects "MoonLineModel" ⟨"MoonLineModel", "skip", "()V"⟩ ⟨"MoonLineModel", "skip", "()V"⟩) ∈ lw_g := mg0 42 rfl rfl
theorem w_43 : (Jvm.Cond.selects "MoonLineModel" ⟨"MoonLineModel", "here", "()I"⟩ ⟨"MoonLineModel", "here", "()I"⟩) ∈ lw_g := mg0 43 rfl rfl
theorem w_44 : (Jvm.Cond.selects "MoonLineModel" ⟨"MoonLineModel", "readsPerson", "()Z"⟩ ⟨"MoonLineModel", "readsPerson", "()Z"⟩) ∈ lw_g := mg0 44 rfl rfl
theorem w_45 : (Jvm.Cond.selects "MoonLineModel" ⟨"MoonLineModel", "figure", "(I)I"⟩ ⟨"MoonLineModel", "figure", "(I)I"⟩) ∈ lw_g := mg0 45 rfl rfl
theorem w_46 : (Jvm.Cond.selects "MoonLineModel" ⟨"MoonLineModel", "isPerson", "(I)Z"⟩ ⟨"MoonLineModel", "isPerson", "(I)Z"⟩) ∈ lw_g := mg0 46 rfl rfl
theorem w_47 : (Jvm.Cond.selects "MoonLineModel" ⟨"MoonLineModel", "toldOf", "(II)I"⟩ ⟨"MoonLineModel", "toldOf", "(II)I"⟩) ∈ lw_g := mg0 47 rfl rfl
theorem w_48 : (Jvm.Cond.selects "MoonLineModel" ⟨"MoonLineModel", "placeOf", "(II)I"⟩ ⟨"MoonLineModel", "placeOf", "(II)I"⟩) ∈ lw_g := mg0 48 rfl rfl
theorem w_49 : (Jvm.Cond.selects "MoonLineModel" ⟨"MoonLineModel", "isOf", "(II)Z"⟩ ⟨"MoonLineModel", "isOf", "(II)Z"⟩) ∈ lw_g := mg0 49 rfl rfl
theorem w_50 : (Jvm.Cond.selects "MoonLineModel" ⟨"MoonLineModel", "sleeping", "(IIZ)I"⟩ ⟨"MoonLineModel", "sleeping", "(IIZ)I"⟩) ∈ lw_g := mg0 50 rfl rfl
theorem w_51 : (Jvm.Cond.selects "MoonLineModel" ⟨"MoonLineModel", "sleepsAt", "(II)Z"⟩ ⟨"MoonLineModel", "sleepsAt", "(II)Z"⟩) ∈ lw_g := mg0 51 rfl rfl
theorem w_52 : (Jvm.Cond.selects "MoonLineModel" ⟨"MoonLineModel", "isAsleep", "(II)Z"⟩ ⟨"MoonLineModel", "isAsleep", "(II)Z"⟩) ∈ lw_g := mg0 52 rfl rfl
theorem w_53 : (Jvm.Cond.selects "MoonLineModel" ⟨"MoonLineModel", "awakeFrom", "(II)I"⟩ ⟨"MoonLineModel", "awakeFrom", "(II)I"⟩) ∈ lw_g := mg0 53 rfl rfl
theorem w_54 : (Jvm.Cond.selects "MoonLineModel" ⟨"MoonLineModel", "keepPast", "()V"⟩ ⟨"MoonLineModel", "keepPast", "()V"⟩) ∈ lw_g := mg0 54 rfl rfl
theorem w_55 : (Jvm.Cond.selects "MoonLineModel" ⟨"MoonLineModel", "pass", "(II)I"⟩ ⟨"MoonLineModel", "pass", "(II)I"⟩) ∈ lw_g := mg0 55 rfl rfl
theorem w_56 : (Jvm.Cond.selects "MoonLineModel" ⟨"MoonLineModel", "pushes", "(I)V"⟩ ⟨"MoonLineModel", "pushes", "(I)V"⟩) ∈ lw_g := mg0 56 rfl rfl
theorem w_57 : (Jvm.Cond.selects "MoonLineModel" ⟨"MoonLineModel", "goesAhead", "(II)Z"⟩ ⟨"MoonLineModel", "goesAhead", "(II)Z"⟩) ∈ lw_g := mg0 57 rfl rfl
theorem w_58 : (Jvm.Cond.selects "MoonLineModel" ⟨"MoonLineModel", "swap", "(II)V"⟩ ⟨"MoonLineModel", "swap", "(II)V"⟩) ∈ lw_g := mg0 58 rfl rfl
theorem w_59 : (Jvm.Cond.selects "MoonLineModel" ⟨"MoonLineModel", "goer", "(I)I"⟩ ⟨"MoonLineModel", "goer", "(I)I"⟩) ∈ lw_g := mg0 59 rfl rfl
theorem w_60 : (Jvm.Cond.selects "MoonLineModel" ⟨"MoonLineModel", "leaves", "(II)V"⟩ ⟨"MoonLineModel", "leaves", "(II)V"⟩) ∈ lw_g := mg0 60 rfl rfl
theorem w_61 : (Jvm.Cond.selects "MoonLineModel" ⟨"MoonLineModel", "areTwo", "(II)Z"⟩ ⟨"MoonLineModel", "areTwo", "(II)Z"⟩) ∈ lw_g := mg0 61 rfl rfl
theorem w_62 : (Jvm.Cond.selects "MoonLineModel" ⟨"MoonLineModel", "copyLine", "(III)V"⟩ ⟨"MoonLineModel", "copyLine", "(III)V"⟩) ∈ lw_g := mg0 62 rfl rfl
theorem w_63 : (Jvm.Cond.selects "MoonLineModel" ⟨"MoonLineModel", "layTried", "()V"⟩ ⟨"MoonLineModel", "layTried", "()V"⟩) ∈ lw_g := mg0 63 rfl rfl
theorem w_64 : (Jvm.Cond.selects "MoonLineModel" ⟨"MoonLineModel", "noNights", "(II)I"⟩ ⟨"MoonLineModel", "noNights", "(II)I"⟩) ∈ lw_g := mg0 64 rfl rfl
theorem w_65 : (Jvm.Cond.selects "MoonLineModel" ⟨"MoonLineModel", "areAll", "(III)Z"⟩ ⟨"MoonLineModel", "areAll", "(III)Z"⟩) ∈ lw_g := mg0 65 rfl rfl
theorem w_66 : (Jvm.Cond.selects "MoonLineModel" ⟨"MoonLineModel", "goesBy", "(III)I"⟩ ⟨"MoonLineModel", "goesBy", "(III)I"⟩) ∈ lw_g := mg0 66 rfl rfl
theorem w_67 : (Jvm.Cond.selects "MoonLineModel" ⟨"MoonLineModel", "tellParts", "(JJ)I"⟩ ⟨"MoonLineModel", "tellParts", "(JJ)I"⟩) ∈ lw_g := mg0 67 rfl rfl
theorem w_68 : (Jvm.Cond.selects "MoonLineModel" ⟨"MoonLineModel", "tradeRows", "(I)I"⟩ ⟨"MoonLineModel", "tradeRows", "(I)I"⟩) ∈ lw_g := mg0 68 rfl rfl
theorem w_69 : (Jvm.Cond.selects "MoonLineModel" ⟨"MoonLineModel", "pairs", "()I"⟩ ⟨"MoonLineModel", "pairs", "()I"⟩) ∈ lw_g := mg0 69 rfl rfl
theorem w_70 : (Jvm.Cond.selects "MoonLineModel" ⟨"MoonLineModel", "layTrades", "(II)V"⟩ ⟨"MoonLineModel", "layTrades", "(II)V"⟩) ∈ lw_g := mg0 70 rfl rfl
theorem w_71 : (Jvm.Cond.selects "MoonLineModel" ⟨"MoonLineModel", "tradeOf", "(III)I"⟩ ⟨"MoonLineModel", "tradeOf", "(III)I"⟩) ∈ lw_g := mg0 71 rfl rfl
theorem w_72 : (Jvm.Cond.selects "MoonLineModel" ⟨"MoonLineModel", "goesClear", "(II)I"⟩ ⟨"MoonLineModel", "goesClear", "(II)I"⟩) ∈ lw_g := mg0 72 rfl rfl
theorem w_73 : (Jvm.Cond.selects "MoonLineModel" ⟨"MoonLineModel", "winsBy", "(III)Z"⟩ ⟨"MoonLineModel", "winsBy", "(III)Z"⟩) ∈ lw_g := mg0 73 rfl rfl
theorem w_74 : (Jvm.Cond.selects "MoonLineModel" ⟨"MoonLineModel", "noWent", "(II)I"⟩ ⟨"MoonLineModel", "noWent", "(II)I"⟩) ∈ lw_g := mg0 74 rfl rfl
theorem w_75 : (Jvm.Cond.selects "MoonLineModel" ⟨"MoonLineModel", "wentSo", "(II)Z"⟩ ⟨"MoonLineModel", "wentSo", "(II)Z"⟩) ∈ lw_g := mg0 75 rfl rfl
theorem w_76 : (Jvm.Cond.selects "MoonLineModel" ⟨"MoonLineModel", "liesBy", "(I)I"⟩ ⟨"MoonLineModel", "liesBy", "(I)I"⟩) ∈ lw_g := mg0 76 rfl rfl
theorem w_77 : (Jvm.Cond.selects "MoonLineModel" ⟨"MoonLineModel", "nextOrder", "(I)Z"⟩ ⟨"MoonLineModel", "nextOrder", "(I)Z"⟩) ∈ lw_g := mg0 77 rfl rfl
theorem w_78 : (Jvm.Cond.selects "MoonLineModel" ⟨"MoonLineModel", "countOf", "(I)I"⟩ ⟨"MoonLineModel", "countOf", "(I)I"⟩) ∈ lw_g := mg0 78 rfl rfl
theorem w_79 : (Jvm.Cond.selects "MoonLineModel" ⟨"MoonLineModel", "wentMany", "()I"⟩ ⟨"MoonLineModel", "wentMany", "()I"⟩) ∈ lw_g := mg0 79 rfl rfl
theorem w_80 : (Jvm.Cond.selects "MoonLineModel" ⟨"MoonLineModel", "kindMany", "(I)I"⟩ ⟨"MoonLineModel", "kindMany", "(I)I"⟩) ∈ lw_g := mg0 80 rfl rfl
theorem w_81 : (Jvm.Cond.selects "MoonLineModel" ⟨"MoonLineModel", "thereOf", "(I)I"⟩ ⟨"MoonLineModel", "thereOf", "(I)I"⟩) ∈ lw_g := mg0 81 rfl rfl
theorem ms1 {w : Cond} (h : w ∈ tables_1_1) : w ∈ lw_tbl := List.mem_append_right _ (List.mem_append_left _ h)
theorem mg1 {w : Cond} (i : Nat) (h : (tables_1_1)[i]? = some w) (g : goodWord w = true) : w ∈ lw_g := List.mem_filter.mpr ⟨ms1 (List.mem_of_getElem? h), g⟩
theorem w_82 : (Jvm.Cond.initialized "MoonLineLaw") ∈ lw_g := mg1 0 rfl rfl
theorem w_83 : (Jvm.Cond.initialized "MoonLine") ∈ lw_g := mg1 1 rfl rfl
theorem w_84 : (Jvm.Cond.initialized "MoonLine$Crowd") ∈ lw_g := mg1 2 rfl rfl
theorem w_85 : (Jvm.Cond.initialized "MoonLine$Queue") ∈ lw_g := mg1 3 rfl rfl
theorem w_86 : (Jvm.Cond.initialized "MoonLine$Deeds") ∈ lw_g := mg1 4 rfl rfl
theorem w_87 : (Jvm.Cond.initialized "MoonLine$NightWalk") ∈ lw_g := mg1 5 rfl rfl
theorem w_88 : (Jvm.Cond.initialized "MoonLine$TradeSearch") ∈ lw_g := mg1 6 rfl rfl
theorem w_89 : (Jvm.Cond.initialized "MoonLine$CloudGame") ∈ lw_g := mg1 7 rfl rfl
theorem w_90 : (Jvm.Cond.initialized "MoonLine$Memories") ∈ lw_g := mg1 8 rfl rfl
theorem w_91 : (Jvm.Cond.initialized "MoonLine$Row") ∈ lw_g := mg1 9 rfl rfl
theorem w_92 : (Jvm.Cond.initialized "MoonLine$Text") ∈ lw_g := mg1 10 rfl rfl
theorem w_93 : (Jvm.Cond.initialized "MoonLineModel") ∈ lw_g := mg1 11 rfl rfl
theorem w_94 : (Jvm.Cond.initialized "java/lang/Math") ∈ lw_g := mg1 12 rfl rfl
theorem w_95 : (Jvm.Cond.initialized "java/util/Arrays") ∈ lw_g := mg1 13 rfl rfl
theorem w_96 : (Jvm.Cond.initialized "java/lang/System") ∈ lw_g := mg1 14 rfl rfl
theorem w_97 : (Jvm.Cond.initialized "java/lang/Integer") ∈ lw_g := mg1 15 rfl rfl
theorem w_98 : (Jvm.Cond.classLink "MoonLineLaw" (7 : Nat) "MoonLine") ∈ lw_g := mg1 16 rfl rfl
theorem w_99 : (Jvm.Cond.instantiable "MoonLine" (18 : Nat)) ∈ lw_g := mg1 17 rfl rfl
theorem w_100 : (Jvm.Cond.methodLink "MoonLineLaw" (9 : Nat) ({ cls := "MoonLine", name := "<init>", desc := "()V" } : Jvm.MethodName)) ∈ lw_g := mg1 18 rfl rfl
theorem w_101 : (Jvm.Cond.instanceMethod ({ cls := "MoonLine", name := "<init>", desc := "()V" } : Jvm.MethodName)) ∈ lw_g := mg1 19 rfl rfl
theorem w_102 : (Jvm.Cond.code ({ cls := "MoonLine", name := "<init>", desc := "()V" } : Jvm.MethodName) prog_1_method_1_code (2 : Nat) (Option.none : Option Jvm.ClassFile.FieldType)) ∈ lw_g := mg1 20 rfl rfl
theorem w_103 : (Jvm.Cond.methodLink "MoonLine" (1 : Nat) ({ cls := "java/lang/Object", name := "<init>", desc := "()V" } : Jvm.MethodName)) ∈ lw_g := mg1 21 rfl rfl
theorem w_104 : (Jvm.Cond.instanceMethod ({ cls := "java/lang/Object", name := "<init>", desc := "()V" } : Jvm.MethodName)) ∈ lw_g := mg1 22 rfl rfl
theorem w_105 : (Jvm.Cond.code ({ cls := "java/lang/Object", name := "<init>", desc := "()V" } : Jvm.MethodName) object_method_1_code (1 : Nat) (Option.none : Option Jvm.ClassFile.FieldType)) ∈ lw_g := mg1 23 rfl rfl
theorem w_106 : (Jvm.Cond.classLink "MoonLine" (9 : Nat) "MoonLine$Row") ∈ lw_g := mg1 24 rfl rfl
theorem wn_107 : (Jvm.Cond.arrayOver (Jvm.ClassFile.FieldType.object "MoonLine$Row")) ∈ lw_tbl := ms1 (List.mem_of_getElem? (i := 25) rfl)
theorem w_108 : (Jvm.Cond.classLink "MoonLine" (15 : Nat) "MoonLine$Text") ∈ lw_g := mg1 26 rfl rfl
theorem wn_109 : (Jvm.Cond.arrayOver (Jvm.ClassFile.FieldType.object "MoonLine$Text")) ∈ lw_tbl := ms1 (List.mem_of_getElem? (i := 27) rfl)
theorem w_110 : (Jvm.Cond.classLink "MoonLine" (21 : Nat) "MoonLine$Crowd") ∈ lw_g := mg1 28 rfl rfl
theorem w_111 : (Jvm.Cond.instantiable "MoonLine$Crowd" (4 : Nat)) ∈ lw_g := mg1 29 rfl rfl
theorem wn_112 : (Jvm.Cond.methodLinkNest "MoonLine" (23 : Nat) ({ cls := "MoonLine$Crowd", name := "<init>", desc := "()V" } : Jvm.MethodName) "MoonLine") ∈ lw_tbl := ms1 (List.mem_of_getElem? (i := 30) rfl)
theorem w_113 : (Jvm.Cond.instanceMethod ({ cls := "MoonLine$Crowd", name := "<init>", desc := "()V" } : Jvm.MethodName)) ∈ lw_g := mg1 31 rfl rfl
theorem w_114 : (Jvm.Cond.code ({ cls := "MoonLine$Crowd", name := "<init>", desc := "()V" } : Jvm.MethodName) prog_3_method_1_code (1 : Nat) (Option.none : Option Jvm.ClassFile.FieldType)) ∈ lw_g := mg1 32 rfl rfl
theorem w_115 : (Jvm.Cond.methodLink "MoonLine$Crowd" (3 : Nat) ({ cls := "java/lang/Object", name := "<init>", desc := "()V" } : Jvm.MethodName)) ∈ lw_g := mg1 33 rfl rfl
theorem w_116 : (Jvm.Cond.fieldLink "MoonLine$Crowd" (9 : Nat) "MoonLine$Crowd" "kind" "[I") ∈ lw_g := mg1 34 rfl rfl
theorem w_117 : (Jvm.Cond.fieldLink "MoonLine" (294 : Nat) "MoonLine$Crowd" "kind" "[I") ∈ lw_g := mg1 35 rfl rfl
theorem w_118 : (Jvm.Cond.fieldLink "MoonLine$Crowd" (15 : Nat) "MoonLine$Crowd" "patience" "[I") ∈ lw_g := mg1 36 rfl rfl
theorem w_119 : (Jvm.Cond.fieldLink "MoonLine$Queue" (87 : Nat) "MoonLine$Crowd" "patience" "[I") ∈ lw_g := mg1 37 rfl rfl
theorem w_120 : (Jvm.Cond.fieldLink "MoonLine" (385 : Nat) "MoonLine$Crowd" "patience" "[I") ∈ lw_g := mg1 38 rfl rfl
theorem w_121 : (Jvm.Cond.fieldLink "MoonLine$Crowd" (18 : Nat) "MoonLine$Crowd" "price" "[I") ∈ lw_g := mg1 39 rfl rfl
theorem w_122 : (Jvm.Cond.fieldLink "MoonLine$TradeSearch" (74 : Nat) "MoonLine$Crowd" "price" "[I") ∈ lw_g := mg1 40 rfl rfl
theorem w_123 : (Jvm.Cond.fieldLink "MoonLine" (200 : Nat) "MoonLine$Crowd" "price" "[I") ∈ lw_g := mg1 41 rfl rfl
theorem w_124 : (Jvm.Cond.fieldLink "MoonLine$Crowd" (21 : Nat) "MoonLine$Crowd" "number" "I") ∈ lw_g := mg1 42 rfl rfl
theorem w_125 : (Jvm.Cond.fieldLink "MoonLine" (172 : Nat) "MoonLine$Crowd" "number" "I") ∈ lw_g := mg1 43 rfl rfl
theorem w_126 : (Jvm.Cond.laysFinal "MoonLine$Crowd" "MoonLine$Crowd" "kind" "[I") ∈ lw_g := mg1 44 rfl rfl
theorem w_128 : (Jvm.Cond.laysFinal "MoonLine$Crowd" "MoonLine$Crowd" "patience" "[I") ∈ lw_g := mg1 46 rfl rfl
theorem w_130 : (Jvm.Cond.laysFinal "MoonLine$Crowd" "MoonLine$Crowd" "price" "[I") ∈ lw_g := mg1 48 rfl rfl
theorem w_132 : (Jvm.Cond.lays "MoonLine$Crowd" "MoonLine$Crowd" "number" "I") ∈ lw_g := mg1 50 rfl rfl
theorem w_135 : (Jvm.Cond.arrayClass Jvm.ClassFile.FieldType.int) ∈ lw_g := mg1 53 rfl rfl
theorem w_136 : (Jvm.Cond.classLink "MoonLine" (31 : Nat) "MoonLine$Queue") ∈ lw_g := mg1 54 rfl rfl
theorem w_137 : (Jvm.Cond.instantiable "MoonLine$Queue" (6 : Nat)) ∈ lw_g := mg1 55 rfl rfl
theorem wn_138 : (Jvm.Cond.methodLinkNest "MoonLine" (33 : Nat) ({ cls := "MoonLine$Queue", name := "<init>", desc := "()V" } : Jvm.MethodName) "MoonLine") ∈ lw_tbl := ms1 (List.mem_of_getElem? (i := 56) rfl)
theorem w_139 : (Jvm.Cond.instanceMethod ({ cls := "MoonLine$Queue", name := "<init>", desc := "()V" } : Jvm.MethodName)) ∈ lw_g := mg1 57 rfl rfl
theorem w_140 : (Jvm.Cond.code ({ cls := "MoonLine$Queue", name := "<init>", desc := "()V" } : Jvm.MethodName) prog_7_method_1_code (1 : Nat) (Option.none : Option Jvm.ClassFile.FieldType)) ∈ lw_g := mg1 58 rfl rfl
theorem w_141 : (Jvm.Cond.methodLink "MoonLine$Queue" (3 : Nat) ({ cls := "java/lang/Object", name := "<init>", desc := "()V" } : Jvm.MethodName)) ∈ lw_g := mg1 59 rfl rfl
theorem w_142 : (Jvm.Cond.fieldLink "MoonLine$Queue" (9 : Nat) "MoonLine$Queue" "order" "[I") ∈ lw_g := mg1 60 rfl rfl
theorem w_143 : (Jvm.Cond.fieldLink "MoonLine$TradeSearch" (71 : Nat) "MoonLine$Queue" "order" "[I") ∈ lw_g := mg1 61 rfl rfl
theorem w_144 : (Jvm.Cond.fieldLink "MoonLine$Queue" (15 : Nat) "MoonLine$Queue" "waited" "[I") ∈ lw_g := mg1 62 rfl rfl
theorem w_145 : (Jvm.Cond.fieldLink "MoonLine" (388 : Nat) "MoonLine$Queue" "waited" "[I") ∈ lw_g := mg1 63 rfl rfl
theorem w_146 : (Jvm.Cond.fieldLink "MoonLine$Queue" (18 : Nat) "MoonLine$Queue" "wentIn" "[I") ∈ lw_g := mg1 64 rfl rfl
theorem w_147 : (Jvm.Cond.fieldLink "MoonLine" (391 : Nat) "MoonLine$Queue" "wentIn" "[I") ∈ lw_g := mg1 65 rfl rfl
theorem w_148 : (Jvm.Cond.fieldLink "MoonLine$Queue" (21 : Nat) "MoonLine$Queue" "size" "I") ∈ lw_g := mg1 66 rfl rfl
theorem w_149 : (Jvm.Cond.fieldLink "MoonLine$TradeSearch" (61 : Nat) "MoonLine$Queue" "size" "I") ∈ lw_g := mg1 67 rfl rfl
theorem w_150 : (Jvm.Cond.fieldLink "MoonLine$NightWalk" (82 : Nat) "MoonLine$Queue" "size" "I") ∈ lw_g := mg1 68 rfl rfl
theorem w_151 : (Jvm.Cond.fieldLink "MoonLine" (367 : Nat) "MoonLine$Queue" "size" "I") ∈ lw_g := mg1 69 rfl rfl
theorem w_152 : (Jvm.Cond.fieldLink "MoonLine$Queue" (25 : Nat) "MoonLine$Queue" "night" "I") ∈ lw_g := mg1 70 rfl rfl
theorem w_153 : (Jvm.Cond.fieldLink "MoonLine" (197 : Nat) "MoonLine$Queue" "night" "I") ∈ lw_g := mg1 71 rfl rfl
theorem w_154 : (Jvm.Cond.fieldLink "MoonLine$Queue" (28 : Nat) "MoonLine$Queue" "gaveUp" "I") ∈ lw_g := mg1 72 rfl rfl
theorem w_155 : (Jvm.Cond.fieldLink "MoonLine" (232 : Nat) "MoonLine$Queue" "gaveUp" "I") ∈ lw_g := mg1 73 rfl rfl
theorem w_156 : (Jvm.Cond.laysFinal "MoonLine$Queue" "MoonLine$Queue" "order" "[I") ∈ lw_g := mg1 74 rfl rfl
theorem w_158 : (Jvm.Cond.laysFinal "MoonLine$Queue" "MoonLine$Queue" "waited" "[I") ∈ lw_g := mg1 76 rfl rfl
theorem w_160 : (Jvm.Cond.laysFinal "MoonLine$Queue" "MoonLine$Queue" "wentIn" "[I") ∈ lw_g := mg1 78 rfl rfl
theorem w_162 : (Jvm.Cond.lays "MoonLine$Queue" "MoonLine$Queue" "size" "I") ∈ lw_g := mg1 80 rfl rfl
theorem w_164 : (Jvm.Cond.lays "MoonLine$Queue" "MoonLine$Queue" "night" "I") ∈ lw_g := mg1 82 rfl rfl
theorem w_166 : (Jvm.Cond.lays "MoonLine$Queue" "MoonLine$Queue" "gaveUp" "I") ∈ lw_g := mg1 84 rfl rfl
theorem w_169 : (Jvm.Cond.classLink "MoonLine" (41 : Nat) "MoonLine$Deeds") ∈ lw_g := mg1 87 rfl rfl
theorem w_170 : (Jvm.Cond.instantiable "MoonLine$Deeds" (2 : Nat)) ∈ lw_g := mg1 88 rfl rfl
theorem wn_171 : (Jvm.Cond.methodLinkNest "MoonLine" (43 : Nat) ({ cls := "MoonLine$Deeds", name := "<init>", desc := "()V" } : Jvm.MethodName) "MoonLine") ∈ lw_tbl := ms1 (List.mem_of_getElem? (i := 89) rfl)
theorem w_172 : (Jvm.Cond.instanceMethod ({ cls := "MoonLine$Deeds", name := "<init>", desc := "()V" } : Jvm.MethodName)) ∈ lw_g := mg1 90 rfl rfl
theorem w_173 : (Jvm.Cond.code ({ cls := "MoonLine$Deeds", name := "<init>", desc := "()V" } : Jvm.MethodName) prog_4_method_1_code (1 : Nat) (Option.none : Option Jvm.ClassFile.FieldType)) ∈ lw_g := mg1 91 rfl rfl
theorem w_174 : (Jvm.Cond.methodLink "MoonLine$Deeds" (3 : Nat) ({ cls := "java/lang/Object", name := "<init>", desc := "()V" } : Jvm.MethodName)) ∈ lw_g := mg1 92 rfl rfl
theorem w_175 : (Jvm.Cond.fieldLink "MoonLine$Deeds" (9 : Nat) "MoonLine$Deeds" "deed" "[I") ∈ lw_g := mg1 93 rfl rfl
theorem w_176 : (Jvm.Cond.fieldLink "MoonLine" (394 : Nat) "MoonLine$Deeds" "deed" "[I") ∈ lw_g := mg1 94 rfl rfl
theorem w_177 : (Jvm.Cond.fieldLink "MoonLine$Deeds" (15 : Nat) "MoonLine$Deeds" "number" "I") ∈ lw_g := mg1 95 rfl rfl
theorem w_178 : (Jvm.Cond.fieldLink "MoonLine" (104 : Nat) "MoonLine$Deeds" "number" "I") ∈ lw_g := mg1 96 rfl rfl
theorem w_179 : (Jvm.Cond.laysFinal "MoonLine$Deeds" "MoonLine$Deeds" "deed" "[I") ∈ lw_g := mg1 97 rfl rfl
theorem w_181 : (Jvm.Cond.lays "MoonLine$Deeds" "MoonLine$Deeds" "number" "I") ∈ lw_g := mg1 99 rfl rfl
theorem wn_184 : (Jvm.Cond.arrayOver (Jvm.ClassFile.FieldType.object "MoonLine$Deeds")) ∈ lw_tbl := ms1 (List.mem_of_getElem? (i := 102) rfl)
theorem w_185 : (Jvm.Cond.classLink "MoonLine" (52 : Nat) "MoonLine$NightWalk") ∈ lw_g := mg1 103 rfl rfl
theorem w_186 : (Jvm.Cond.instantiable "MoonLine$NightWalk" (11 : Nat)) ∈ lw_g := mg1 104 rfl rfl
theorem w_187 : (Jvm.Cond.methodLink "MoonLine" (54 : Nat) ({ cls := "MoonLine$NightWalk", name := "<init>", desc := "()V" } : Jvm.MethodName)) ∈ lw_g := mg1 105 rfl rfl
theorem w_188 : (Jvm.Cond.instanceMethod ({ cls := "MoonLine$NightWalk", name := "<init>", desc := "()V" } : Jvm.MethodName)) ∈ lw_g := mg1 106 rfl rfl
theorem w_189 : (Jvm.Cond.code ({ cls := "MoonLine$NightWalk", name := "<init>", desc := "()V" } : Jvm.MethodName) prog_6_method_1_code (2 : Nat) (Option.none : Option Jvm.ClassFile.FieldType)) ∈ lw_g := mg1 107 rfl rfl
theorem w_190 : (Jvm.Cond.methodLink "MoonLine$NightWalk" (3 : Nat) ({ cls := "java/lang/Object", name := "<init>", desc := "()V" } : Jvm.MethodName)) ∈ lw_g := mg1 108 rfl rfl
theorem w_191 : (Jvm.Cond.classLink "MoonLine$NightWalk" (9 : Nat) "MoonLine$Queue") ∈ lw_g := mg1 109 rfl rfl
theorem wn_192 : (Jvm.Cond.arrayOver (Jvm.ClassFile.FieldType.object "MoonLine$Queue")) ∈ lw_tbl := ms1 (List.mem_of_getElem? (i := 110) rfl)
theorem wn_193 : (Jvm.Cond.methodLinkNest "MoonLine$NightWalk" (52 : Nat) ({ cls := "MoonLine$Queue", name := "<init>", desc := "()V" } : Jvm.MethodName) "MoonLine") ∈ lw_tbl := ms1 (List.mem_of_getElem? (i := 111) rfl)
theorem w_194 : (Jvm.Cond.fieldLink "MoonLine$NightWalk" (11 : Nat) "MoonLine$NightWalk" "steps" "[LMoonLine$Queue;") ∈ lw_g := mg1 112 rfl rfl
theorem w_195 : (Jvm.Cond.fieldLink "MoonLine$NightWalk" (17 : Nat) "MoonLine$NightWalk" "power" "[J") ∈ lw_g := mg1 113 rfl rfl
theorem w_196 : (Jvm.Cond.fieldLink "MoonLine$NightWalk" (21 : Nat) "MoonLine$NightWalk" "crowd" "LMoonLine$Crowd;") ∈ lw_g := mg1 114 rfl rfl
theorem w_197 : (Jvm.Cond.fieldLink "MoonLine$NightWalk" (25 : Nat) "MoonLine$NightWalk" "goers" "LMoonLine$Row;") ∈ lw_g := mg1 115 rfl rfl
theorem w_198 : (Jvm.Cond.fieldLink "MoonLine$NightWalk" (29 : Nat) "MoonLine$NightWalk" "length" "I") ∈ lw_g := mg1 116 rfl rfl
theorem w_199 : (Jvm.Cond.fieldLink "MoonLine$NightWalk" (33 : Nat) "MoonLine$NightWalk" "awaited" "I") ∈ lw_g := mg1 117 rfl rfl
theorem w_200 : (Jvm.Cond.fieldLink "MoonLine$NightWalk" (36 : Nat) "MoonLine$NightWalk" "clearWeight" "I") ∈ lw_g := mg1 118 rfl rfl
theorem w_201 : (Jvm.Cond.fieldLink "MoonLine$NightWalk" (39 : Nat) "MoonLine$NightWalk" "cloudyWeight" "I") ∈ lw_g := mg1 119 rfl rfl
theorem w_202 : (Jvm.Cond.fieldLink "MoonLine$NightWalk" (42 : Nat) "MoonLine$NightWalk" "commonBits" "I") ∈ lw_g := mg1 120 rfl rfl
theorem w_203 : (Jvm.Cond.fieldLink "MoonLine$NightWalk" (45 : Nat) "MoonLine$NightWalk" "soonestNight" "I") ∈ lw_g := mg1 121 rfl rfl
theorem w_204 : (Jvm.Cond.fieldLink "MoonLine" (254 : Nat) "MoonLine$NightWalk" "soonestNight" "I") ∈ lw_g := mg1 122 rfl rfl
theorem w_205 : (Jvm.Cond.fieldLink "MoonLine$NightWalk" (48 : Nat) "MoonLine$NightWalk" "fitting" "J") ∈ lw_g := mg1 123 rfl rfl
theorem w_206 : (Jvm.Cond.fieldLink "MoonLine" (305 : Nat) "MoonLine$NightWalk" "fitting" "J") ∈ lw_g := mg1 124 rfl rfl
theorem w_207 : (Jvm.Cond.laysFinal "MoonLine$NightWalk" "MoonLine$NightWalk" "steps" "[LMoonLine$Queue;") ∈ lw_g := mg1 125 rfl rfl
theorem w_209 : (Jvm.Cond.laysFinal "MoonLine$NightWalk" "MoonLine$NightWalk" "power" "[J") ∈ lw_g := mg1 127 rfl rfl
theorem w_211 : (Jvm.Cond.lays "MoonLine$NightWalk" "MoonLine$NightWalk" "crowd" "LMoonLine$Crowd;") ∈ lw_g := mg1 129 rfl rfl
theorem w_213 : (Jvm.Cond.lays "MoonLine$NightWalk" "MoonLine$NightWalk" "goers" "LMoonLine$Row;") ∈ lw_g := mg1 131 rfl rfl
theorem w_215 : (Jvm.Cond.lays "MoonLine$NightWalk" "MoonLine$NightWalk" "length" "I") ∈ lw_g := mg1 133 rfl rfl
theorem w_217 : (Jvm.Cond.lays "MoonLine$NightWalk" "MoonLine$NightWalk" "awaited" "I") ∈ lw_g := mg1 135 rfl rfl
theorem w_219 : (Jvm.Cond.lays "MoonLine$NightWalk" "MoonLine$NightWalk" "clearWeight" "I") ∈ lw_g := mg1 137 rfl rfl
theorem w_221 : (Jvm.Cond.lays "MoonLine$NightWalk" "MoonLine$NightWalk" "cloudyWeight" "I") ∈ lw_g := mg1 139 rfl rfl
theorem w_223 : (Jvm.Cond.lays "MoonLine$NightWalk" "MoonLine$NightWalk" "commonBits" "I") ∈ lw_g := mg1 141 rfl rfl
theorem w_225 : (Jvm.Cond.lays "MoonLine$NightWalk" "MoonLine$NightWalk" "soonestNight" "I") ∈ lw_g := mg1 143 rfl rfl
theorem w_227 : (Jvm.Cond.lays "MoonLine$NightWalk" "MoonLine$NightWalk" "fitting" "J") ∈ lw_g := mg1 145 rfl rfl
theorem w_230 : (Jvm.Cond.arrayClass Jvm.ClassFile.FieldType.long) ∈ lw_g := mg1 148 rfl rfl
theorem w_231 : (Jvm.Cond.classLink "MoonLine" (59 : Nat) "MoonLine$TradeSearch") ∈ lw_g := mg1 149 rfl rfl
theorem w_232 : (Jvm.Cond.instantiable "MoonLine$TradeSearch" (8 : Nat)) ∈ lw_g := mg1 150 rfl rfl
theorem w_233 : (Jvm.Cond.methodLink "MoonLine" (61 : Nat) ({ cls := "MoonLine$TradeSearch", name := "<init>", desc := "()V" } : Jvm.MethodName)) ∈ lw_g := mg1 151 rfl rfl
theorem w_234 : (Jvm.Cond.instanceMethod ({ cls := "MoonLine$TradeSearch", name := "<init>", desc := "()V" } : Jvm.MethodName)) ∈ lw_g := mg1 152 rfl rfl
theorem w_235 : (Jvm.Cond.code ({ cls := "MoonLine$TradeSearch", name := "<init>", desc := "()V" } : Jvm.MethodName) prog_10_method_1_code (2 : Nat) (Option.none : Option Jvm.ClassFile.FieldType)) ∈ lw_g := mg1 153 rfl rfl
theorem w_236 : (Jvm.Cond.methodLink "MoonLine$TradeSearch" (3 : Nat) ({ cls := "java/lang/Object", name := "<init>", desc := "()V" } : Jvm.MethodName)) ∈ lw_g := mg1 154 rfl rfl
theorem w_237 : (Jvm.Cond.classLink "MoonLine$TradeSearch" (9 : Nat) "MoonLine$Queue") ∈ lw_g := mg1 155 rfl rfl
theorem wn_238 : (Jvm.Cond.methodLinkNest "MoonLine$TradeSearch" (17 : Nat) ({ cls := "MoonLine$Queue", name := "<init>", desc := "()V" } : Jvm.MethodName) "MoonLine") ∈ lw_tbl := ms1 (List.mem_of_getElem? (i := 156) rfl)
theorem w_239 : (Jvm.Cond.fieldLink "MoonLine$TradeSearch" (11 : Nat) "MoonLine$TradeSearch" "steps" "[LMoonLine$Queue;") ∈ lw_g := mg1 157 rfl rfl
theorem w_240 : (Jvm.Cond.fieldLink "MoonLine$TradeSearch" (18 : Nat) "MoonLine$TradeSearch" "trial" "LMoonLine$Queue;") ∈ lw_g := mg1 158 rfl rfl
theorem w_241 : (Jvm.Cond.fieldLink "MoonLine$TradeSearch" (22 : Nat) "MoonLine$TradeSearch" "crowd" "LMoonLine$Crowd;") ∈ lw_g := mg1 159 rfl rfl
theorem w_242 : (Jvm.Cond.fieldLink "MoonLine$TradeSearch" (26 : Nat) "MoonLine$TradeSearch" "nights" "I") ∈ lw_g := mg1 160 rfl rfl
theorem w_243 : (Jvm.Cond.fieldLink "MoonLine$TradeSearch" (30 : Nat) "MoonLine$TradeSearch" "one" "I") ∈ lw_g := mg1 161 rfl rfl
theorem w_244 : (Jvm.Cond.fieldLink "MoonLine$TradeSearch" (33 : Nat) "MoonLine$TradeSearch" "follower" "I") ∈ lw_g := mg1 162 rfl rfl
theorem w_245 : (Jvm.Cond.fieldLink "MoonLine$TradeSearch" (36 : Nat) "MoonLine$TradeSearch" "leastSum" "I") ∈ lw_g := mg1 163 rfl rfl
theorem w_246 : (Jvm.Cond.fieldLink "MoonLine$TradeSearch" (39 : Nat) "MoonLine$TradeSearch" "chosen" "[I") ∈ lw_g := mg1 164 rfl rfl
theorem w_247 : (Jvm.Cond.fieldLink "MoonLine" (278 : Nat) "MoonLine$TradeSearch" "chosen" "[I") ∈ lw_g := mg1 165 rfl rfl
theorem w_248 : (Jvm.Cond.laysFinal "MoonLine$TradeSearch" "MoonLine$TradeSearch" "steps" "[LMoonLine$Queue;") ∈ lw_g := mg1 166 rfl rfl
theorem w_250 : (Jvm.Cond.laysFinal "MoonLine$TradeSearch" "MoonLine$TradeSearch" "trial" "LMoonLine$Queue;") ∈ lw_g := mg1 168 rfl rfl
theorem w_252 : (Jvm.Cond.lays "MoonLine$TradeSearch" "MoonLine$TradeSearch" "crowd" "LMoonLine$Crowd;") ∈ lw_g := mg1 170 rfl rfl
theorem w_254 : (Jvm.Cond.lays "MoonLine$TradeSearch" "MoonLine$TradeSearch" "nights" "I") ∈ lw_g := mg1 172 rfl rfl
theorem w_256 : (Jvm.Cond.lays "MoonLine$TradeSearch" "MoonLine$TradeSearch" "one" "I") ∈ lw_g := mg1 174 rfl rfl
theorem w_258 : (Jvm.Cond.lays "MoonLine$TradeSearch" "MoonLine$TradeSearch" "follower" "I") ∈ lw_g := mg1 176 rfl rfl
theorem w_260 : (Jvm.Cond.lays "MoonLine$TradeSearch" "MoonLine$TradeSearch" "leastSum" "I") ∈ lw_g := mg1 178 rfl rfl
theorem w_262 : (Jvm.Cond.laysFinal "MoonLine$TradeSearch" "MoonLine$TradeSearch" "chosen" "[I") ∈ lw_g := mg1 180 rfl rfl
theorem w_265 : (Jvm.Cond.classLink "MoonLine" (66 : Nat) "MoonLine$CloudGame") ∈ lw_g := mg1 183 rfl rfl
theorem w_266 : (Jvm.Cond.instantiable "MoonLine$CloudGame" (4 : Nat)) ∈ lw_g := mg1 184 rfl rfl
theorem w_267 : (Jvm.Cond.methodLink "MoonLine" (68 : Nat) ({ cls := "MoonLine$CloudGame", name := "<init>", desc := "()V" } : Jvm.MethodName)) ∈ lw_g := mg1 185 rfl rfl
theorem w_268 : (Jvm.Cond.instanceMethod ({ cls := "MoonLine$CloudGame", name := "<init>", desc := "()V" } : Jvm.MethodName)) ∈ lw_g := mg1 186 rfl rfl
theorem w_269 : (Jvm.Cond.code ({ cls := "MoonLine$CloudGame", name := "<init>", desc := "()V" } : Jvm.MethodName) prog_2_method_1_code (2 : Nat) (Option.none : Option Jvm.ClassFile.FieldType)) ∈ lw_g := mg1 187 rfl rfl
theorem w_270 : (Jvm.Cond.methodLink "MoonLine$CloudGame" (3 : Nat) ({ cls := "java/lang/Object", name := "<init>", desc := "()V" } : Jvm.MethodName)) ∈ lw_g := mg1 188 rfl rfl
theorem w_271 : (Jvm.Cond.classLink "MoonLine$CloudGame" (9 : Nat) "MoonLine$Queue") ∈ lw_g := mg1 189 rfl rfl
theorem wn_272 : (Jvm.Cond.methodLinkNest "MoonLine$CloudGame" (28 : Nat) ({ cls := "MoonLine$Queue", name := "<init>", desc := "()V" } : Jvm.MethodName) "MoonLine") ∈ lw_tbl := ms1 (List.mem_of_getElem? (i := 190) rfl)
theorem w_273 : (Jvm.Cond.fieldLink "MoonLine$CloudGame" (11 : Nat) "MoonLine$CloudGame" "steps" "[LMoonLine$Queue;") ∈ lw_g := mg1 191 rfl rfl
theorem w_274 : (Jvm.Cond.fieldLink "MoonLine$CloudGame" (17 : Nat) "MoonLine$CloudGame" "crowd" "LMoonLine$Crowd;") ∈ lw_g := mg1 192 rfl rfl
theorem w_275 : (Jvm.Cond.fieldLink "MoonLine$CloudGame" (21 : Nat) "MoonLine$CloudGame" "player" "I") ∈ lw_g := mg1 193 rfl rfl
theorem w_276 : (Jvm.Cond.fieldLink "MoonLine$CloudGame" (25 : Nat) "MoonLine$CloudGame" "length" "I") ∈ lw_g := mg1 194 rfl rfl
theorem w_277 : (Jvm.Cond.laysFinal "MoonLine$CloudGame" "MoonLine$CloudGame" "steps" "[LMoonLine$Queue;") ∈ lw_g := mg1 195 rfl rfl
theorem w_279 : (Jvm.Cond.lays "MoonLine$CloudGame" "MoonLine$CloudGame" "crowd" "LMoonLine$Crowd;") ∈ lw_g := mg1 197 rfl rfl
theorem w_281 : (Jvm.Cond.lays "MoonLine$CloudGame" "MoonLine$CloudGame" "player" "I") ∈ lw_g := mg1 199 rfl rfl
theorem w_283 : (Jvm.Cond.lays "MoonLine$CloudGame" "MoonLine$CloudGame" "length" "I") ∈ lw_g := mg1 201 rfl rfl
theorem w_286 : (Jvm.Cond.classLink "MoonLine" (73 : Nat) "MoonLine$Memories") ∈ lw_g := mg1 204 rfl rfl
theorem w_287 : (Jvm.Cond.instantiable "MoonLine$Memories" (4 : Nat)) ∈ lw_g := mg1 205 rfl rfl
theorem wn_288 : (Jvm.Cond.methodLinkNest "MoonLine" (75 : Nat) ({ cls := "MoonLine$Memories", name := "<init>", desc := "()V" } : Jvm.MethodName) "MoonLine") ∈ lw_tbl := ms1 (List.mem_of_getElem? (i := 206) rfl)
theorem w_289 : (Jvm.Cond.instanceMethod ({ cls := "MoonLine$Memories", name := "<init>", desc := "()V" } : Jvm.MethodName)) ∈ lw_g := mg1 207 rfl rfl
theorem w_290 : (Jvm.Cond.code ({ cls := "MoonLine$Memories", name := "<init>", desc := "()V" } : Jvm.MethodName) prog_5_method_1_code (1 : Nat) (Option.none : Option Jvm.ClassFile.FieldType)) ∈ lw_g := mg1 208 rfl rfl
theorem w_291 : (Jvm.Cond.methodLink "MoonLine$Memories" (3 : Nat) ({ cls := "java/lang/Object", name := "<init>", desc := "()V" } : Jvm.MethodName)) ∈ lw_g := mg1 209 rfl rfl
theorem w_292 : (Jvm.Cond.classLink "MoonLine$Memories" (9 : Nat) "[[I") ∈ lw_g := mg1 210 rfl rfl
theorem wn_293 : (Jvm.Cond.arrayOver (Jvm.ClassFile.FieldType.array Jvm.ClassFile.FieldType.int)) ∈ lw_tbl := ms1 (List.mem_of_getElem? (i := 211) rfl)
theorem w_294 : (Jvm.Cond.fieldLink "MoonLine$Memories" (11 : Nat) "MoonLine$Memories" "said" "[[I") ∈ lw_g := mg1 212 rfl rfl
theorem w_295 : (Jvm.Cond.fieldLink "MoonLine$Memories" (16 : Nat) "MoonLine$Memories" "number" "I") ∈ lw_g := mg1 213 rfl rfl
theorem w_296 : (Jvm.Cond.fieldLink "MoonLine$Memories" (20 : Nat) "MoonLine$Memories" "mostTrue" "I") ∈ lw_g := mg1 214 rfl rfl
theorem w_297 : (Jvm.Cond.fieldLink "MoonLine" (328 : Nat) "MoonLine$Memories" "mostTrue" "I") ∈ lw_g := mg1 215 rfl rfl
theorem w_298 : (Jvm.Cond.fieldLink "MoonLine$Memories" (23 : Nat) "MoonLine$Memories" "ways" "J") ∈ lw_g := mg1 216 rfl rfl
theorem w_299 : (Jvm.Cond.fieldLink "MoonLine" (326 : Nat) "MoonLine$Memories" "ways" "J") ∈ lw_g := mg1 217 rfl rfl
theorem w_300 : (Jvm.Cond.laysFinal "MoonLine$Memories" "MoonLine$Memories" "said" "[[I") ∈ lw_g := mg1 218 rfl rfl
theorem w_302 : (Jvm.Cond.lays "MoonLine$Memories" "MoonLine$Memories" "number" "I") ∈ lw_g := mg1 220 rfl rfl
theorem w_304 : (Jvm.Cond.lays "MoonLine$Memories" "MoonLine$Memories" "mostTrue" "I") ∈ lw_g := mg1 222 rfl rfl
theorem w_306 : (Jvm.Cond.lays "MoonLine$Memories" "MoonLine$Memories" "ways" "J") ∈ lw_g := mg1 224 rfl rfl
theorem w_309 : (Jvm.Cond.instantiable "MoonLine$Row" (2 : Nat)) ∈ lw_g := mg1 227 rfl rfl
theorem wn_310 : (Jvm.Cond.methodLinkNest "MoonLine" (102 : Nat) ({ cls := "MoonLine$Row", name := "<init>", desc := "()V" } : Jvm.MethodName) "MoonLine") ∈ lw_tbl := ms1 (List.mem_of_getElem? (i := 228) rfl)
theorem w_311 : (Jvm.Cond.instanceMethod ({ cls := "MoonLine$Row", name := "<init>", desc := "()V" } : Jvm.MethodName)) ∈ lw_g := mg1 229 rfl rfl
theorem w_312 : (Jvm.Cond.code ({ cls := "MoonLine$Row", name := "<init>", desc := "()V" } : Jvm.MethodName) prog_8_method_1_code (1 : Nat) (Option.none : Option Jvm.ClassFile.FieldType)) ∈ lw_g := mg1 230 rfl rfl
theorem w_313 : (Jvm.Cond.methodLink "MoonLine$Row" (3 : Nat) ({ cls := "java/lang/Object", name := "<init>", desc := "()V" } : Jvm.MethodName)) ∈ lw_g := mg1 231 rfl rfl
theorem w_314 : (Jvm.Cond.fieldLink "MoonLine$Row" (9 : Nat) "MoonLine$Row" "places" "[I") ∈ lw_g := mg1 232 rfl rfl
theorem w_315 : (Jvm.Cond.fieldLink "MoonLine" (123 : Nat) "MoonLine$Row" "places" "[I") ∈ lw_g := mg1 233 rfl rfl
theorem w_316 : (Jvm.Cond.fieldLink "MoonLine$NightWalk" (93 : Nat) "MoonLine$Row" "places" "[I") ∈ lw_g := mg1 234 rfl rfl
theorem w_317 : (Jvm.Cond.fieldLink "MoonLine$Row" (15 : Nat) "MoonLine$Row" "size" "I") ∈ lw_g := mg1 235 rfl rfl
theorem w_318 : (Jvm.Cond.fieldLink "MoonLine" (129 : Nat) "MoonLine$Row" "size" "I") ∈ lw_g := mg1 236 rfl rfl
theorem w_319 : (Jvm.Cond.laysFinal "MoonLine$Row" "MoonLine$Row" "places" "[I") ∈ lw_g := mg1 237 rfl rfl
theorem w_321 : (Jvm.Cond.lays "MoonLine$Row" "MoonLine$Row" "size" "I") ∈ lw_g := mg1 239 rfl rfl
theorem ms2 {w : Cond} (h : w ∈ tables_1_2) : w ∈ lw_tbl := List.mem_append_right _ (List.mem_append_right _ (List.mem_append_left _ h))
theorem mg2 {w : Cond} (i : Nat) (h : (tables_1_2)[i]? = some w) (g : goodWord w = true) : w ∈ lw_g := List.mem_filter.mpr ⟨ms2 (List.mem_of_getElem? h), g⟩
theorem w_324 : (Jvm.Cond.arrayClass Jvm.ClassFile.FieldType.boolean) ∈ lw_g := mg2 2 rfl rfl
theorem w_325 : (Jvm.Cond.instantiable "MoonLine$Text" (2 : Nat)) ∈ lw_g := mg2 3 rfl rfl
theorem wn_326 : (Jvm.Cond.methodLinkNest "MoonLine" (103 : Nat) ({ cls := "MoonLine$Text", name := "<init>", desc := "()V" } : Jvm.MethodName) "MoonLine") ∈ lw_tbl := ms2 (List.mem_of_getElem? (i := 4) rfl)
theorem w_327 : (Jvm.Cond.instanceMethod ({ cls := "MoonLine$Text", name := "<init>", desc := "()V" } : Jvm.MethodName)) ∈ lw_g := mg2 5 rfl rfl
theorem w_328 : (Jvm.Cond.code ({ cls := "MoonLine$Text", name := "<init>", desc := "()V" } : Jvm.MethodName) prog_9_method_1_code (1 : Nat) (Option.none : Option Jvm.ClassFile.FieldType)) ∈ lw_g := mg2 6 rfl rfl
theorem w_329 : (Jvm.Cond.methodLink "MoonLine$Text" (3 : Nat) ({ cls := "java/lang/Object", name := "<init>", desc := "()V" } : Jvm.MethodName)) ∈ lw_g := mg2 7 rfl rfl
theorem w_330 : (Jvm.Cond.fieldLink "MoonLine$Text" (9 : Nat) "MoonLine$Text" "bytes" "[B") ∈ lw_g := mg2 8 rfl rfl
theorem w_331 : (Jvm.Cond.fieldLink "MoonLine$Crowd" (44 : Nat) "MoonLine$Text" "bytes" "[B") ∈ lw_g := mg2 9 rfl rfl
theorem w_332 : (Jvm.Cond.fieldLink "MoonLine" (160 : Nat) "MoonLine$Text" "bytes" "[B") ∈ lw_g := mg2 10 rfl rfl
theorem w_333 : (Jvm.Cond.fieldLink "MoonLine$Text" (15 : Nat) "MoonLine$Text" "size" "I") ∈ lw_g := mg2 11 rfl rfl
theorem w_334 : (Jvm.Cond.fieldLink "MoonLine$Crowd" (39 : Nat) "MoonLine$Text" "size" "I") ∈ lw_g := mg2 12 rfl rfl
theorem w_335 : (Jvm.Cond.laysFinal "MoonLine$Text" "MoonLine$Text" "bytes" "[B") ∈ lw_g := mg2 13 rfl rfl
theorem w_337 : (Jvm.Cond.lays "MoonLine$Text" "MoonLine$Text" "size" "I") ∈ lw_g := mg2 15 rfl rfl
theorem w_340 : (Jvm.Cond.arrayClass Jvm.ClassFile.FieldType.byte) ∈ lw_g := mg2 18 rfl rfl
theorem w_341 : (Jvm.Cond.fieldLink "MoonLine" (11 : Nat) "MoonLine" "allRows" "[LMoonLine$Row;") ∈ lw_g := mg2 19 rfl rfl
theorem w_342 : (Jvm.Cond.fieldLink "MoonLine" (17 : Nat) "MoonLine" "allTexts" "[LMoonLine$Text;") ∈ lw_g := mg2 20 rfl rfl
theorem w_343 : (Jvm.Cond.fieldLink "MoonLine" (24 : Nat) "MoonLine" "crowd" "LMoonLine$Crowd;") ∈ lw_g := mg2 21 rfl rfl
theorem w_344 : (Jvm.Cond.fieldLink "MoonLine" (28 : Nat) "MoonLine" "draft" "LMoonLine$Crowd;") ∈ lw_g := mg2 22 rfl rfl
theorem w_345 : (Jvm.Cond.fieldLink "MoonLine" (34 : Nat) "MoonLine" "queue" "LMoonLine$Queue;") ∈ lw_g := mg2 23 rfl rfl
theorem w_346 : (Jvm.Cond.fieldLink "MoonLine" (38 : Nat) "MoonLine" "aside" "LMoonLine$Queue;") ∈ lw_g := mg2 24 rfl rfl
theorem w_347 : (Jvm.Cond.fieldLink "MoonLine" (44 : Nat) "MoonLine" "deeds" "LMoonLine$Deeds;") ∈ lw_g := mg2 25 rfl rfl
theorem w_348 : (Jvm.Cond.fieldLink "MoonLine" (48 : Nat) "MoonLine" "kept" "[LMoonLine$Deeds;") ∈ lw_g := mg2 26 rfl rfl
theorem w_349 : (Jvm.Cond.fieldLink "MoonLine" (55 : Nat) "MoonLine" "walk" "LMoonLine$NightWalk;") ∈ lw_g := mg2 27 rfl rfl
theorem w_350 : (Jvm.Cond.fieldLink "MoonLine" (62 : Nat) "MoonLine" "search" "LMoonLine$TradeSearch;") ∈ lw_g := mg2 28 rfl rfl
theorem w_351 : (Jvm.Cond.fieldLink "MoonLine" (69 : Nat) "MoonLine" "cloudGame" "LMoonLine$CloudGame;") ∈ lw_g := mg2 29 rfl rfl
theorem w_352 : (Jvm.Cond.fieldLink "MoonLine" (76 : Nat) "MoonLine" "memories" "LMoonLine$Memories;") ∈ lw_g := mg2 30 rfl rfl
theorem w_353 : (Jvm.Cond.fieldLink "MoonLine" (80 : Nat) "MoonLine" "reached" "[Z") ∈ lw_g := mg2 31 rfl rfl
theorem w_354 : (Jvm.Cond.fieldLink "MoonLine" (84 : Nat) "MoonLine" "findingTimes" "[I") ∈ lw_g := mg2 32 rfl rfl
theorem w_355 : (Jvm.Cond.fieldLink "MoonLine" (88 : Nat) "MoonLine" "latestFinding" "I") ∈ lw_g := mg2 33 rfl rfl
theorem w_356 : (Jvm.Cond.fieldLink "MoonLine" (92 : Nat) "MoonLine" "toldNumber" "I") ∈ lw_g := mg2 34 rfl rfl
theorem w_357 : (Jvm.Cond.fieldLink "MoonLine" (95 : Nat) "MoonLine" "toldUpper" "J") ∈ lw_g := mg2 35 rfl rfl
theorem w_358 : (Jvm.Cond.fieldLink "MoonLine" (99 : Nat) "MoonLine" "toldLower" "J") ∈ lw_g := mg2 36 rfl rfl
theorem w_359 : (Jvm.Cond.laysFinal "MoonLine" "MoonLine" "allRows" "[LMoonLine$Row;") ∈ lw_g := mg2 37 rfl rfl
theorem w_361 : (Jvm.Cond.laysFinal "MoonLine" "MoonLine" "allTexts" "[LMoonLine$Text;") ∈ lw_g := mg2 39 rfl rfl
theorem w_363 : (Jvm.Cond.laysFinal "MoonLine" "MoonLine" "crowd" "LMoonLine$Crowd;") ∈ lw_g := mg2 41 rfl rfl
theorem w_365 : (Jvm.Cond.laysFinal "MoonLine" "MoonLine" "draft" "LMoonLine$Crowd;") ∈ lw_g := mg2 43 rfl rfl
theorem w_367 : (Jvm.Cond.laysFinal "MoonLine" "MoonLine" "queue" "LMoonLine$Queue;") ∈ lw_g := mg2 45 rfl rfl
theorem w_369 : (Jvm.Cond.laysFinal "MoonLine" "MoonLine" "aside" "LMoonLine$Queue;") ∈ lw_g := mg2 47 rfl rfl
theorem w_371 : (Jvm.Cond.laysFinal "MoonLine" "MoonLine" "deeds" "LMoonLine$Deeds;") ∈ lw_g := mg2 49 rfl rfl
theorem w_373 : (Jvm.Cond.laysFinal "MoonLine" "MoonLine" "kept" "[LMoonLine$Deeds;") ∈ lw_g := mg2 51 rfl rfl
theorem w_375 : (Jvm.Cond.laysFinal "MoonLine" "MoonLine" "walk" "LMoonLine$NightWalk;") ∈ lw_g := mg2 53 rfl rfl
theorem w_377 : (Jvm.Cond.laysFinal "MoonLine" "MoonLine" "search" "LMoonLine$TradeSearch;") ∈ lw_g := mg2 55 rfl rfl
theorem w_379 : (Jvm.Cond.laysFinal "MoonLine" "MoonLine" "cloudGame" "LMoonLine$CloudGame;") ∈ lw_g := mg2 57 rfl rfl
theorem w_381 : (Jvm.Cond.laysFinal "MoonLine" "MoonLine" "memories" "LMoonLine$Memories;") ∈ lw_g := mg2 59 rfl rfl
theorem w_383 : (Jvm.Cond.laysFinal "MoonLine" "MoonLine" "reached" "[Z") ∈ lw_g := mg2 61 rfl rfl
theorem w_385 : (Jvm.Cond.laysFinal "MoonLine" "MoonLine" "findingTimes" "[I") ∈ lw_g := mg2 63 rfl rfl
theorem w_387 : (Jvm.Cond.lays "MoonLine" "MoonLine" "latestFinding" "I") ∈ lw_g := mg2 65 rfl rfl
theorem w_389 : (Jvm.Cond.lays "MoonLine" "MoonLine" "toldNumber" "I") ∈ lw_g := mg2 67 rfl rfl
theorem w_391 : (Jvm.Cond.lays "MoonLine" "MoonLine" "toldUpper" "J") ∈ lw_g := mg2 69 rfl rfl
theorem w_393 : (Jvm.Cond.lays "MoonLine" "MoonLine" "toldLower" "J") ∈ lw_g := mg2 71 rfl rfl
theorem w_396 : (Jvm.Cond.methodLink "MoonLineLaw" (13 : Nat) ({ cls := "MoonLine", name := "row", desc := "(II)I" } : Jvm.MethodName)) ∈ lw_g := mg2 74 rfl rfl
theorem w_397 : (Jvm.Cond.instanceMethod ({ cls := "MoonLine", name := "row", desc := "(II)I" } : Jvm.MethodName)) ∈ lw_g := mg2 75 rfl rfl
theorem w_398 : (Jvm.Cond.selects "MoonLine" ({ cls := "MoonLine", name := "row", desc := "(II)I" } : Jvm.MethodName) ({ cls := "MoonLine", name := "row", desc := "(II)I" } : Jvm.MethodName)) ∈ lw_g := mg2 76 rfl rfl
theorem w_399 : (Jvm.Cond.code ({ cls := "MoonLine", name := "row", desc := "(II)I" } : Jvm.MethodName) prog_1_method_2_code (3 : Nat) (Option.some Jvm.ClassFile.FieldType.int)) ∈ lw_g := mg2 77 rfl rfl
theorem w_400 : (Jvm.Cond.methodLink "MoonLine" (107 : Nat) ({ cls := "MoonLine", name := "isRow", desc := "(I)Z" } : Jvm.MethodName)) ∈ lw_g := mg2 78 rfl rfl
theorem w_401 : (Jvm.Cond.static ({ cls := "MoonLine", name := "isRow", desc := "(I)Z" } : Jvm.MethodName)) ∈ lw_g := mg2 79 rfl rfl
theorem w_402 : (Jvm.Cond.code ({ cls := "MoonLine", name := "isRow", desc := "(I)Z" } : Jvm.MethodName) prog_1_method_45_code (1 : Nat) (Option.some Jvm.ClassFile.FieldType.boolean)) ∈ lw_g := mg2 80 rfl rfl
theorem w_403 : (Jvm.Cond.methodLink "MoonLine" (111 : Nat) ({ cls := "MoonLine", name := "find", desc := "(I)I" } : Jvm.MethodName)) ∈ lw_g := mg2 81 rfl rfl
theorem w_405 : (Jvm.Cond.instanceMethod ({ cls := "MoonLine", name := "find", desc := "(I)I" } : Jvm.MethodName)) ∈ lw_g := mg2 83 rfl rfl
theorem w_406 : (Jvm.Cond.code ({ cls := "MoonLine", name := "find", desc := "(I)I" } : Jvm.MethodName) prog_1_method_50_code (2 : Nat) (Option.some Jvm.ClassFile.FieldType.int)) ∈ lw_g := mg2 84 rfl rfl
theorem w_407 : (Jvm.Cond.methodLink "MoonLine" (115 : Nat) ({ cls := "MoonLine$Row", name := "beginWith", desc := "(I)V" } : Jvm.MethodName)) ∈ lw_g := mg2 85 rfl rfl
theorem w_408 : (Jvm.Cond.instanceMethod ({ cls := "MoonLine$Row", name := "beginWith", desc := "(I)V" } : Jvm.MethodName)) ∈ lw_g := mg2 86 rfl rfl
theorem w_409 : (Jvm.Cond.selects "MoonLine$Row" ({ cls := "MoonLine$Row", name := "beginWith", desc := "(I)V" } : Jvm.MethodName) ({ cls := "MoonLine$Row", name := "beginWith", desc := "(I)V" } : Jvm.MethodName)) ∈ lw_g := mg2 87 rfl rfl
theorem w_410 : (Jvm.Cond.code ({ cls := "MoonLine$Row", name := "beginWith", desc := "(I)V" } : Jvm.MethodName) prog_8_method_5_code (2 : Nat) (Option.none : Option Jvm.ClassFile.FieldType)) ∈ lw_g := mg2 88 rfl rfl
theorem w_411 : (Jvm.Cond.methodLink "MoonLine$Row" (19 : Nat) ({ cls := "java/lang/Math", name := "min", desc := "(II)I" } : Jvm.MethodName)) ∈ lw_g := mg2 89 rfl rfl
theorem w_412 : (Jvm.Cond.static ({ cls := "java/lang/Math", name := "min", desc := "(II)I" } : Jvm.MethodName)) ∈ lw_g := mg2 90 rfl rfl
theorem w_413 : (Jvm.Cond.code ({ cls := "java/lang/Math", name := "min", desc := "(II)I" } : Jvm.MethodName) prog_14_method_69_code (2 : Nat) (Option.some Jvm.ClassFile.FieldType.int)) ∈ lw_g := mg2 91 rfl rfl
theorem w_414 : (Jvm.Cond.methodLink "MoonLine$Row" (25 : Nat) ({ cls := "java/util/Arrays", name := "fill", desc := "([II)V" } : Jvm.MethodName)) ∈ lw_g := mg2 92 rfl rfl
theorem w_415 : (Jvm.Cond.static ({ cls := "java/util/Arrays", name := "fill", desc := "([II)V" } : Jvm.MethodName)) ∈ lw_g := mg2 93 rfl rfl
theorem w_416 : (Jvm.Cond.code ({ cls := "java/util/Arrays", name := "fill", desc := "([II)V" } : Jvm.MethodName) prog_16_method_103_code (4 : Nat) (Option.none : Option Jvm.ClassFile.FieldType)) ∈ lw_g := mg2 94 rfl rfl
theorem w_417 : (Jvm.Cond.methodLink "MoonLineLaw" (18 : Nat) ({ cls := "MoonLine", name := "lay", desc := "(III)I" } : Jvm.MethodName)) ∈ lw_g := mg2 95 rfl rfl
theorem w_418 : (Jvm.Cond.instanceMethod ({ cls := "MoonLine", name := "lay", desc := "(III)I" } : Jvm.MethodName)) ∈ lw_g := mg2 96 rfl rfl
theorem w_419 : (Jvm.Cond.selects "MoonLine" ({ cls := "MoonLine", name := "lay", desc := "(III)I" } : Jvm.MethodName) ({ cls := "MoonLine", name := "lay", desc := "(III)I" } : Jvm.MethodName)) ∈ lw_g := mg2 97 rfl rfl
theorem w_420 : (Jvm.Cond.code ({ cls := "MoonLine", name := "lay", desc := "(III)I" } : Jvm.MethodName) prog_1_method_3_code (5 : Nat) (Option.some Jvm.ClassFile.FieldType.int)) ∈ lw_g := mg2 98 rfl rfl
theorem w_421 : (Jvm.Cond.methodLink "MoonLine" (119 : Nat) ({ cls := "MoonLine", name := "refusalOfPlace", desc := "(II)I" } : Jvm.MethodName)) ∈ lw_g := mg2 99 rfl rfl
theorem w_423 : (Jvm.Cond.instanceMethod ({ cls := "MoonLine", name := "refusalOfPlace", desc := "(II)I" } : Jvm.MethodName)) ∈ lw_g := mg2 101 rfl rfl
theorem w_424 : (Jvm.Cond.code ({ cls := "MoonLine", name := "refusalOfPlace", desc := "(II)I" } : Jvm.MethodName) prog_1_method_52_code (4 : Nat) (Option.some Jvm.ClassFile.FieldType.int)) ∈ lw_g := mg2 102 rfl rfl
theorem w_425 : (Jvm.Cond.methodLink "MoonLine" (126 : Nat) ({ cls := "MoonLine", name := "refusalOfRow", desc := "(I)I" } : Jvm.MethodName)) ∈ lw_g := mg2 103 rfl rfl
theorem w_427 : (Jvm.Cond.instanceMethod ({ cls := "MoonLine", name := "refusalOfRow", desc := "(I)I" } : Jvm.MethodName)) ∈ lw_g := mg2 105 rfl rfl
theorem w_428 : (Jvm.Cond.code ({ cls := "MoonLine", name := "refusalOfRow", desc := "(I)I" } : Jvm.MethodName) prog_1_method_51_code (2 : Nat) (Option.some Jvm.ClassFile.FieldType.int)) ∈ lw_g := mg2 106 rfl rfl
theorem w_429 : (Jvm.Cond.methodLink "MoonLine" (132 : Nat) ({ cls := "MoonLine$Row", name := "isMissing", desc := "()Z" } : Jvm.MethodName)) ∈ lw_g := mg2 107 rfl rfl
theorem w_430 : (Jvm.Cond.instanceMethod ({ cls := "MoonLine$Row", name := "isMissing", desc := "()Z" } : Jvm.MethodName)) ∈ lw_g := mg2 108 rfl rfl
theorem w_431 : (Jvm.Cond.selects "MoonLine$Row" ({ cls := "MoonLine$Row", name := "isMissing", desc := "()Z" } : Jvm.MethodName) ({ cls := "MoonLine$Row", name := "isMissing", desc := "()Z" } : Jvm.MethodName)) ∈ lw_g := mg2 109 rfl rfl
theorem w_432 : (Jvm.Cond.code ({ cls := "MoonLine$Row", name := "isMissing", desc := "()Z" } : Jvm.MethodName) prog_8_method_2_code (1 : Nat) (Option.some Jvm.ClassFile.FieldType.boolean)) ∈ lw_g := mg2 110 rfl rfl
theorem w_433 : (Jvm.Cond.methodLink "MoonLine" (361 : Nat) ({ cls := "MoonLine$Row", name := "has", desc := "(I)Z" } : Jvm.MethodName)) ∈ lw_g := mg2 111 rfl rfl
theorem w_434 : (Jvm.Cond.instanceMethod ({ cls := "MoonLine$Row", name := "has", desc := "(I)Z" } : Jvm.MethodName)) ∈ lw_g := mg2 112 rfl rfl
theorem w_435 : (Jvm.Cond.selects "MoonLine$Row" ({ cls := "MoonLine$Row", name := "has", desc := "(I)Z" } : Jvm.MethodName) ({ cls := "MoonLine$Row", name := "has", desc := "(I)Z" } : Jvm.MethodName)) ∈ lw_g := mg2 113 rfl rfl
theorem w_436 : (Jvm.Cond.code ({ cls := "MoonLine$Row", name := "has", desc := "(I)Z" } : Jvm.MethodName) prog_8_method_3_code (2 : Nat) (Option.some Jvm.ClassFile.FieldType.boolean)) ∈ lw_g := mg2 114 rfl rfl
theorem w_437 : (Jvm.Cond.methodLink "MoonLineLaw" (23 : Nat) ({ cls := "MoonLine", name := "at", desc := "(II)I" } : Jvm.MethodName)) ∈ lw_g := mg2 115 rfl rfl
theorem w_438 : (Jvm.Cond.instanceMethod ({ cls := "MoonLine", name := "at", desc := "(II)I" } : Jvm.MethodName)) ∈ lw_g := mg2 116 rfl rfl
theorem w_439 : (Jvm.Cond.selects "MoonLine" ({ cls := "MoonLine", name := "at", desc := "(II)I" } : Jvm.MethodName) ({ cls := "MoonLine", name := "at", desc := "(II)I" } : Jvm.MethodName)) ∈ lw_g := mg2 117 rfl rfl
theorem w_440 : (Jvm.Cond.code ({ cls := "MoonLine", name := "at", desc := "(II)I" } : Jvm.MethodName) prog_1_method_4_code (4 : Nat) (Option.some Jvm.ClassFile.FieldType.int)) ∈ lw_g := mg2 118 rfl rfl
theorem w_441 : (Jvm.Cond.methodLink "MoonLineLaw" (27 : Nat) ({ cls := "MoonLine", name := "tear", desc := "(I)I" } : Jvm.MethodName)) ∈ lw_g := mg2 119 rfl rfl
theorem w_442 : (Jvm.Cond.instanceMethod ({ cls := "MoonLine", name := "tear", desc := "(I)I" } : Jvm.MethodName)) ∈ lw_g := mg2 120 rfl rfl
theorem w_443 : (Jvm.Cond.selects "MoonLine" ({ cls := "MoonLine", name := "tear", desc := "(I)I" } : Jvm.MethodName) ({ cls := "MoonLine", name := "tear", desc := "(I)I" } : Jvm.MethodName)) ∈ lw_g := mg2 121 rfl rfl
theorem w_444 : (Jvm.Cond.code ({ cls := "MoonLine", name := "tear", desc := "(I)I" } : Jvm.MethodName) prog_1_method_5_code (3 : Nat) (Option.some Jvm.ClassFile.FieldType.int)) ∈ lw_g := mg2 122 rfl rfl
theorem w_445 : (Jvm.Cond.methodLink "MoonLineLaw" (32 : Nat) ({ cls := "MoonLine", name := "copy", desc := "(IIIII)I" } : Jvm.MethodName)) ∈ lw_g := mg2 123 rfl rfl
theorem w_446 : (Jvm.Cond.instanceMethod ({ cls := "MoonLine", name := "copy", desc := "(IIIII)I" } : Jvm.MethodName)) ∈ lw_g := mg2 124 rfl rfl
theorem w_447 : (Jvm.Cond.selects "MoonLine" ({ cls := "MoonLine", name := "copy", desc := "(IIIII)I" } : Jvm.MethodName) ({ cls := "MoonLine", name := "copy", desc := "(IIIII)I" } : Jvm.MethodName)) ∈ lw_g := mg2 125 rfl rfl
theorem w_448 : (Jvm.Cond.code ({ cls := "MoonLine", name := "copy", desc := "(IIIII)I" } : Jvm.MethodName) prog_1_method_6_code (8 : Nat) (Option.some Jvm.ClassFile.FieldType.int)) ∈ lw_g := mg2 126 rfl rfl
theorem w_449 : (Jvm.Cond.methodLink "MoonLine" (136 : Nat) ({ cls := "MoonLine$Row", name := "hasSpan", desc := "(II)Z" } : Jvm.MethodName)) ∈ lw_g := mg2 127 rfl rfl
theorem w_450 : (Jvm.Cond.instanceMethod ({ cls := "MoonLine$Row", name := "hasSpan", desc := "(II)Z" } : Jvm.MethodName)) ∈ lw_g := mg2 128 rfl rfl
theorem w_451 : (Jvm.Cond.selects "MoonLine$Row" ({ cls := "MoonLine$Row", name := "hasSpan", desc := "(II)Z" } : Jvm.MethodName) ({ cls := "MoonLine$Row", name := "hasSpan", desc := "(II)Z" } : Jvm.MethodName)) ∈ lw_g := mg2 129 rfl rfl
theorem w_452 : (Jvm.Cond.code ({ cls := "MoonLine$Row", name := "hasSpan", desc := "(II)Z" } : Jvm.MethodName) prog_8_method_4_code (3 : Nat) (Option.some Jvm.ClassFile.FieldType.boolean)) ∈ lw_g := mg2 130 rfl rfl
theorem w_453 : (Jvm.Cond.methodLink "MoonLine" (140 : Nat) ({ cls := "java/lang/System", name := "arraycopy", desc := "(Ljava/lang/Object;ILjava/lang/Object;II)V" } : Jvm.MethodName)) ∈ lw_g := mg2 131 rfl rfl
theorem w_454 : (Jvm.Cond.static ({ cls := "java/lang/System", name := "arraycopy", desc := "(Ljava/lang/Object;ILjava/lang/Object;II)V" } : Jvm.MethodName)) ∈ lw_g := mg2 132 rfl rfl
theorem w_455 : (Jvm.Cond.native ({ cls := "java/lang/System", name := "arraycopy", desc := "(Ljava/lang/Object;ILjava/lang/Object;II)V" } : Jvm.MethodName)) ∈ lw_g := mg2 133 rfl rfl
theorem w_456 : (Jvm.Cond.methodLink "MoonLineLaw" (37 : Nat) ({ cls := "MoonLine", name := "mean", desc := "(I)I" } : Jvm.MethodName)) ∈ lw_g := mg2 134 rfl rfl
theorem w_457 : (Jvm.Cond.instanceMethod ({ cls := "MoonLine", name := "mean", desc := "(I)I" } : Jvm.MethodName)) ∈ lw_g := mg2 135 rfl rfl
theorem w_458 : (Jvm.Cond.selects "MoonLine" ({ cls := "MoonLine", name := "mean", desc := "(I)I" } : Jvm.MethodName) ({ cls := "MoonLine", name := "mean", desc := "(I)I" } : Jvm.MethodName)) ∈ lw_g := mg2 136 rfl rfl
theorem w_459 : (Jvm.Cond.code ({ cls := "MoonLine", name := "mean", desc := "(I)I" } : Jvm.MethodName) prog_1_method_7_code (4 : Nat) (Option.some Jvm.ClassFile.FieldType.int)) ∈ lw_g := mg2 137 rfl rfl
theorem w_460 : (Jvm.Cond.methodLink "MoonLine" (146 : Nat) ({ cls := "MoonLine$Row", name := "sum", desc := "()J" } : Jvm.MethodName)) ∈ lw_g := mg2 138 rfl rfl
theorem w_461 : (Jvm.Cond.instanceMethod ({ cls := "MoonLine$Row", name := "sum", desc := "()J" } : Jvm.MethodName)) ∈ lw_g := mg2 139 rfl rfl
theorem w_462 : (Jvm.Cond.selects "MoonLine$Row" ({ cls := "MoonLine$Row", name := "sum", desc := "()J" } : Jvm.MethodName) ({ cls := "MoonLine$Row", name := "sum", desc := "()J" } : Jvm.MethodName)) ∈ lw_g := mg2 140 rfl rfl
theorem w_463 : (Jvm.Cond.code ({ cls := "MoonLine$Row", name := "sum", desc := "()J" } : Jvm.MethodName) prog_8_method_6_code (4 : Nat) (Option.some Jvm.ClassFile.FieldType.long)) ∈ lw_g := mg2 141 rfl rfl
theorem w_464 : (Jvm.Cond.methodLink "MoonLineLaw" (41 : Nat) ({ cls := "MoonLine", name := "text", desc := "(II)I" } : Jvm.MethodName)) ∈ lw_g := mg2 142 rfl rfl
theorem w_465 : (Jvm.Cond.instanceMethod ({ cls := "MoonLine", name := "text", desc := "(II)I" } : Jvm.MethodName)) ∈ lw_g := mg2 143 rfl rfl
theorem w_466 : (Jvm.Cond.selects "MoonLine" ({ cls := "MoonLine", name := "text", desc := "(II)I" } : Jvm.MethodName) ({ cls := "MoonLine", name := "text", desc := "(II)I" } : Jvm.MethodName)) ∈ lw_g := mg2 144 rfl rfl
theorem w_467 : (Jvm.Cond.code ({ cls := "MoonLine", name := "text", desc := "(II)I" } : Jvm.MethodName) prog_1_method_8_code (3 : Nat) (Option.some Jvm.ClassFile.FieldType.int)) ∈ lw_g := mg2 145 rfl rfl
theorem w_468 : (Jvm.Cond.methodLink "MoonLine" (150 : Nat) ({ cls := "MoonLine", name := "isText", desc := "(I)Z" } : Jvm.MethodName)) ∈ lw_g := mg2 146 rfl rfl
theorem w_469 : (Jvm.Cond.static ({ cls := "MoonLine", name := "isText", desc := "(I)Z" } : Jvm.MethodName)) ∈ lw_g := mg2 147 rfl rfl
theorem w_470 : (Jvm.Cond.code ({ cls := "MoonLine", name := "isText", desc := "(I)Z" } : Jvm.MethodName) prog_1_method_46_code (1 : Nat) (Option.some Jvm.ClassFile.FieldType.boolean)) ∈ lw_g := mg2 148 rfl rfl
theorem w_471 : (Jvm.Cond.methodLink "MoonLine" (153 : Nat) ({ cls := "MoonLine$Text", name := "beginWith", desc := "(I)V" } : Jvm.MethodName)) ∈ lw_g := mg2 149 rfl rfl
theorem w_472 : (Jvm.Cond.instanceMethod ({ cls := "MoonLine$Text", name := "beginWith", desc := "(I)V" } : Jvm.MethodName)) ∈ lw_g := mg2 150 rfl rfl
theorem w_473 : (Jvm.Cond.selects "MoonLine$Text" ({ cls := "MoonLine$Text", name := "beginWith", desc := "(I)V" } : Jvm.MethodName) ({ cls := "MoonLine$Text", name := "beginWith", desc := "(I)V" } : Jvm.MethodName)) ∈ lw_g := mg2 151 rfl rfl
theorem w_474 : (Jvm.Cond.code ({ cls := "MoonLine$Text", name := "beginWith", desc := "(I)V" } : Jvm.MethodName) prog_9_method_4_code (2 : Nat) (Option.none : Option Jvm.ClassFile.FieldType)) ∈ lw_g := mg2 152 rfl rfl
theorem w_475 : (Jvm.Cond.methodLink "MoonLine$Text" (19 : Nat) ({ cls := "java/lang/Math", name := "min", desc := "(II)I" } : Jvm.MethodName)) ∈ lw_g := mg2 153 rfl rfl
theorem w_476 : (Jvm.Cond.methodLink "MoonLine$Text" (25 : Nat) ({ cls := "java/util/Arrays", name := "fill", desc := "([BB)V" } : Jvm.MethodName)) ∈ lw_g := mg2 154 rfl rfl
theorem w_477 : (Jvm.Cond.static ({ cls := "java/util/Arrays", name := "fill", desc := "([BB)V" } : Jvm.MethodName)) ∈ lw_g := mg2 155 rfl rfl
theorem w_478 : (Jvm.Cond.code ({ cls := "java/util/Arrays", name := "fill", desc := "([BB)V" } : Jvm.MethodName) prog_16_method_109_code (4 : Nat) (Option.none : Option Jvm.ClassFile.FieldType)) ∈ lw_g := mg2 156 rfl rfl
theorem w_479 : (Jvm.Cond.methodLink "MoonLineLaw" (45 : Nat) ({ cls := "MoonLine", name := "put", desc := "(III)I" } : Jvm.MethodName)) ∈ lw_g := mg2 157 rfl rfl
theorem w_480 : (Jvm.Cond.instanceMethod ({ cls := "MoonLine", name := "put", desc := "(III)I" } : Jvm.MethodName)) ∈ lw_g := mg2 158 rfl rfl
theorem w_481 : (Jvm.Cond.selects "MoonLine" ({ cls := "MoonLine", name := "put", desc := "(III)I" } : Jvm.MethodName) ({ cls := "MoonLine", name := "put", desc := "(III)I" } : Jvm.MethodName)) ∈ lw_g := mg2 159 rfl rfl
theorem w_482 : (Jvm.Cond.code ({ cls := "MoonLine", name := "put", desc := "(III)I" } : Jvm.MethodName) prog_1_method_9_code (7 : Nat) (Option.some Jvm.ClassFile.FieldType.int)) ∈ lw_g := mg2 160 rfl rfl
theorem w_483 : (Jvm.Cond.methodLink "MoonLine" (154 : Nat) ({ cls := "MoonLine", name := "refusalOfText", desc := "(I)I" } : Jvm.MethodName)) ∈ lw_g := mg2 161 rfl rfl
theorem w_485 : (Jvm.Cond.instanceMethod ({ cls := "MoonLine", name := "refusalOfText", desc := "(I)I" } : Jvm.MethodName)) ∈ lw_g := mg2 163 rfl rfl
theorem w_486 : (Jvm.Cond.code ({ cls := "MoonLine", name := "refusalOfText", desc := "(I)I" } : Jvm.MethodName) prog_1_method_53_code (2 : Nat) (Option.some Jvm.ClassFile.FieldType.int)) ∈ lw_g := mg2 164 rfl rfl
theorem w_487 : (Jvm.Cond.methodLink "MoonLine" (362 : Nat) ({ cls := "MoonLine$Text", name := "isMissing", desc := "()Z" } : Jvm.MethodName)) ∈ lw_g := mg2 165 rfl rfl
theorem w_488 : (Jvm.Cond.instanceMethod ({ cls := "MoonLine$Text", name := "isMissing", desc := "()Z" } : Jvm.MethodName)) ∈ lw_g := mg2 166 rfl rfl
theorem w_489 : (Jvm.Cond.selects "MoonLine$Text" ({ cls := "MoonLine$Text", name := "isMissing", desc := "()Z" } : Jvm.MethodName) ({ cls := "MoonLine$Text", name := "isMissing", desc := "()Z" } : Jvm.MethodName)) ∈ lw_g := mg2 167 rfl rfl
theorem w_490 : (Jvm.Cond.code ({ cls := "MoonLine$Text", name := "isMissing", desc := "()Z" } : Jvm.MethodName) prog_9_method_2_code (1 : Nat) (Option.some Jvm.ClassFile.FieldType.boolean)) ∈ lw_g := mg2 168 rfl rfl
theorem w_491 : (Jvm.Cond.methodLink "MoonLine" (157 : Nat) ({ cls := "MoonLine$Text", name := "has", desc := "(I)Z" } : Jvm.MethodName)) ∈ lw_g := mg2 169 rfl rfl
theorem w_492 : (Jvm.Cond.instanceMethod ({ cls := "MoonLine$Text", name := "has", desc := "(I)Z" } : Jvm.MethodName)) ∈ lw_g := mg2 170 rfl rfl
theorem w_493 : (Jvm.Cond.selects "MoonLine$Text" ({ cls := "MoonLine$Text", name := "has", desc := "(I)Z" } : Jvm.MethodName) ({ cls := "MoonLine$Text", name := "has", desc := "(I)Z" } : Jvm.MethodName)) ∈ lw_g := mg2 171 rfl rfl
theorem w_494 : (Jvm.Cond.code ({ cls := "MoonLine$Text", name := "has", desc := "(I)Z" } : Jvm.MethodName) prog_9_method_3_code (2 : Nat) (Option.some Jvm.ClassFile.FieldType.boolean)) ∈ lw_g := mg2 172 rfl rfl
theorem w_495 : (Jvm.Cond.methodLink "MoonLineLaw" (49 : Nat) ({ cls := "MoonLine", name := "fault", desc := "(I)I" } : Jvm.MethodName)) ∈ lw_g := mg2 173 rfl rfl
theorem w_496 : (Jvm.Cond.instanceMethod ({ cls := "MoonLine", name := "fault", desc := "(I)I" } : Jvm.MethodName)) ∈ lw_g := mg2 174 rfl rfl
theorem w_497 : (Jvm.Cond.selects "MoonLine" ({ cls := "MoonLine", name := "fault", desc := "(I)I" } : Jvm.MethodName) ({ cls := "MoonLine", name := "fault", desc := "(I)I" } : Jvm.MethodName)) ∈ lw_g := mg2 175 rfl rfl
theorem w_498 : (Jvm.Cond.code ({ cls := "MoonLine", name := "fault", desc := "(I)I" } : Jvm.MethodName) prog_1_method_10_code (3 : Nat) (Option.some Jvm.ClassFile.FieldType.int)) ∈ lw_g := mg2 176 rfl rfl
theorem w_499 : (Jvm.Cond.methodLink "MoonLine" (164 : Nat) ({ cls := "MoonLine$Crowd", name := "read", desc := "(LMoonLine$Text;)I" } : Jvm.MethodName)) ∈ lw_g := mg2 177 rfl rfl
theorem w_500 : (Jvm.Cond.instanceMethod ({ cls := "MoonLine$Crowd", name := "read", desc := "(LMoonLine$Text;)I" } : Jvm.MethodName)) ∈ lw_g := mg2 178 rfl rfl
theorem w_501 : (Jvm.Cond.selects "MoonLine$Crowd" ({ cls := "MoonLine$Crowd", name := "read", desc := "(LMoonLine$Text;)I" } : Jvm.MethodName) ({ cls := "MoonLine$Crowd", name := "read", desc := "(LMoonLine$Text;)I" } : Jvm.MethodName)) ∈ lw_g := mg2 179 rfl rfl
theorem w_502 : (Jvm.Cond.code ({ cls := "MoonLine$Crowd", name := "read", desc := "(LMoonLine$Text;)I" } : Jvm.MethodName) prog_3_method_7_code (5 : Nat) (Option.some Jvm.ClassFile.FieldType.int)) ∈ lw_g := mg2 180 rfl rfl
theorem w_503 : (Jvm.Cond.methodLink "MoonLine$Crowd" (48 : Nat) ({ cls := "MoonLine$Crowd", name := "takes", desc := "(II)Z" } : Jvm.MethodName)) ∈ lw_g := mg2 181 rfl rfl
theorem w_505 : (Jvm.Cond.instanceMethod ({ cls := "MoonLine$Crowd", name := "takes", desc := "(II)Z" } : Jvm.MethodName)) ∈ lw_g := mg2 183 rfl rfl
theorem w_506 : (Jvm.Cond.code ({ cls := "MoonLine$Crowd", name := "takes", desc := "(II)Z" } : Jvm.MethodName) prog_3_method_8_code (4 : Nat) (Option.some Jvm.ClassFile.FieldType.boolean)) ∈ lw_g := mg2 184 rfl rfl
theorem w_507 : (Jvm.Cond.methodLink "MoonLine$Crowd" (51 : Nat) ({ cls := "MoonLine$Crowd", name := "takesLetter", desc := "(I)Z" } : Jvm.MethodName)) ∈ lw_g := mg2 185 rfl rfl
theorem w_509 : (Jvm.Cond.instanceMethod ({ cls := "MoonLine$Crowd", name := "takesLetter", desc := "(I)Z" } : Jvm.MethodName)) ∈ lw_g := mg2 187 rfl rfl
theorem w_510 : (Jvm.Cond.code ({ cls := "MoonLine$Crowd", name := "takesLetter", desc := "(I)Z" } : Jvm.MethodName) prog_3_method_9_code (3 : Nat) (Option.some Jvm.ClassFile.FieldType.boolean)) ∈ lw_g := mg2 188 rfl rfl
theorem wn_511 : (Jvm.Cond.fieldLinkNest "MoonLine$Crowd" (54 : Nat) "MoonLine" "LETTERS" "[C" "MoonLine") ∈ lw_tbl := ms2 (List.mem_of_getElem? (i := 189) rfl)
theorem wn_512 : (Jvm.Cond.laysStatic "MoonLine" "LETTERS" "[C") ∈ lw_tbl := ms2 (List.mem_of_getElem? (i := 190) rfl)
theorem w_513 : (Jvm.Cond.methodLink "MoonLineLaw" (53 : Nat) ({ cls := "MoonLine", name := "line", desc := "(I)I" } : Jvm.MethodName)) ∈ lw_g := mg2 191 rfl rfl
theorem w_514 : (Jvm.Cond.instanceMethod ({ cls := "MoonLine", name := "line", desc := "(I)I" } : Jvm.MethodName)) ∈ lw_g := mg2 192 rfl rfl
theorem w_515 : (Jvm.Cond.selects "MoonLine" ({ cls := "MoonLine", name := "line", desc := "(I)I" } : Jvm.MethodName) ({ cls := "MoonLine", name := "line", desc := "(I)I" } : Jvm.MethodName)) ∈ lw_g := mg2 193 rfl rfl
theorem w_516 : (Jvm.Cond.code ({ cls := "MoonLine", name := "line", desc := "(I)I" } : Jvm.MethodName) prog_1_method_11_code (4 : Nat) (Option.some Jvm.ClassFile.FieldType.int)) ∈ lw_g := mg2 194 rfl rfl
theorem w_517 : (Jvm.Cond.methodLink "MoonLine" (168 : Nat) ({ cls := "MoonLine$Crowd", name := "setAs", desc := "(LMoonLine$Crowd;)V" } : Jvm.MethodName)) ∈ lw_g := mg2 195 rfl rfl
theorem w_518 : (Jvm.Cond.instanceMethod ({ cls := "MoonLine$Crowd", name := "setAs", desc := "(LMoonLine$Crowd;)V" } : Jvm.MethodName)) ∈ lw_g := mg2 196 rfl rfl
theorem w_519 : (Jvm.Cond.selects "MoonLine$Crowd" ({ cls := "MoonLine$Crowd", name := "setAs", desc := "(LMoonLine$Crowd;)V" } : Jvm.MethodName) ({ cls := "MoonLine$Crowd", name := "setAs", desc := "(LMoonLine$Crowd;)V" } : Jvm.MethodName)) ∈ lw_g := mg2 197 rfl rfl
theorem w_520 : (Jvm.Cond.code ({ cls := "MoonLine$Crowd", name := "setAs", desc := "(LMoonLine$Crowd;)V" } : Jvm.MethodName) prog_3_method_3_code (2 : Nat) (Option.none : Option Jvm.ClassFile.FieldType)) ∈ lw_g := mg2 198 rfl rfl
theorem w_521 : (Jvm.Cond.methodLink "MoonLine$Crowd" (25 : Nat) ({ cls := "java/lang/System", name := "arraycopy", desc := "(Ljava/lang/Object;ILjava/lang/Object;II)V" } : Jvm.MethodName)) ∈ lw_g := mg2 199 rfl rfl
theorem w_522 : (Jvm.Cond.methodLink "MoonLine" (173 : Nat) ({ cls := "MoonLine$Queue", name := "beginWith", desc := "(I)V" } : Jvm.MethodName)) ∈ lw_g := mg2 200 rfl rfl
theorem w_523 : (Jvm.Cond.instanceMethod ({ cls := "MoonLine$Queue", name := "beginWith", desc := "(I)V" } : Jvm.MethodName)) ∈ lw_g := mg2 201 rfl rfl
theorem w_524 : (Jvm.Cond.selects "MoonLine$Queue" ({ cls := "MoonLine$Queue", name := "beginWith", desc := "(I)V" } : Jvm.MethodName) ({ cls := "MoonLine$Queue", name := "beginWith", desc := "(I)V" } : Jvm.MethodName)) ∈ lw_g := mg2 202 rfl rfl
theorem w_525 : (Jvm.Cond.code ({ cls := "MoonLine$Queue", name := "beginWith", desc := "(I)V" } : Jvm.MethodName) prog_7_method_2_code (3 : Nat) (Option.none : Option Jvm.ClassFile.FieldType)) ∈ lw_g := mg2 203 rfl rfl
theorem w_526 : (Jvm.Cond.methodLink "MoonLine$Queue" (31 : Nat) ({ cls := "java/lang/Math", name := "min", desc := "(II)I" } : Jvm.MethodName)) ∈ lw_g := mg2 204 rfl rfl
theorem w_527 : (Jvm.Cond.methodLink "MoonLineLaw" (57 : Nat) ({ cls := "MoonLine", name := "person", desc := "(II)I" } : Jvm.MethodName)) ∈ lw_g := mg2 205 rfl rfl
theorem w_528 : (Jvm.Cond.instanceMethod ({ cls := "MoonLine", name := "person", desc := "(II)I" } : Jvm.MethodName)) ∈ lw_g := mg2 206 rfl rfl
theorem w_529 : (Jvm.Cond.selects "MoonLine" ({ cls := "MoonLine", name := "person", desc := "(II)I" } : Jvm.MethodName) ({ cls := "MoonLine", name := "person", desc := "(II)I" } : Jvm.MethodName)) ∈ lw_g := mg2 207 rfl rfl
theorem w_530 : (Jvm.Cond.code ({ cls := "MoonLine", name := "person", desc := "(II)I" } : Jvm.MethodName) prog_1_method_12_code (3 : Nat) (Option.some Jvm.ClassFile.FieldType.int)) ∈ lw_g := mg2 208 rfl rfl
theorem w_531 : (Jvm.Cond.methodLink "MoonLine" (174 : Nat) ({ cls := "MoonLine$Crowd", name := "has", desc := "(I)Z" } : Jvm.MethodName)) ∈ lw_g := mg2 209 rfl rfl
theorem w_532 : (Jvm.Cond.instanceMethod ({ cls := "MoonLine$Crowd", name := "has", desc := "(I)Z" } : Jvm.MethodName)) ∈ lw_g := mg2 210 rfl rfl
theorem w_533 : (Jvm.Cond.selects "MoonLine$Crowd" ({ cls := "MoonLine$Crowd", name := "has", desc := "(I)Z" } : Jvm.MethodName) ({ cls := "MoonLine$Crowd", name := "has", desc := "(I)Z" } : Jvm.MethodName)) ∈ lw_g := mg2 211 rfl rfl
theorem w_534 : (Jvm.Cond.code ({ cls := "MoonLine$Crowd", name := "has", desc := "(I)Z" } : Jvm.MethodName) prog_3_method_2_code (2 : Nat) (Option.some Jvm.ClassFile.FieldType.boolean)) ∈ lw_g := mg2 212 rfl rfl
theorem w_535 : (Jvm.Cond.methodLink "MoonLine" (175 : Nat) ({ cls := "MoonLine", name := "detailOf", desc := "(II)I" } : Jvm.MethodName)) ∈ lw_g := mg2 213 rfl rfl
theorem w_537 : (Jvm.Cond.instanceMethod ({ cls := "MoonLine", name := "detailOf", desc := "(II)I" } : Jvm.MethodName)) ∈ lw_g := mg2 215 rfl rfl
theorem w_538 : (Jvm.Cond.code ({ cls := "MoonLine", name := "detailOf", desc := "(II)I" } : Jvm.MethodName) prog_1_method_61_code (3 : Nat) (Option.some Jvm.ClassFile.FieldType.int)) ∈ lw_g := mg2 216 rfl rfl
theorem w_539 : (Jvm.Cond.methodLink "MoonLine" (181 : Nat) ({ cls := "MoonLine$Queue", name := "placeOf", desc := "(I)I" } : Jvm.MethodName)) ∈ lw_g := mg2 217 rfl rfl
theorem w_540 : (Jvm.Cond.instanceMethod ({ cls := "MoonLine$Queue", name := "placeOf", desc := "(I)I" } : Jvm.MethodName)) ∈ lw_g := mg2 218 rfl rfl
theorem w_541 : (Jvm.Cond.selects "MoonLine$Queue" ({ cls := "MoonLine$Queue", name := "placeOf", desc := "(I)I" } : Jvm.MethodName) ({ cls := "MoonLine$Queue", name := "placeOf", desc := "(I)I" } : Jvm.MethodName)) ∈ lw_g := mg2 219 rfl rfl
theorem w_542 : (Jvm.Cond.code ({ cls := "MoonLine$Queue", name := "placeOf", desc := "(I)I" } : Jvm.MethodName) prog_7_method_5_code (3 : Nat) (Option.some Jvm.ClassFile.FieldType.int)) ∈ lw_g := mg2 220 rfl rfl
theorem w_543 : (Jvm.Cond.methodLink "MoonLineLaw" (61 : Nat) ({ cls := "MoonLine", name := "mark", desc := "(II)I" } : Jvm.MethodName)) ∈ lw_g := mg2 221 rfl rfl
theorem w_544 : (Jvm.Cond.instanceMethod ({ cls := "MoonLine", name := "mark", desc := "(II)I" } : Jvm.MethodName)) ∈ lw_g := mg2 222 rfl rfl
theorem w_545 : (Jvm.Cond.selects "MoonLine" ({ cls := "MoonLine", name := "mark", desc := "(II)I" } : Jvm.MethodName) ({ cls := "MoonLine", name := "mark", desc := "(II)I" } : Jvm.MethodName)) ∈ lw_g := mg2 223 rfl rfl
theorem w_546 : (Jvm.Cond.code ({ cls := "MoonLine", name := "mark", desc := "(II)I" } : Jvm.MethodName) prog_1_method_13_code (4 : Nat) (Option.some Jvm.ClassFile.FieldType.int)) ∈ lw_g := mg2 224 rfl rfl
theorem w_547 : (Jvm.Cond.methodLink "MoonLine" (178 : Nat) ({ cls := "MoonLine$Crowd", name := "isOf", desc := "(II)Z" } : Jvm.MethodName)) ∈ lw_g := mg2 225 rfl rfl
theorem w_548 : (Jvm.Cond.instanceMethod ({ cls := "MoonLine$Crowd", name := "isOf", desc := "(II)Z" } : Jvm.MethodName)) ∈ lw_g := mg2 226 rfl rfl
theorem w_549 : (Jvm.Cond.selects "MoonLine$Crowd" ({ cls := "MoonLine$Crowd", name := "isOf", desc := "(II)Z" } : Jvm.MethodName) ({ cls := "MoonLine$Crowd", name := "isOf", desc := "(II)Z" } : Jvm.MethodName)) ∈ lw_g := mg2 227 rfl rfl
theorem w_550 : (Jvm.Cond.code ({ cls := "MoonLine$Crowd", name := "isOf", desc := "(II)Z" } : Jvm.MethodName) prog_3_method_4_code (4 : Nat) (Option.some Jvm.ClassFile.FieldType.boolean)) ∈ lw_g := mg2 228 rfl rfl
theorem w_551 : (Jvm.Cond.methodLink "MoonLine$Crowd" (31 : Nat) ({ cls := "MoonLine$Crowd", name := "has", desc := "(I)Z" } : Jvm.MethodName)) ∈ lw_g := mg2 229 rfl rfl
theorem w_552 : (Jvm.Cond.methodLink "MoonLine" (184 : Nat) ({ cls := "MoonLine$Queue", name := "asleepAhead", desc := "(LMoonLine$Crowd;I)I" } : Jvm.MethodName)) ∈ lw_g := mg2 230 rfl rfl
theorem w_553 : (Jvm.Cond.instanceMethod ({ cls := "MoonLine$Queue", name := "asleepAhead", desc := "(LMoonLine$Crowd;I)I" } : Jvm.MethodName)) ∈ lw_g := mg2 231 rfl rfl
theorem w_554 : (Jvm.Cond.selects "MoonLine$Queue" ({ cls := "MoonLine$Queue", name := "asleepAhead", desc := "(LMoonLine$Crowd;I)I" } : Jvm.MethodName) ({ cls := "MoonLine$Queue", name := "asleepAhead", desc := "(LMoonLine$Crowd;I)I" } : Jvm.MethodName)) ∈ lw_g := mg2 232 rfl rfl
theorem w_555 : (Jvm.Cond.code ({ cls := "MoonLine$Queue", name := "asleepAhead", desc := "(LMoonLine$Crowd;I)I" } : Jvm.MethodName) prog_7_method_9_code (5 : Nat) (Option.some Jvm.ClassFile.FieldType.int)) ∈ lw_g := mg2 233 rfl rfl
theorem w_556 : (Jvm.Cond.methodLink "MoonLine$Queue" (51 : Nat) ({ cls := "MoonLine$Queue", name := "isAsleepAt", desc := "(LMoonLine$Crowd;I)Z" } : Jvm.MethodName)) ∈ lw_g := mg2 234 rfl rfl
theorem w_558 : (Jvm.Cond.instanceMethod ({ cls := "MoonLine$Queue", name := "isAsleepAt", desc := "(LMoonLine$Crowd;I)Z" } : Jvm.MethodName)) ∈ lw_g := mg2 236 rfl rfl
theorem w_559 : (Jvm.Cond.code ({ cls := "MoonLine$Queue", name := "isAsleepAt", desc := "(LMoonLine$Crowd;I)Z" } : Jvm.MethodName) prog_7_method_14_code (3 : Nat) (Option.some Jvm.ClassFile.FieldType.boolean)) ∈ lw_g := mg2 237 rfl rfl
theorem w_560 : (Jvm.Cond.methodLink "MoonLine$Queue" (55 : Nat) ({ cls := "MoonLine$Queue", name := "whoAt", desc := "(I)I" } : Jvm.MethodName)) ∈ lw_g := mg2 238 rfl rfl
theorem w_561 : (Jvm.Cond.instanceMethod ({ cls := "MoonLine$Queue", name := "whoAt", desc := "(I)I" } : Jvm.MethodName)) ∈ lw_g := mg2 239 rfl rfl
theorem ms3 {w : Cond} (h : w ∈ tables_1_3) : w ∈ lw_tbl := List.mem_append_right _ (List.mem_append_right _ (List.mem_append_right _ (List.mem_append_left _ h)))
theorem mg3 {w : Cond} (i : Nat) (h : (tables_1_3)[i]? = some w) (g : goodWord w = true) : w ∈ lw_g := List.mem_filter.mpr ⟨ms3 (List.mem_of_getElem? h), g⟩
theorem w_562 : (Jvm.Cond.selects "MoonLine$Queue" ({ cls := "MoonLine$Queue", name := "whoAt", desc := "(I)I" } : Jvm.MethodName) ({ cls := "MoonLine$Queue", name := "whoAt", desc := "(I)I" } : Jvm.MethodName)) ∈ lw_g := mg3 0 rfl rfl
theorem w_563 : (Jvm.Cond.code ({ cls := "MoonLine$Queue", name := "whoAt", desc := "(I)I" } : Jvm.MethodName) prog_7_method_4_code (2 : Nat) (Option.some Jvm.ClassFile.FieldType.int)) ∈ lw_g := mg3 1 rfl rfl
theorem w_564 : (Jvm.Cond.methodLink "MoonLine$Queue" (58 : Nat) ({ cls := "MoonLine$Crowd", name := "isAsleep", desc := "(II)Z" } : Jvm.MethodName)) ∈ lw_g := mg3 2 rfl rfl
theorem w_565 : (Jvm.Cond.instanceMethod ({ cls := "MoonLine$Crowd", name := "isAsleep", desc := "(II)Z" } : Jvm.MethodName)) ∈ lw_g := mg3 3 rfl rfl
theorem w_566 : (Jvm.Cond.selects "MoonLine$Crowd" ({ cls := "MoonLine$Crowd", name := "isAsleep", desc := "(II)Z" } : Jvm.MethodName) ({ cls := "MoonLine$Crowd", name := "isAsleep", desc := "(II)Z" } : Jvm.MethodName)) ∈ lw_g := mg3 4 rfl rfl
theorem w_567 : (Jvm.Cond.code ({ cls := "MoonLine$Crowd", name := "isAsleep", desc := "(II)Z" } : Jvm.MethodName) prog_3_method_5_code (3 : Nat) (Option.some Jvm.ClassFile.FieldType.boolean)) ∈ lw_g := mg3 5 rfl rfl
theorem w_568 : (Jvm.Cond.methodLink "MoonLine" (188 : Nat) ({ cls := "MoonLine$Queue", name := "awakeBehind", desc := "(LMoonLine$Crowd;I)I" } : Jvm.MethodName)) ∈ lw_g := mg3 6 rfl rfl
theorem w_569 : (Jvm.Cond.instanceMethod ({ cls := "MoonLine$Queue", name := "awakeBehind", desc := "(LMoonLine$Crowd;I)I" } : Jvm.MethodName)) ∈ lw_g := mg3 7 rfl rfl
theorem w_570 : (Jvm.Cond.selects "MoonLine$Queue" ({ cls := "MoonLine$Queue", name := "awakeBehind", desc := "(LMoonLine$Crowd;I)I" } : Jvm.MethodName) ({ cls := "MoonLine$Queue", name := "awakeBehind", desc := "(LMoonLine$Crowd;I)I" } : Jvm.MethodName)) ∈ lw_g := mg3 8 rfl rfl
theorem w_571 : (Jvm.Cond.code ({ cls := "MoonLine$Queue", name := "awakeBehind", desc := "(LMoonLine$Crowd;I)I" } : Jvm.MethodName) prog_7_method_10_code (5 : Nat) (Option.some Jvm.ClassFile.FieldType.int)) ∈ lw_g := mg3 9 rfl rfl
theorem w_572 : (Jvm.Cond.methodLink "MoonLine" (191 : Nat) ({ cls := "MoonLine$Queue", name := "firstAwakeFrom", desc := "(LMoonLine$Crowd;I)I" } : Jvm.MethodName)) ∈ lw_g := mg3 10 rfl rfl
theorem w_573 : (Jvm.Cond.instanceMethod ({ cls := "MoonLine$Queue", name := "firstAwakeFrom", desc := "(LMoonLine$Crowd;I)I" } : Jvm.MethodName)) ∈ lw_g := mg3 11 rfl rfl
theorem w_574 : (Jvm.Cond.selects "MoonLine$Queue" ({ cls := "MoonLine$Queue", name := "firstAwakeFrom", desc := "(LMoonLine$Crowd;I)I" } : Jvm.MethodName) ({ cls := "MoonLine$Queue", name := "firstAwakeFrom", desc := "(LMoonLine$Crowd;I)I" } : Jvm.MethodName)) ∈ lw_g := mg3 12 rfl rfl
theorem w_575 : (Jvm.Cond.code ({ cls := "MoonLine$Queue", name := "firstAwakeFrom", desc := "(LMoonLine$Crowd;I)I" } : Jvm.MethodName) prog_7_method_12_code (5 : Nat) (Option.some Jvm.ClassFile.FieldType.int)) ∈ lw_g := mg3 13 rfl rfl
theorem w_576 : (Jvm.Cond.methodLink "MoonLine" (194 : Nat) ({ cls := "MoonLine$Queue", name := "stepsOfRam", desc := "(LMoonLine$Crowd;I)I" } : Jvm.MethodName)) ∈ lw_g := mg3 14 rfl rfl
theorem w_577 : (Jvm.Cond.instanceMethod ({ cls := "MoonLine$Queue", name := "stepsOfRam", desc := "(LMoonLine$Crowd;I)I" } : Jvm.MethodName)) ∈ lw_g := mg3 15 rfl rfl
theorem w_578 : (Jvm.Cond.selects "MoonLine$Queue" ({ cls := "MoonLine$Queue", name := "stepsOfRam", desc := "(LMoonLine$Crowd;I)I" } : Jvm.MethodName) ({ cls := "MoonLine$Queue", name := "stepsOfRam", desc := "(LMoonLine$Crowd;I)I" } : Jvm.MethodName)) ∈ lw_g := mg3 16 rfl rfl
theorem w_579 : (Jvm.Cond.code ({ cls := "MoonLine$Queue", name := "stepsOfRam", desc := "(LMoonLine$Crowd;I)I" } : Jvm.MethodName) prog_7_method_11_code (3 : Nat) (Option.some Jvm.ClassFile.FieldType.int)) ∈ lw_g := mg3 17 rfl rfl
theorem w_580 : (Jvm.Cond.methodLink "MoonLineLaw" (65 : Nat) ({ cls := "MoonLine", name := "price", desc := "(II)I" } : Jvm.MethodName)) ∈ lw_g := mg3 18 rfl rfl
theorem w_581 : (Jvm.Cond.instanceMethod ({ cls := "MoonLine", name := "price", desc := "(II)I" } : Jvm.MethodName)) ∈ lw_g := mg3 19 rfl rfl
theorem w_582 : (Jvm.Cond.selects "MoonLine" ({ cls := "MoonLine", name := "price", desc := "(II)I" } : Jvm.MethodName) ({ cls := "MoonLine", name := "price", desc := "(II)I" } : Jvm.MethodName)) ∈ lw_g := mg3 20 rfl rfl
theorem w_583 : (Jvm.Cond.code ({ cls := "MoonLine", name := "price", desc := "(II)I" } : Jvm.MethodName) prog_1_method_14_code (4 : Nat) (Option.some Jvm.ClassFile.FieldType.int)) ∈ lw_g := mg3 21 rfl rfl
theorem w_584 : (Jvm.Cond.methodLink "MoonLineLaw" (69 : Nat) ({ cls := "MoonLine", name := "night", desc := "(I)I" } : Jvm.MethodName)) ∈ lw_g := mg3 22 rfl rfl
theorem w_585 : (Jvm.Cond.instanceMethod ({ cls := "MoonLine", name := "night", desc := "(I)I" } : Jvm.MethodName)) ∈ lw_g := mg3 23 rfl rfl
theorem w_586 : (Jvm.Cond.selects "MoonLine" ({ cls := "MoonLine", name := "night", desc := "(I)I" } : Jvm.MethodName) ({ cls := "MoonLine", name := "night", desc := "(I)I" } : Jvm.MethodName)) ∈ lw_g := mg3 24 rfl rfl
theorem w_587 : (Jvm.Cond.code ({ cls := "MoonLine", name := "night", desc := "(I)I" } : Jvm.MethodName) prog_1_method_15_code (2 : Nat) (Option.some Jvm.ClassFile.FieldType.int)) ∈ lw_g := mg3 25 rfl rfl
theorem w_588 : (Jvm.Cond.methodLink "MoonLine" (203 : Nat) ({ cls := "MoonLine$Deeds", name := "hasRoomFor", desc := "(I)Z" } : Jvm.MethodName)) ∈ lw_g := mg3 26 rfl rfl
theorem w_589 : (Jvm.Cond.instanceMethod ({ cls := "MoonLine$Deeds", name := "hasRoomFor", desc := "(I)Z" } : Jvm.MethodName)) ∈ lw_g := mg3 27 rfl rfl
theorem w_590 : (Jvm.Cond.selects "MoonLine$Deeds" ({ cls := "MoonLine$Deeds", name := "hasRoomFor", desc := "(I)Z" } : Jvm.MethodName) ({ cls := "MoonLine$Deeds", name := "hasRoomFor", desc := "(I)Z" } : Jvm.MethodName)) ∈ lw_g := mg3 28 rfl rfl
theorem w_591 : (Jvm.Cond.code ({ cls := "MoonLine$Deeds", name := "hasRoomFor", desc := "(I)Z" } : Jvm.MethodName) prog_4_method_2_code (2 : Nat) (Option.some Jvm.ClassFile.FieldType.boolean)) ∈ lw_g := mg3 29 rfl rfl
theorem w_592 : (Jvm.Cond.methodLink "MoonLine" (206 : Nat) ({ cls := "MoonLine", name := "passNight", desc := "(I)I" } : Jvm.MethodName)) ∈ lw_g := mg3 30 rfl rfl
theorem w_594 : (Jvm.Cond.instanceMethod ({ cls := "MoonLine", name := "passNight", desc := "(I)I" } : Jvm.MethodName)) ∈ lw_g := mg3 32 rfl rfl
theorem w_595 : (Jvm.Cond.code ({ cls := "MoonLine", name := "passNight", desc := "(I)I" } : Jvm.MethodName) prog_1_method_62_code (2 : Nat) (Option.some Jvm.ClassFile.FieldType.int)) ∈ lw_g := mg3 33 rfl rfl
theorem w_596 : (Jvm.Cond.methodLink "MoonLine" (209 : Nat) ({ cls := "MoonLine$Deeds", name := "add", desc := "(I)V" } : Jvm.MethodName)) ∈ lw_g := mg3 34 rfl rfl
theorem w_597 : (Jvm.Cond.instanceMethod ({ cls := "MoonLine$Deeds", name := "add", desc := "(I)V" } : Jvm.MethodName)) ∈ lw_g := mg3 35 rfl rfl
theorem w_598 : (Jvm.Cond.selects "MoonLine$Deeds" ({ cls := "MoonLine$Deeds", name := "add", desc := "(I)V" } : Jvm.MethodName) ({ cls := "MoonLine$Deeds", name := "add", desc := "(I)V" } : Jvm.MethodName)) ∈ lw_g := mg3 36 rfl rfl
theorem w_599 : (Jvm.Cond.code ({ cls := "MoonLine$Deeds", name := "add", desc := "(I)V" } : Jvm.MethodName) prog_4_method_3_code (2 : Nat) (Option.none : Option Jvm.ClassFile.FieldType)) ∈ lw_g := mg3 37 rfl rfl
theorem w_600 : (Jvm.Cond.methodLink "MoonLine" (228 : Nat) ({ cls := "MoonLine$Queue", name := "pass", desc := "(LMoonLine$Crowd;Z)I" } : Jvm.MethodName)) ∈ lw_g := mg3 38 rfl rfl
theorem w_601 : (Jvm.Cond.instanceMethod ({ cls := "MoonLine$Queue", name := "pass", desc := "(LMoonLine$Crowd;Z)I" } : Jvm.MethodName)) ∈ lw_g := mg3 39 rfl rfl
theorem w_602 : (Jvm.Cond.selects "MoonLine$Queue" ({ cls := "MoonLine$Queue", name := "pass", desc := "(LMoonLine$Crowd;Z)I" } : Jvm.MethodName) ({ cls := "MoonLine$Queue", name := "pass", desc := "(LMoonLine$Crowd;Z)I" } : Jvm.MethodName)) ∈ lw_g := mg3 40 rfl rfl
theorem w_603 : (Jvm.Cond.code ({ cls := "MoonLine$Queue", name := "pass", desc := "(LMoonLine$Crowd;Z)I" } : Jvm.MethodName) prog_7_method_13_code (4 : Nat) (Option.some Jvm.ClassFile.FieldType.int)) ∈ lw_g := mg3 41 rfl rfl
theorem w_604 : (Jvm.Cond.methodLink "MoonLine$Queue" (64 : Nat) ({ cls := "MoonLine$Queue", name := "pushAhead", desc := "(LMoonLine$Crowd;)V" } : Jvm.MethodName)) ∈ lw_g := mg3 42 rfl rfl
theorem w_606 : (Jvm.Cond.instanceMethod ({ cls := "MoonLine$Queue", name := "pushAhead", desc := "(LMoonLine$Crowd;)V" } : Jvm.MethodName)) ∈ lw_g := mg3 44 rfl rfl
theorem w_607 : (Jvm.Cond.code ({ cls := "MoonLine$Queue", name := "pushAhead", desc := "(LMoonLine$Crowd;)V" } : Jvm.MethodName) prog_7_method_15_code (4 : Nat) (Option.none : Option Jvm.ClassFile.FieldType)) ∈ lw_g := mg3 45 rfl rfl
theorem w_608 : (Jvm.Cond.methodLink "MoonLine$Queue" (80 : Nat) ({ cls := "MoonLine$Crowd", name := "isOf", desc := "(II)Z" } : Jvm.MethodName)) ∈ lw_g := mg3 46 rfl rfl
theorem w_609 : (Jvm.Cond.methodLink "MoonLine$Queue" (47 : Nat) ({ cls := "MoonLine$Queue", name := "swapPlaces", desc := "(II)V" } : Jvm.MethodName)) ∈ lw_g := mg3 47 rfl rfl
theorem w_610 : (Jvm.Cond.instanceMethod ({ cls := "MoonLine$Queue", name := "swapPlaces", desc := "(II)V" } : Jvm.MethodName)) ∈ lw_g := mg3 48 rfl rfl
theorem w_611 : (Jvm.Cond.selects "MoonLine$Queue" ({ cls := "MoonLine$Queue", name := "swapPlaces", desc := "(II)V" } : Jvm.MethodName) ({ cls := "MoonLine$Queue", name := "swapPlaces", desc := "(II)V" } : Jvm.MethodName)) ∈ lw_g := mg3 49 rfl rfl
theorem w_612 : (Jvm.Cond.code ({ cls := "MoonLine$Queue", name := "swapPlaces", desc := "(II)V" } : Jvm.MethodName) prog_7_method_7_code (4 : Nat) (Option.none : Option Jvm.ClassFile.FieldType)) ∈ lw_g := mg3 50 rfl rfl
theorem w_613 : (Jvm.Cond.methodLink "MoonLine$Queue" (68 : Nat) ({ cls := "MoonLine$Queue", name := "nextToGo", desc := "(LMoonLine$Crowd;)I" } : Jvm.MethodName)) ∈ lw_g := mg3 51 rfl rfl
theorem w_615 : (Jvm.Cond.instanceMethod ({ cls := "MoonLine$Queue", name := "nextToGo", desc := "(LMoonLine$Crowd;)I" } : Jvm.MethodName)) ∈ lw_g := mg3 53 rfl rfl
theorem w_616 : (Jvm.Cond.code ({ cls := "MoonLine$Queue", name := "nextToGo", desc := "(LMoonLine$Crowd;)I" } : Jvm.MethodName) prog_7_method_16_code (4 : Nat) (Option.some Jvm.ClassFile.FieldType.int)) ∈ lw_g := mg3 54 rfl rfl
theorem w_617 : (Jvm.Cond.methodLink "MoonLine$Queue" (83 : Nat) ({ cls := "MoonLine$Queue", name := "firstAwakeFrom", desc := "(LMoonLine$Crowd;I)I" } : Jvm.MethodName)) ∈ lw_g := mg3 55 rfl rfl
theorem w_618 : (Jvm.Cond.methodLink "MoonLine$Queue" (43 : Nat) ({ cls := "MoonLine$Queue", name := "placeOf", desc := "(I)I" } : Jvm.MethodName)) ∈ lw_g := mg3 56 rfl rfl
theorem w_619 : (Jvm.Cond.methodLink "MoonLine$Queue" (72 : Nat) ({ cls := "MoonLine$Crowd", name := "has", desc := "(I)Z" } : Jvm.MethodName)) ∈ lw_g := mg3 57 rfl rfl
theorem w_620 : (Jvm.Cond.methodLink "MoonLine$Queue" (76 : Nat) ({ cls := "MoonLine$Queue", name := "waitOneMore", desc := "(LMoonLine$Crowd;I)V" } : Jvm.MethodName)) ∈ lw_g := mg3 58 rfl rfl
theorem w_622 : (Jvm.Cond.instanceMethod ({ cls := "MoonLine$Queue", name := "waitOneMore", desc := "(LMoonLine$Crowd;I)V" } : Jvm.MethodName)) ∈ lw_g := mg3 60 rfl rfl
theorem w_623 : (Jvm.Cond.code ({ cls := "MoonLine$Queue", name := "waitOneMore", desc := "(LMoonLine$Crowd;I)V" } : Jvm.MethodName) prog_7_method_17_code (6 : Nat) (Option.none : Option Jvm.ClassFile.FieldType)) ∈ lw_g := mg3 61 rfl rfl
theorem w_624 : (Jvm.Cond.methodLink "MoonLineLaw" (73 : Nat) ({ cls := "MoonLine", name := "trade", desc := "(II)I" } : Jvm.MethodName)) ∈ lw_g := mg3 62 rfl rfl
theorem w_625 : (Jvm.Cond.instanceMethod ({ cls := "MoonLine", name := "trade", desc := "(II)I" } : Jvm.MethodName)) ∈ lw_g := mg3 63 rfl rfl
theorem w_626 : (Jvm.Cond.selects "MoonLine" ({ cls := "MoonLine", name := "trade", desc := "(II)I" } : Jvm.MethodName) ({ cls := "MoonLine", name := "trade", desc := "(II)I" } : Jvm.MethodName)) ∈ lw_g := mg3 64 rfl rfl
theorem w_627 : (Jvm.Cond.code ({ cls := "MoonLine", name := "trade", desc := "(II)I" } : Jvm.MethodName) prog_1_method_16_code (3 : Nat) (Option.some Jvm.ClassFile.FieldType.int)) ∈ lw_g := mg3 65 rfl rfl
theorem w_628 : (Jvm.Cond.methodLink "MoonLine" (212 : Nat) ({ cls := "MoonLine$Queue", name := "swapPersons", desc := "(II)V" } : Jvm.MethodName)) ∈ lw_g := mg3 66 rfl rfl
theorem w_629 : (Jvm.Cond.instanceMethod ({ cls := "MoonLine$Queue", name := "swapPersons", desc := "(II)V" } : Jvm.MethodName)) ∈ lw_g := mg3 67 rfl rfl
theorem w_630 : (Jvm.Cond.selects "MoonLine$Queue" ({ cls := "MoonLine$Queue", name := "swapPersons", desc := "(II)V" } : Jvm.MethodName) ({ cls := "MoonLine$Queue", name := "swapPersons", desc := "(II)V" } : Jvm.MethodName)) ∈ lw_g := mg3 68 rfl rfl
theorem w_631 : (Jvm.Cond.code ({ cls := "MoonLine$Queue", name := "swapPersons", desc := "(II)V" } : Jvm.MethodName) prog_7_method_8_code (3 : Nat) (Option.none : Option Jvm.ClassFile.FieldType)) ∈ lw_g := mg3 69 rfl rfl
theorem w_632 : (Jvm.Cond.methodLink "MoonLineLaw" (77 : Nat) ({ cls := "MoonLine", name := "undo", desc := "(I)I" } : Jvm.MethodName)) ∈ lw_g := mg3 70 rfl rfl
theorem w_633 : (Jvm.Cond.instanceMethod ({ cls := "MoonLine", name := "undo", desc := "(I)I" } : Jvm.MethodName)) ∈ lw_g := mg3 71 rfl rfl
theorem w_634 : (Jvm.Cond.selects "MoonLine" ({ cls := "MoonLine", name := "undo", desc := "(I)I" } : Jvm.MethodName) ({ cls := "MoonLine", name := "undo", desc := "(I)I" } : Jvm.MethodName)) ∈ lw_g := mg3 72 rfl rfl
theorem w_635 : (Jvm.Cond.code ({ cls := "MoonLine", name := "undo", desc := "(I)I" } : Jvm.MethodName) prog_1_method_17_code (3 : Nat) (Option.some Jvm.ClassFile.FieldType.int)) ∈ lw_g := mg3 73 rfl rfl
theorem w_636 : (Jvm.Cond.methodLink "MoonLine" (216 : Nat) ({ cls := "MoonLine", name := "doDeedsAnew", desc := "()V" } : Jvm.MethodName)) ∈ lw_g := mg3 74 rfl rfl
theorem w_638 : (Jvm.Cond.instanceMethod ({ cls := "MoonLine", name := "doDeedsAnew", desc := "()V" } : Jvm.MethodName)) ∈ lw_g := mg3 76 rfl rfl
theorem w_639 : (Jvm.Cond.code ({ cls := "MoonLine", name := "doDeedsAnew", desc := "()V" } : Jvm.MethodName) prog_1_method_63_code (4 : Nat) (Option.none : Option Jvm.ClassFile.FieldType)) ∈ lw_g := mg3 77 rfl rfl
theorem w_640 : (Jvm.Cond.methodLink "MoonLineLaw" (81 : Nat) ({ cls := "MoonLine", name := "keep", desc := "(I)I" } : Jvm.MethodName)) ∈ lw_g := mg3 78 rfl rfl
theorem w_641 : (Jvm.Cond.instanceMethod ({ cls := "MoonLine", name := "keep", desc := "(I)I" } : Jvm.MethodName)) ∈ lw_g := mg3 79 rfl rfl
theorem w_642 : (Jvm.Cond.selects "MoonLine" ({ cls := "MoonLine", name := "keep", desc := "(I)I" } : Jvm.MethodName) ({ cls := "MoonLine", name := "keep", desc := "(I)I" } : Jvm.MethodName)) ∈ lw_g := mg3 80 rfl rfl
theorem w_643 : (Jvm.Cond.code ({ cls := "MoonLine", name := "keep", desc := "(I)I" } : Jvm.MethodName) prog_1_method_18_code (2 : Nat) (Option.some Jvm.ClassFile.FieldType.int)) ∈ lw_g := mg3 81 rfl rfl
theorem w_644 : (Jvm.Cond.methodLink "MoonLine" (219 : Nat) ({ cls := "MoonLine", name := "isKeptPlace", desc := "(I)Z" } : Jvm.MethodName)) ∈ lw_g := mg3 82 rfl rfl
theorem w_645 : (Jvm.Cond.static ({ cls := "MoonLine", name := "isKeptPlace", desc := "(I)Z" } : Jvm.MethodName)) ∈ lw_g := mg3 83 rfl rfl
theorem w_646 : (Jvm.Cond.code ({ cls := "MoonLine", name := "isKeptPlace", desc := "(I)Z" } : Jvm.MethodName) prog_1_method_47_code (1 : Nat) (Option.some Jvm.ClassFile.FieldType.boolean)) ∈ lw_g := mg3 84 rfl rfl
theorem w_647 : (Jvm.Cond.methodLink "MoonLine" (222 : Nat) ({ cls := "MoonLine$Deeds", name := "setAs", desc := "(LMoonLine$Deeds;)V" } : Jvm.MethodName)) ∈ lw_g := mg3 85 rfl rfl
theorem w_648 : (Jvm.Cond.instanceMethod ({ cls := "MoonLine$Deeds", name := "setAs", desc := "(LMoonLine$Deeds;)V" } : Jvm.MethodName)) ∈ lw_g := mg3 86 rfl rfl
theorem w_649 : (Jvm.Cond.selects "MoonLine$Deeds" ({ cls := "MoonLine$Deeds", name := "setAs", desc := "(LMoonLine$Deeds;)V" } : Jvm.MethodName) ({ cls := "MoonLine$Deeds", name := "setAs", desc := "(LMoonLine$Deeds;)V" } : Jvm.MethodName)) ∈ lw_g := mg3 87 rfl rfl
theorem w_650 : (Jvm.Cond.code ({ cls := "MoonLine$Deeds", name := "setAs", desc := "(LMoonLine$Deeds;)V" } : Jvm.MethodName) prog_4_method_4_code (2 : Nat) (Option.none : Option Jvm.ClassFile.FieldType)) ∈ lw_g := mg3 88 rfl rfl
theorem w_651 : (Jvm.Cond.methodLink "MoonLine$Deeds" (19 : Nat) ({ cls := "java/lang/System", name := "arraycopy", desc := "(Ljava/lang/Object;ILjava/lang/Object;II)V" } : Jvm.MethodName)) ∈ lw_g := mg3 89 rfl rfl
theorem w_652 : (Jvm.Cond.methodLink "MoonLineLaw" (85 : Nat) ({ cls := "MoonLine", name := "on", desc := "(I)I" } : Jvm.MethodName)) ∈ lw_g := mg3 90 rfl rfl
theorem w_653 : (Jvm.Cond.instanceMethod ({ cls := "MoonLine", name := "on", desc := "(I)I" } : Jvm.MethodName)) ∈ lw_g := mg3 91 rfl rfl
theorem w_654 : (Jvm.Cond.selects "MoonLine" ({ cls := "MoonLine", name := "on", desc := "(I)I" } : Jvm.MethodName) ({ cls := "MoonLine", name := "on", desc := "(I)I" } : Jvm.MethodName)) ∈ lw_g := mg3 92 rfl rfl
theorem w_655 : (Jvm.Cond.code ({ cls := "MoonLine", name := "on", desc := "(I)I" } : Jvm.MethodName) prog_1_method_19_code (2 : Nat) (Option.some Jvm.ClassFile.FieldType.int)) ∈ lw_g := mg3 93 rfl rfl
theorem w_656 : (Jvm.Cond.methodLink "MoonLineLaw" (89 : Nat) ({ cls := "MoonLine", name := "tonight", desc := "()I" } : Jvm.MethodName)) ∈ lw_g := mg3 94 rfl rfl
theorem w_657 : (Jvm.Cond.instanceMethod ({ cls := "MoonLine", name := "tonight", desc := "()I" } : Jvm.MethodName)) ∈ lw_g := mg3 95 rfl rfl
theorem w_658 : (Jvm.Cond.selects "MoonLine" ({ cls := "MoonLine", name := "tonight", desc := "()I" } : Jvm.MethodName) ({ cls := "MoonLine", name := "tonight", desc := "()I" } : Jvm.MethodName)) ∈ lw_g := mg3 96 rfl rfl
theorem w_659 : (Jvm.Cond.code ({ cls := "MoonLine", name := "tonight", desc := "()I" } : Jvm.MethodName) prog_1_method_20_code (2 : Nat) (Option.some Jvm.ClassFile.FieldType.int)) ∈ lw_g := mg3 97 rfl rfl
theorem w_660 : (Jvm.Cond.methodLink "MoonLine" (225 : Nat) ({ cls := "MoonLine$Queue", name := "setAs", desc := "(LMoonLine$Queue;)V" } : Jvm.MethodName)) ∈ lw_g := mg3 98 rfl rfl
theorem w_661 : (Jvm.Cond.instanceMethod ({ cls := "MoonLine$Queue", name := "setAs", desc := "(LMoonLine$Queue;)V" } : Jvm.MethodName)) ∈ lw_g := mg3 99 rfl rfl
theorem w_662 : (Jvm.Cond.selects "MoonLine$Queue" ({ cls := "MoonLine$Queue", name := "setAs", desc := "(LMoonLine$Queue;)V" } : Jvm.MethodName) ({ cls := "MoonLine$Queue", name := "setAs", desc := "(LMoonLine$Queue;)V" } : Jvm.MethodName)) ∈ lw_g := mg3 100 rfl rfl
theorem w_663 : (Jvm.Cond.code ({ cls := "MoonLine$Queue", name := "setAs", desc := "(LMoonLine$Queue;)V" } : Jvm.MethodName) prog_7_method_3_code (2 : Nat) (Option.none : Option Jvm.ClassFile.FieldType)) ∈ lw_g := mg3 101 rfl rfl
theorem w_664 : (Jvm.Cond.methodLink "MoonLine$Queue" (37 : Nat) ({ cls := "java/lang/System", name := "arraycopy", desc := "(Ljava/lang/Object;ILjava/lang/Object;II)V" } : Jvm.MethodName)) ∈ lw_g := mg3 102 rfl rfl
theorem w_665 : (Jvm.Cond.methodLink "MoonLineLaw" (94 : Nat) ({ cls := "MoonLine", name := "turn", desc := "(II)I" } : Jvm.MethodName)) ∈ lw_g := mg3 103 rfl rfl
theorem w_666 : (Jvm.Cond.instanceMethod ({ cls := "MoonLine", name := "turn", desc := "(II)I" } : Jvm.MethodName)) ∈ lw_g := mg3 104 rfl rfl
theorem w_667 : (Jvm.Cond.selects "MoonLine" ({ cls := "MoonLine", name := "turn", desc := "(II)I" } : Jvm.MethodName) ({ cls := "MoonLine", name := "turn", desc := "(II)I" } : Jvm.MethodName)) ∈ lw_g := mg3 105 rfl rfl
theorem w_668 : (Jvm.Cond.code ({ cls := "MoonLine", name := "turn", desc := "(II)I" } : Jvm.MethodName) prog_1_method_21_code (6 : Nat) (Option.some Jvm.ClassFile.FieldType.int)) ∈ lw_g := mg3 106 rfl rfl
theorem w_669 : (Jvm.Cond.methodLink "MoonLine" (235 : Nat) ({ cls := "MoonLine", name := "wrongInNights", desc := "(LMoonLine$Row;)I" } : Jvm.MethodName)) ∈ lw_g := mg3 107 rfl rfl
theorem w_670 : (Jvm.Cond.static ({ cls := "MoonLine", name := "wrongInNights", desc := "(LMoonLine$Row;)I" } : Jvm.MethodName)) ∈ lw_g := mg3 108 rfl rfl
theorem w_671 : (Jvm.Cond.code ({ cls := "MoonLine", name := "wrongInNights", desc := "(LMoonLine$Row;)I" } : Jvm.MethodName) prog_1_method_64_code (2 : Nat) (Option.some Jvm.ClassFile.FieldType.int)) ∈ lw_g := mg3 109 rfl rfl
theorem w_672 : (Jvm.Cond.methodLink "MoonLineLaw" (98 : Nat) ({ cls := "MoonLine", name := "after", desc := "(I)I" } : Jvm.MethodName)) ∈ lw_g := mg3 110 rfl rfl
theorem w_673 : (Jvm.Cond.instanceMethod ({ cls := "MoonLine", name := "after", desc := "(I)I" } : Jvm.MethodName)) ∈ lw_g := mg3 111 rfl rfl
theorem w_674 : (Jvm.Cond.selects "MoonLine" ({ cls := "MoonLine", name := "after", desc := "(I)I" } : Jvm.MethodName) ({ cls := "MoonLine", name := "after", desc := "(I)I" } : Jvm.MethodName)) ∈ lw_g := mg3 112 rfl rfl
theorem w_675 : (Jvm.Cond.code ({ cls := "MoonLine", name := "after", desc := "(I)I" } : Jvm.MethodName) prog_1_method_22_code (5 : Nat) (Option.some Jvm.ClassFile.FieldType.int)) ∈ lw_g := mg3 113 rfl rfl
theorem w_676 : (Jvm.Cond.methodLink "MoonLine" (239 : Nat) ({ cls := "MoonLine$Queue", name := "standing", desc := "()I" } : Jvm.MethodName)) ∈ lw_g := mg3 114 rfl rfl
theorem w_677 : (Jvm.Cond.instanceMethod ({ cls := "MoonLine$Queue", name := "standing", desc := "()I" } : Jvm.MethodName)) ∈ lw_g := mg3 115 rfl rfl
theorem w_678 : (Jvm.Cond.selects "MoonLine$Queue" ({ cls := "MoonLine$Queue", name := "standing", desc := "()I" } : Jvm.MethodName) ({ cls := "MoonLine$Queue", name := "standing", desc := "()I" } : Jvm.MethodName)) ∈ lw_g := mg3 116 rfl rfl
theorem w_679 : (Jvm.Cond.code ({ cls := "MoonLine$Queue", name := "standing", desc := "()I" } : Jvm.MethodName) prog_7_method_6_code (3 : Nat) (Option.some Jvm.ClassFile.FieldType.int)) ∈ lw_g := mg3 117 rfl rfl
theorem w_680 : (Jvm.Cond.methodLink "MoonLineLaw" (102 : Nat) ({ cls := "MoonLine", name := "soonest", desc := "(II)I" } : Jvm.MethodName)) ∈ lw_g := mg3 118 rfl rfl
theorem w_681 : (Jvm.Cond.instanceMethod ({ cls := "MoonLine", name := "soonest", desc := "(II)I" } : Jvm.MethodName)) ∈ lw_g := mg3 119 rfl rfl
theorem w_682 : (Jvm.Cond.selects "MoonLine" ({ cls := "MoonLine", name := "soonest", desc := "(II)I" } : Jvm.MethodName) ({ cls := "MoonLine", name := "soonest", desc := "(II)I" } : Jvm.MethodName)) ∈ lw_g := mg3 120 rfl rfl
theorem w_683 : (Jvm.Cond.code ({ cls := "MoonLine", name := "soonest", desc := "(II)I" } : Jvm.MethodName) prog_1_method_23_code (3 : Nat) (Option.some Jvm.ClassFile.FieldType.int)) ∈ lw_g := mg3 121 rfl rfl
theorem w_684 : (Jvm.Cond.methodLink "MoonLine" (243 : Nat) ({ cls := "MoonLine$NightWalk", name := "begin", desc := "(LMoonLine$Crowd;LMoonLine$Queue;I)V" } : Jvm.MethodName)) ∈ lw_g := mg3 122 rfl rfl
theorem w_685 : (Jvm.Cond.instanceMethod ({ cls := "MoonLine$NightWalk", name := "begin", desc := "(LMoonLine$Crowd;LMoonLine$Queue;I)V" } : Jvm.MethodName)) ∈ lw_g := mg3 123 rfl rfl
theorem w_686 : (Jvm.Cond.selects "MoonLine$NightWalk" ({ cls := "MoonLine$NightWalk", name := "begin", desc := "(LMoonLine$Crowd;LMoonLine$Queue;I)V" } : Jvm.MethodName) ({ cls := "MoonLine$NightWalk", name := "begin", desc := "(LMoonLine$Crowd;LMoonLine$Queue;I)V" } : Jvm.MethodName)) ∈ lw_g := mg3 124 rfl rfl
theorem w_687 : (Jvm.Cond.code ({ cls := "MoonLine$NightWalk", name := "begin", desc := "(LMoonLine$Crowd;LMoonLine$Queue;I)V" } : Jvm.MethodName) prog_6_method_2_code (4 : Nat) (Option.none : Option Jvm.ClassFile.FieldType)) ∈ lw_g := mg3 125 rfl rfl
theorem w_688 : (Jvm.Cond.methodLink "MoonLine$NightWalk" (53 : Nat) ({ cls := "java/lang/Math", name := "min", desc := "(II)I" } : Jvm.MethodName)) ∈ lw_g := mg3 126 rfl rfl
theorem w_689 : (Jvm.Cond.methodLink "MoonLine$NightWalk" (59 : Nat) ({ cls := "MoonLine$Queue", name := "setAs", desc := "(LMoonLine$Queue;)V" } : Jvm.MethodName)) ∈ lw_g := mg3 127 rfl rfl
theorem w_690 : (Jvm.Cond.methodLink "MoonLine" (247 : Nat) ({ cls := "MoonLine$NightWalk", name := "waitFor", desc := "(III)V" } : Jvm.MethodName)) ∈ lw_g := mg3 128 rfl rfl
theorem w_691 : (Jvm.Cond.instanceMethod ({ cls := "MoonLine$NightWalk", name := "waitFor", desc := "(III)V" } : Jvm.MethodName)) ∈ lw_g := mg3 129 rfl rfl
theorem w_692 : (Jvm.Cond.selects "MoonLine$NightWalk" ({ cls := "MoonLine$NightWalk", name := "waitFor", desc := "(III)V" } : Jvm.MethodName) ({ cls := "MoonLine$NightWalk", name := "waitFor", desc := "(III)V" } : Jvm.MethodName)) ∈ lw_g := mg3 130 rfl rfl
theorem w_693 : (Jvm.Cond.code ({ cls := "MoonLine$NightWalk", name := "waitFor", desc := "(III)V" } : Jvm.MethodName) prog_6_method_3_code (5 : Nat) (Option.none : Option Jvm.ClassFile.FieldType)) ∈ lw_g := mg3 131 rfl rfl
theorem w_694 : (Jvm.Cond.methodLink "MoonLine" (251 : Nat) ({ cls := "MoonLine$NightWalk", name := "ways", desc := "()J" } : Jvm.MethodName)) ∈ lw_g := mg3 132 rfl rfl
theorem w_695 : (Jvm.Cond.instanceMethod ({ cls := "MoonLine$NightWalk", name := "ways", desc := "()J" } : Jvm.MethodName)) ∈ lw_g := mg3 133 rfl rfl
theorem w_696 : (Jvm.Cond.selects "MoonLine$NightWalk" ({ cls := "MoonLine$NightWalk", name := "ways", desc := "()J" } : Jvm.MethodName) ({ cls := "MoonLine$NightWalk", name := "ways", desc := "()J" } : Jvm.MethodName)) ∈ lw_g := mg3 134 rfl rfl
theorem w_697 : (Jvm.Cond.code ({ cls := "MoonLine$NightWalk", name := "ways", desc := "()J" } : Jvm.MethodName) prog_6_method_5_code (1 : Nat) (Option.some Jvm.ClassFile.FieldType.long)) ∈ lw_g := mg3 135 rfl rfl
theorem w_698 : (Jvm.Cond.methodLink "MoonLine$NightWalk" (63 : Nat) ({ cls := "MoonLine$NightWalk", name := "waysFrom", desc := "(I)J" } : Jvm.MethodName)) ∈ lw_g := mg3 136 rfl rfl
theorem w_700 : (Jvm.Cond.instanceMethod ({ cls := "MoonLine$NightWalk", name := "waysFrom", desc := "(I)J" } : Jvm.MethodName)) ∈ lw_g := mg3 138 rfl rfl
theorem w_701 : (Jvm.Cond.code ({ cls := "MoonLine$NightWalk", name := "waysFrom", desc := "(I)J" } : Jvm.MethodName) prog_6_method_6_code (2 : Nat) (Option.some Jvm.ClassFile.FieldType.long)) ∈ lw_g := mg3 139 rfl rfl
theorem w_702 : (Jvm.Cond.methodLink "MoonLine$NightWalk" (67 : Nat) ({ cls := "MoonLine$NightWalk", name := "waysBy", desc := "(IZI)J" } : Jvm.MethodName)) ∈ lw_g := mg3 140 rfl rfl
theorem w_704 : (Jvm.Cond.instanceMethod ({ cls := "MoonLine$NightWalk", name := "waysBy", desc := "(IZI)J" } : Jvm.MethodName)) ∈ lw_g := mg3 142 rfl rfl
theorem w_705 : (Jvm.Cond.code ({ cls := "MoonLine$NightWalk", name := "waysBy", desc := "(IZI)J" } : Jvm.MethodName) prog_6_method_7_code (8 : Nat) (Option.some Jvm.ClassFile.FieldType.long)) ∈ lw_g := mg3 143 rfl rfl
theorem w_706 : (Jvm.Cond.methodLink "MoonLine$NightWalk" (71 : Nat) ({ cls := "MoonLine$Queue", name := "pass", desc := "(LMoonLine$Crowd;Z)I" } : Jvm.MethodName)) ∈ lw_g := mg3 144 rfl rfl
theorem w_707 : (Jvm.Cond.methodLink "MoonLine$NightWalk" (75 : Nat) ({ cls := "MoonLine$NightWalk", name := "allWays", desc := "(I)J" } : Jvm.MethodName)) ∈ lw_g := mg3 145 rfl rfl
theorem w_708 : (Jvm.Cond.instanceMethod ({ cls := "MoonLine$NightWalk", name := "allWays", desc := "(I)J" } : Jvm.MethodName)) ∈ lw_g := mg3 146 rfl rfl
theorem w_709 : (Jvm.Cond.selects "MoonLine$NightWalk" ({ cls := "MoonLine$NightWalk", name := "allWays", desc := "(I)J" } : Jvm.MethodName) ({ cls := "MoonLine$NightWalk", name := "allWays", desc := "(I)J" } : Jvm.MethodName)) ∈ lw_g := mg3 147 rfl rfl
theorem w_710 : (Jvm.Cond.code ({ cls := "MoonLine$NightWalk", name := "allWays", desc := "(I)J" } : Jvm.MethodName) prog_6_method_4_code (2 : Nat) (Option.some Jvm.ClassFile.FieldType.long)) ∈ lw_g := mg3 148 rfl rfl
theorem w_711 : (Jvm.Cond.methodLink "MoonLine$NightWalk" (78 : Nat) ({ cls := "MoonLine$NightWalk", name := "isToGo", desc := "(LMoonLine$Queue;)Z" } : Jvm.MethodName)) ∈ lw_g := mg3 149 rfl rfl
theorem w_713 : (Jvm.Cond.instanceMethod ({ cls := "MoonLine$NightWalk", name := "isToGo", desc := "(LMoonLine$Queue;)Z" } : Jvm.MethodName)) ∈ lw_g := mg3 151 rfl rfl
theorem w_714 : (Jvm.Cond.code ({ cls := "MoonLine$NightWalk", name := "isToGo", desc := "(LMoonLine$Queue;)Z" } : Jvm.MethodName) prog_6_method_8_code (2 : Nat) (Option.some Jvm.ClassFile.FieldType.boolean)) ∈ lw_g := mg3 152 rfl rfl
theorem w_715 : (Jvm.Cond.methodLink "MoonLine$NightWalk" (85 : Nat) ({ cls := "MoonLine$Queue", name := "placeOf", desc := "(I)I" } : Jvm.MethodName)) ∈ lw_g := mg3 153 rfl rfl
theorem w_716 : (Jvm.Cond.methodLink "MoonLineLaw" (106 : Nat) ({ cls := "MoonLine", name := "rows", desc := "(II)I" } : Jvm.MethodName)) ∈ lw_g := mg3 154 rfl rfl
theorem w_717 : (Jvm.Cond.instanceMethod ({ cls := "MoonLine", name := "rows", desc := "(II)I" } : Jvm.MethodName)) ∈ lw_g := mg3 155 rfl rfl
theorem w_718 : (Jvm.Cond.selects "MoonLine" ({ cls := "MoonLine", name := "rows", desc := "(II)I" } : Jvm.MethodName) ({ cls := "MoonLine", name := "rows", desc := "(II)I" } : Jvm.MethodName)) ∈ lw_g := mg3 156 rfl rfl
theorem w_719 : (Jvm.Cond.code ({ cls := "MoonLine", name := "rows", desc := "(II)I" } : Jvm.MethodName) prog_1_method_24_code (3 : Nat) (Option.some Jvm.ClassFile.FieldType.int)) ∈ lw_g := mg3 157 rfl rfl
theorem w_720 : (Jvm.Cond.methodLink "MoonLineLaw" (110 : Nat) ({ cls := "MoonLine", name := "odds", desc := "(III)I" } : Jvm.MethodName)) ∈ lw_g := mg3 158 rfl rfl
theorem w_721 : (Jvm.Cond.instanceMethod ({ cls := "MoonLine", name := "odds", desc := "(III)I" } : Jvm.MethodName)) ∈ lw_g := mg3 159 rfl rfl
theorem w_722 : (Jvm.Cond.selects "MoonLine" ({ cls := "MoonLine", name := "odds", desc := "(III)I" } : Jvm.MethodName) ({ cls := "MoonLine", name := "odds", desc := "(III)I" } : Jvm.MethodName)) ∈ lw_g := mg3 160 rfl rfl
theorem w_723 : (Jvm.Cond.code ({ cls := "MoonLine", name := "odds", desc := "(III)I" } : Jvm.MethodName) prog_1_method_25_code (4 : Nat) (Option.some Jvm.ClassFile.FieldType.int)) ∈ lw_g := mg3 161 rfl rfl
theorem w_724 : (Jvm.Cond.methodLink "MoonLine" (257 : Nat) ({ cls := "MoonLine", name := "isChance", desc := "(I)Z" } : Jvm.MethodName)) ∈ lw_g := mg3 162 rfl rfl
theorem w_725 : (Jvm.Cond.static ({ cls := "MoonLine", name := "isChance", desc := "(I)Z" } : Jvm.MethodName)) ∈ lw_g := mg3 163 rfl rfl
theorem w_726 : (Jvm.Cond.code ({ cls := "MoonLine", name := "isChance", desc := "(I)Z" } : Jvm.MethodName) prog_1_method_48_code (1 : Nat) (Option.some Jvm.ClassFile.FieldType.boolean)) ∈ lw_g := mg3 164 rfl rfl
theorem w_727 : (Jvm.Cond.methodLink "MoonLine" (260 : Nat) ({ cls := "MoonLine$NightWalk", name := "allWays", desc := "(I)J" } : Jvm.MethodName)) ∈ lw_g := mg3 165 rfl rfl
theorem w_728 : (Jvm.Cond.methodLink "MoonLine" (264 : Nat) ({ cls := "MoonLine", name := "tellChance", desc := "(JJ)V" } : Jvm.MethodName)) ∈ lw_g := mg3 166 rfl rfl
theorem w_730 : (Jvm.Cond.instanceMethod ({ cls := "MoonLine", name := "tellChance", desc := "(JJ)V" } : Jvm.MethodName)) ∈ lw_g := mg3 168 rfl rfl
theorem w_731 : (Jvm.Cond.code ({ cls := "MoonLine", name := "tellChance", desc := "(JJ)V" } : Jvm.MethodName) prog_1_method_55_code (7 : Nat) (Option.none : Option Jvm.ClassFile.FieldType)) ∈ lw_g := mg3 169 rfl rfl
theorem w_732 : (Jvm.Cond.methodLink "MoonLine" (363 : Nat) ({ cls := "MoonLine", name := "commonDivisor", desc := "(JJ)J" } : Jvm.MethodName)) ∈ lw_g := mg3 170 rfl rfl
theorem w_733 : (Jvm.Cond.static ({ cls := "MoonLine", name := "commonDivisor", desc := "(JJ)J" } : Jvm.MethodName)) ∈ lw_g := mg3 171 rfl rfl
theorem w_734 : (Jvm.Cond.code ({ cls := "MoonLine", name := "commonDivisor", desc := "(JJ)J" } : Jvm.MethodName) prog_1_method_56_code (11 : Nat) (Option.some Jvm.ClassFile.FieldType.long)) ∈ lw_g := mg3 172 rfl rfl
theorem w_735 : (Jvm.Cond.methodLink "MoonLineLaw" (114 : Nat) ({ cls := "MoonLine", name := "mid", desc := "(II)I" } : Jvm.MethodName)) ∈ lw_g := mg3 173 rfl rfl
theorem w_736 : (Jvm.Cond.instanceMethod ({ cls := "MoonLine", name := "mid", desc := "(II)I" } : Jvm.MethodName)) ∈ lw_g := mg3 174 rfl rfl
theorem w_737 : (Jvm.Cond.selects "MoonLine" ({ cls := "MoonLine", name := "mid", desc := "(II)I" } : Jvm.MethodName) ({ cls := "MoonLine", name := "mid", desc := "(II)I" } : Jvm.MethodName)) ∈ lw_g := mg3 175 rfl rfl
theorem w_738 : (Jvm.Cond.code ({ cls := "MoonLine", name := "mid", desc := "(II)I" } : Jvm.MethodName) prog_1_method_26_code (3 : Nat) (Option.some Jvm.ClassFile.FieldType.int)) ∈ lw_g := mg3 176 rfl rfl
theorem w_739 : (Jvm.Cond.methodLink "MoonLineLaw" (118 : Nat) ({ cls := "MoonLine", name := "push", desc := "(III)I" } : Jvm.MethodName)) ∈ lw_g := mg3 177 rfl rfl
theorem w_740 : (Jvm.Cond.instanceMethod ({ cls := "MoonLine", name := "push", desc := "(III)I" } : Jvm.MethodName)) ∈ lw_g := mg3 178 rfl rfl
theorem w_741 : (Jvm.Cond.selects "MoonLine" ({ cls := "MoonLine", name := "push", desc := "(III)I" } : Jvm.MethodName) ({ cls := "MoonLine", name := "push", desc := "(III)I" } : Jvm.MethodName)) ∈ lw_g := mg3 179 rfl rfl
theorem w_742 : (Jvm.Cond.code ({ cls := "MoonLine", name := "push", desc := "(III)I" } : Jvm.MethodName) prog_1_method_27_code (7 : Nat) (Option.some Jvm.ClassFile.FieldType.int)) ∈ lw_g := mg3 180 rfl rfl
theorem w_743 : (Jvm.Cond.methodLink "MoonLine" (268 : Nat) ({ cls := "MoonLine", name := "isTradeNights", desc := "(I)Z" } : Jvm.MethodName)) ∈ lw_g := mg3 181 rfl rfl
theorem w_744 : (Jvm.Cond.static ({ cls := "MoonLine", name := "isTradeNights", desc := "(I)Z" } : Jvm.MethodName)) ∈ lw_g := mg3 182 rfl rfl
theorem w_745 : (Jvm.Cond.code ({ cls := "MoonLine", name := "isTradeNights", desc := "(I)Z" } : Jvm.MethodName) prog_1_method_49_code (1 : Nat) (Option.some Jvm.ClassFile.FieldType.boolean)) ∈ lw_g := mg3 183 rfl rfl
theorem w_746 : (Jvm.Cond.methodLink "MoonLine" (271 : Nat) ({ cls := "MoonLine$TradeSearch", name := "begin", desc := "(LMoonLine$Crowd;LMoonLine$Queue;I)V" } : Jvm.MethodName)) ∈ lw_g := mg3 184 rfl rfl
theorem w_747 : (Jvm.Cond.instanceMethod ({ cls := "MoonLine$TradeSearch", name := "begin", desc := "(LMoonLine$Crowd;LMoonLine$Queue;I)V" } : Jvm.MethodName)) ∈ lw_g := mg3 185 rfl rfl
theorem w_748 : (Jvm.Cond.selects "MoonLine$TradeSearch" ({ cls := "MoonLine$TradeSearch", name := "begin", desc := "(LMoonLine$Crowd;LMoonLine$Queue;I)V" } : Jvm.MethodName) ({ cls := "MoonLine$TradeSearch", name := "begin", desc := "(LMoonLine$Crowd;LMoonLine$Queue;I)V" } : Jvm.MethodName)) ∈ lw_g := mg3 186 rfl rfl
theorem w_749 : (Jvm.Cond.code ({ cls := "MoonLine$TradeSearch", name := "begin", desc := "(LMoonLine$Crowd;LMoonLine$Queue;I)V" } : Jvm.MethodName) prog_10_method_2_code (4 : Nat) (Option.none : Option Jvm.ClassFile.FieldType)) ∈ lw_g := mg3 187 rfl rfl
theorem w_750 : (Jvm.Cond.methodLink "MoonLine$TradeSearch" (43 : Nat) ({ cls := "java/lang/Math", name := "min", desc := "(II)I" } : Jvm.MethodName)) ∈ lw_g := mg3 188 rfl rfl
theorem w_751 : (Jvm.Cond.methodLink "MoonLine$TradeSearch" (49 : Nat) ({ cls := "MoonLine$Queue", name := "setAs", desc := "(LMoonLine$Queue;)V" } : Jvm.MethodName)) ∈ lw_g := mg3 189 rfl rfl
theorem w_752 : (Jvm.Cond.methodLink "MoonLine" (272 : Nat) ({ cls := "MoonLine$TradeSearch", name := "seek", desc := "(II)V" } : Jvm.MethodName)) ∈ lw_g := mg3 190 rfl rfl
theorem w_753 : (Jvm.Cond.instanceMethod ({ cls := "MoonLine$TradeSearch", name := "seek", desc := "(II)V" } : Jvm.MethodName)) ∈ lw_g := mg3 191 rfl rfl
theorem w_754 : (Jvm.Cond.selects "MoonLine$TradeSearch" ({ cls := "MoonLine$TradeSearch", name := "seek", desc := "(II)V" } : Jvm.MethodName) ({ cls := "MoonLine$TradeSearch", name := "seek", desc := "(II)V" } : Jvm.MethodName)) ∈ lw_g := mg3 192 rfl rfl
theorem w_755 : (Jvm.Cond.code ({ cls := "MoonLine$TradeSearch", name := "seek", desc := "(II)V" } : Jvm.MethodName) prog_10_method_3_code (3 : Nat) (Option.none : Option Jvm.ClassFile.FieldType)) ∈ lw_g := mg3 193 rfl rfl
theorem w_756 : (Jvm.Cond.methodLink "MoonLine" (275 : Nat) ({ cls := "MoonLine$TradeSearch", name := "fewestTrades", desc := "()I" } : Jvm.MethodName)) ∈ lw_g := mg3 194 rfl rfl
theorem w_757 : (Jvm.Cond.instanceMethod ({ cls := "MoonLine$TradeSearch", name := "fewestTrades", desc := "()I" } : Jvm.MethodName)) ∈ lw_g := mg3 195 rfl rfl
theorem w_758 : (Jvm.Cond.selects "MoonLine$TradeSearch" ({ cls := "MoonLine$TradeSearch", name := "fewestTrades", desc := "()I" } : Jvm.MethodName) ({ cls := "MoonLine$TradeSearch", name := "fewestTrades", desc := "()I" } : Jvm.MethodName)) ∈ lw_g := mg3 196 rfl rfl
theorem w_759 : (Jvm.Cond.code ({ cls := "MoonLine$TradeSearch", name := "fewestTrades", desc := "()I" } : Jvm.MethodName) prog_10_method_4_code (2 : Nat) (Option.some Jvm.ClassFile.FieldType.int)) ∈ lw_g := mg3 197 rfl rfl
theorem w_760 : (Jvm.Cond.methodLink "MoonLine$TradeSearch" (53 : Nat) ({ cls := "MoonLine$TradeSearch", name := "isReachedBy", desc := "(II)Z" } : Jvm.MethodName)) ∈ lw_g := mg3 198 rfl rfl
theorem w_762 : (Jvm.Cond.instanceMethod ({ cls := "MoonLine$TradeSearch", name := "isReachedBy", desc := "(II)Z" } : Jvm.MethodName)) ∈ lw_g := mg3 200 rfl rfl
theorem w_763 : (Jvm.Cond.code ({ cls := "MoonLine$TradeSearch", name := "isReachedBy", desc := "(II)Z" } : Jvm.MethodName) prog_10_method_5_code (4 : Nat) (Option.some Jvm.ClassFile.FieldType.boolean)) ∈ lw_g := mg3 201 rfl rfl
theorem w_764 : (Jvm.Cond.methodLink "MoonLine$TradeSearch" (57 : Nat) ({ cls := "MoonLine$TradeSearch", name := "isReached", desc := "(LMoonLine$Queue;)Z" } : Jvm.MethodName)) ∈ lw_g := mg3 202 rfl rfl
theorem w_766 : (Jvm.Cond.instanceMethod ({ cls := "MoonLine$TradeSearch", name := "isReached", desc := "(LMoonLine$Queue;)Z" } : Jvm.MethodName)) ∈ lw_g := mg3 204 rfl rfl
theorem w_767 : (Jvm.Cond.code ({ cls := "MoonLine$TradeSearch", name := "isReached", desc := "(LMoonLine$Queue;)Z" } : Jvm.MethodName) prog_10_method_9_code (5 : Nat) (Option.some Jvm.ClassFile.FieldType.boolean)) ∈ lw_g := mg3 205 rfl rfl
theorem w_768 : (Jvm.Cond.methodLink "MoonLine$TradeSearch" (82 : Nat) ({ cls := "MoonLine$Queue", name := "pass", desc := "(LMoonLine$Crowd;Z)I" } : Jvm.MethodName)) ∈ lw_g := mg3 206 rfl rfl
theorem w_769 : (Jvm.Cond.methodLink "MoonLine$TradeSearch" (64 : Nat) ({ cls := "MoonLine$TradeSearch", name := "tradeAt", desc := "(II)V" } : Jvm.MethodName)) ∈ lw_g := mg3 207 rfl rfl
theorem w_771 : (Jvm.Cond.instanceMethod ({ cls := "MoonLine$TradeSearch", name := "tradeAt", desc := "(II)V" } : Jvm.MethodName)) ∈ lw_g := mg3 209 rfl rfl
theorem w_772 : (Jvm.Cond.code ({ cls := "MoonLine$TradeSearch", name := "tradeAt", desc := "(II)V" } : Jvm.MethodName) prog_10_method_8_code (3 : Nat) (Option.none : Option Jvm.ClassFile.FieldType)) ∈ lw_g := mg3 210 rfl rfl
theorem w_773 : (Jvm.Cond.methodLink "MoonLine$TradeSearch" (79 : Nat) ({ cls := "MoonLine$Queue", name := "swapPlaces", desc := "(II)V" } : Jvm.MethodName)) ∈ lw_g := mg3 211 rfl rfl
theorem w_774 : (Jvm.Cond.methodLink "MoonLineLaw" (122 : Nat) ({ cls := "MoonLine", name := "pair", desc := "(III)I" } : Jvm.MethodName)) ∈ lw_g := mg3 212 rfl rfl
theorem w_775 : (Jvm.Cond.instanceMethod ({ cls := "MoonLine", name := "pair", desc := "(III)I" } : Jvm.MethodName)) ∈ lw_g := mg3 213 rfl rfl
theorem w_776 : (Jvm.Cond.selects "MoonLine" ({ cls := "MoonLine", name := "pair", desc := "(III)I" } : Jvm.MethodName) ({ cls := "MoonLine", name := "pair", desc := "(III)I" } : Jvm.MethodName)) ∈ lw_g := mg3 214 rfl rfl
theorem w_777 : (Jvm.Cond.code ({ cls := "MoonLine", name := "pair", desc := "(III)I" } : Jvm.MethodName) prog_1_method_28_code (4 : Nat) (Option.some Jvm.ClassFile.FieldType.int)) ∈ lw_g := mg3 215 rfl rfl
theorem w_778 : (Jvm.Cond.methodLink "MoonLineLaw" (126 : Nat) ({ cls := "MoonLine", name := "cheap", desc := "(II)I" } : Jvm.MethodName)) ∈ lw_g := mg3 216 rfl rfl
theorem w_779 : (Jvm.Cond.instanceMethod ({ cls := "MoonLine", name := "cheap", desc := "(II)I" } : Jvm.MethodName)) ∈ lw_g := mg3 217 rfl rfl
theorem w_780 : (Jvm.Cond.selects "MoonLine" ({ cls := "MoonLine", name := "cheap", desc := "(II)I" } : Jvm.MethodName) ({ cls := "MoonLine", name := "cheap", desc := "(II)I" } : Jvm.MethodName)) ∈ lw_g := mg3 218 rfl rfl
theorem w_781 : (Jvm.Cond.code ({ cls := "MoonLine", name := "cheap", desc := "(II)I" } : Jvm.MethodName) prog_1_method_29_code (3 : Nat) (Option.some Jvm.ClassFile.FieldType.int)) ∈ lw_g := mg3 219 rfl rfl
theorem w_782 : (Jvm.Cond.methodLink "MoonLine" (281 : Nat) ({ cls := "MoonLine$TradeSearch", name := "leastPrice", desc := "()I" } : Jvm.MethodName)) ∈ lw_g := mg3 220 rfl rfl
theorem w_783 : (Jvm.Cond.instanceMethod ({ cls := "MoonLine$TradeSearch", name := "leastPrice", desc := "()I" } : Jvm.MethodName)) ∈ lw_g := mg3 221 rfl rfl
theorem w_784 : (Jvm.Cond.selects "MoonLine$TradeSearch" ({ cls := "MoonLine$TradeSearch", name := "leastPrice", desc := "()I" } : Jvm.MethodName) ({ cls := "MoonLine$TradeSearch", name := "leastPrice", desc := "()I" } : Jvm.MethodName)) ∈ lw_g := mg3 222 rfl rfl
theorem w_785 : (Jvm.Cond.code ({ cls := "MoonLine$TradeSearch", name := "leastPrice", desc := "()I" } : Jvm.MethodName) prog_10_method_6_code (1 : Nat) (Option.some Jvm.ClassFile.FieldType.int)) ∈ lw_g := mg3 223 rfl rfl
theorem w_786 : (Jvm.Cond.methodLink "MoonLine$TradeSearch" (68 : Nat) ({ cls := "MoonLine$TradeSearch", name := "lookForCheaper", desc := "(II)V" } : Jvm.MethodName)) ∈ lw_g := mg3 224 rfl rfl
theorem w_788 : (Jvm.Cond.instanceMethod ({ cls := "MoonLine$TradeSearch", name := "lookForCheaper", desc := "(II)V" } : Jvm.MethodName)) ∈ lw_g := mg3 226 rfl rfl
theorem w_789 : (Jvm.Cond.code ({ cls := "MoonLine$TradeSearch", name := "lookForCheaper", desc := "(II)V" } : Jvm.MethodName) prog_10_method_7_code (6 : Nat) (Option.none : Option Jvm.ClassFile.FieldType)) ∈ lw_g := mg3 227 rfl rfl
theorem w_790 : (Jvm.Cond.methodLink "MoonLineLaw" (130 : Nat) ({ cls := "MoonLine", name := "game", desc := "(II)I" } : Jvm.MethodName)) ∈ lw_g := mg3 228 rfl rfl
theorem w_791 : (Jvm.Cond.instanceMethod ({ cls := "MoonLine", name := "game", desc := "(II)I" } : Jvm.MethodName)) ∈ lw_g := mg3 229 rfl rfl
theorem w_792 : (Jvm.Cond.selects "MoonLine" ({ cls := "MoonLine", name := "game", desc := "(II)I" } : Jvm.MethodName) ({ cls := "MoonLine", name := "game", desc := "(II)I" } : Jvm.MethodName)) ∈ lw_g := mg3 230 rfl rfl
theorem w_793 : (Jvm.Cond.code ({ cls := "MoonLine", name := "game", desc := "(II)I" } : Jvm.MethodName) prog_1_method_30_code (3 : Nat) (Option.some Jvm.ClassFile.FieldType.int)) ∈ lw_g := mg3 231 rfl rfl
theorem w_794 : (Jvm.Cond.methodLink "MoonLine" (284 : Nat) ({ cls := "MoonLine$CloudGame", name := "begin", desc := "(LMoonLine$Crowd;LMoonLine$Queue;II)V" } : Jvm.MethodName)) ∈ lw_g := mg3 232 rfl rfl
theorem w_795 : (Jvm.Cond.instanceMethod ({ cls := "MoonLine$CloudGame", name := "begin", desc := "(LMoonLine$Crowd;LMoonLine$Queue;II)V" } : Jvm.MethodName)) ∈ lw_g := mg3 233 rfl rfl
theorem w_796 : (Jvm.Cond.selects "MoonLine$CloudGame" ({ cls := "MoonLine$CloudGame", name := "begin", desc := "(LMoonLine$Crowd;LMoonLine$Queue;II)V" } : Jvm.MethodName) ({ cls := "MoonLine$CloudGame", name := "begin", desc := "(LMoonLine$Crowd;LMoonLine$Queue;II)V" } : Jvm.MethodName)) ∈ lw_g := mg3 234 rfl rfl
theorem w_797 : (Jvm.Cond.code ({ cls := "MoonLine$CloudGame", name := "begin", desc := "(LMoonLine$Crowd;LMoonLine$Queue;II)V" } : Jvm.MethodName) prog_2_method_2_code (5 : Nat) (Option.none : Option Jvm.ClassFile.FieldType)) ∈ lw_g := mg3 235 rfl rfl
theorem w_798 : (Jvm.Cond.methodLink "MoonLine$CloudGame" (29 : Nat) ({ cls := "java/lang/Math", name := "min", desc := "(II)I" } : Jvm.MethodName)) ∈ lw_g := mg3 236 rfl rfl
theorem w_799 : (Jvm.Cond.methodLink "MoonLine$CloudGame" (35 : Nat) ({ cls := "MoonLine$Queue", name := "setAs", desc := "(LMoonLine$Queue;)V" } : Jvm.MethodName)) ∈ lw_g := mg3 237 rfl rfl
theorem w_800 : (Jvm.Cond.methodLink "MoonLine" (287 : Nat) ({ cls := "MoonLine$CloudGame", name := "isWon", desc := "()Z" } : Jvm.MethodName)) ∈ lw_g := mg3 238 rfl rfl
theorem w_801 : (Jvm.Cond.instanceMethod ({ cls := "MoonLine$CloudGame", name := "isWon", desc := "()Z" } : Jvm.MethodName)) ∈ lw_g := mg3 239 rfl rfl
theorem ms4 {w : Cond} (h : w ∈ tables_1_4) : w ∈ lw_tbl := List.mem_append_right _ (List.mem_append_right _ (List.mem_append_right _ (List.mem_append_right _ (List.mem_append_left _ h))))
theorem mg4 {w : Cond} (i : Nat) (h : (tables_1_4)[i]? = some w) (g : goodWord w = true) : w ∈ lw_g := List.mem_filter.mpr ⟨ms4 (List.mem_of_getElem? h), g⟩
theorem w_802 : (Jvm.Cond.selects "MoonLine$CloudGame" ({ cls := "MoonLine$CloudGame", name := "isWon", desc := "()Z" } : Jvm.MethodName) ({ cls := "MoonLine$CloudGame", name := "isWon", desc := "()Z" } : Jvm.MethodName)) ∈ lw_g := mg4 0 rfl rfl
theorem w_803 : (Jvm.Cond.code ({ cls := "MoonLine$CloudGame", name := "isWon", desc := "()Z" } : Jvm.MethodName) prog_2_method_3_code (1 : Nat) (Option.some Jvm.ClassFile.FieldType.boolean)) ∈ lw_g := mg4 1 rfl rfl
theorem w_804 : (Jvm.Cond.methodLink "MoonLine$CloudGame" (39 : Nat) ({ cls := "MoonLine$CloudGame", name := "isWonFrom", desc := "(II)Z" } : Jvm.MethodName)) ∈ lw_g := mg4 2 rfl rfl
theorem w_806 : (Jvm.Cond.instanceMethod ({ cls := "MoonLine$CloudGame", name := "isWonFrom", desc := "(II)Z" } : Jvm.MethodName)) ∈ lw_g := mg4 4 rfl rfl
theorem w_807 : (Jvm.Cond.code ({ cls := "MoonLine$CloudGame", name := "isWonFrom", desc := "(II)Z" } : Jvm.MethodName) prog_2_method_4_code (5 : Nat) (Option.some Jvm.ClassFile.FieldType.boolean)) ∈ lw_g := mg4 5 rfl rfl
theorem w_808 : (Jvm.Cond.methodLink "MoonLine$CloudGame" (43 : Nat) ({ cls := "MoonLine$Queue", name := "placeOf", desc := "(I)I" } : Jvm.MethodName)) ∈ lw_g := mg4 6 rfl rfl
theorem w_809 : (Jvm.Cond.methodLink "MoonLine$CloudGame" (47 : Nat) ({ cls := "MoonLine$CloudGame", name := "isWonBehindTrade", desc := "(II)Z" } : Jvm.MethodName)) ∈ lw_g := mg4 7 rfl rfl
theorem w_811 : (Jvm.Cond.instanceMethod ({ cls := "MoonLine$CloudGame", name := "isWonBehindTrade", desc := "(II)Z" } : Jvm.MethodName)) ∈ lw_g := mg4 9 rfl rfl
theorem w_812 : (Jvm.Cond.code ({ cls := "MoonLine$CloudGame", name := "isWonBehindTrade", desc := "(II)Z" } : Jvm.MethodName) prog_2_method_5_code (7 : Nat) (Option.some Jvm.ClassFile.FieldType.boolean)) ∈ lw_g := mg4 10 rfl rfl
theorem w_813 : (Jvm.Cond.methodLink "MoonLine$CloudGame" (54 : Nat) ({ cls := "MoonLine$Queue", name := "pass", desc := "(LMoonLine$Crowd;Z)I" } : Jvm.MethodName)) ∈ lw_g := mg4 11 rfl rfl
theorem w_814 : (Jvm.Cond.methodLink "MoonLine$CloudGame" (50 : Nat) ({ cls := "MoonLine$Queue", name := "swapPlaces", desc := "(II)V" } : Jvm.MethodName)) ∈ lw_g := mg4 12 rfl rfl
theorem w_815 : (Jvm.Cond.methodLink "MoonLineLaw" (134 : Nat) ({ cls := "MoonLine", name := "kinds", desc := "(III)I" } : Jvm.MethodName)) ∈ lw_g := mg4 13 rfl rfl
theorem w_816 : (Jvm.Cond.instanceMethod ({ cls := "MoonLine", name := "kinds", desc := "(III)I" } : Jvm.MethodName)) ∈ lw_g := mg4 14 rfl rfl
theorem w_817 : (Jvm.Cond.selects "MoonLine" ({ cls := "MoonLine", name := "kinds", desc := "(III)I" } : Jvm.MethodName) ({ cls := "MoonLine", name := "kinds", desc := "(III)I" } : Jvm.MethodName)) ∈ lw_g := mg4 15 rfl rfl
theorem w_818 : (Jvm.Cond.code ({ cls := "MoonLine", name := "kinds", desc := "(III)I" } : Jvm.MethodName) prog_1_method_31_code (7 : Nat) (Option.some Jvm.ClassFile.FieldType.int)) ∈ lw_g := mg4 16 rfl rfl
theorem w_819 : (Jvm.Cond.methodLink "MoonLine" (290 : Nat) ({ cls := "MoonLine", name := "wrongInGoers", desc := "(LMoonLine$Row;I)I" } : Jvm.MethodName)) ∈ lw_g := mg4 17 rfl rfl
theorem w_821 : (Jvm.Cond.instanceMethod ({ cls := "MoonLine", name := "wrongInGoers", desc := "(LMoonLine$Row;I)I" } : Jvm.MethodName)) ∈ lw_g := mg4 19 rfl rfl
theorem w_822 : (Jvm.Cond.code ({ cls := "MoonLine", name := "wrongInGoers", desc := "(LMoonLine$Row;I)I" } : Jvm.MethodName) prog_1_method_65_code (4 : Nat) (Option.some Jvm.ClassFile.FieldType.int)) ∈ lw_g := mg4 20 rfl rfl
theorem w_823 : (Jvm.Cond.methodLink "MoonLine" (297 : Nat) ({ cls := "MoonLine", name := "goSo", desc := "(LMoonLine$Crowd;LMoonLine$Row;LMoonLine$Row;)Z" } : Jvm.MethodName)) ∈ lw_g := mg4 21 rfl rfl
theorem w_825 : (Jvm.Cond.instanceMethod ({ cls := "MoonLine", name := "goSo", desc := "(LMoonLine$Crowd;LMoonLine$Row;LMoonLine$Row;)Z" } : Jvm.MethodName)) ∈ lw_g := mg4 23 rfl rfl
theorem w_826 : (Jvm.Cond.code ({ cls := "MoonLine", name := "goSo", desc := "(LMoonLine$Crowd;LMoonLine$Row;LMoonLine$Row;)Z" } : Jvm.MethodName) prog_1_method_67_code (6 : Nat) (Option.some Jvm.ClassFile.FieldType.boolean)) ∈ lw_g := mg4 24 rfl rfl
theorem w_827 : (Jvm.Cond.methodLink "MoonLineLaw" (138 : Nat) ({ cls := "MoonLine", name := "clear", desc := "(I)I" } : Jvm.MethodName)) ∈ lw_g := mg4 25 rfl rfl
theorem w_828 : (Jvm.Cond.instanceMethod ({ cls := "MoonLine", name := "clear", desc := "(I)I" } : Jvm.MethodName)) ∈ lw_g := mg4 26 rfl rfl
theorem w_829 : (Jvm.Cond.selects "MoonLine" ({ cls := "MoonLine", name := "clear", desc := "(I)I" } : Jvm.MethodName) ({ cls := "MoonLine", name := "clear", desc := "(I)I" } : Jvm.MethodName)) ∈ lw_g := mg4 27 rfl rfl
theorem w_830 : (Jvm.Cond.code ({ cls := "MoonLine", name := "clear", desc := "(I)I" } : Jvm.MethodName) prog_1_method_32_code (3 : Nat) (Option.some Jvm.ClassFile.FieldType.int)) ∈ lw_g := mg4 28 rfl rfl
theorem w_831 : (Jvm.Cond.methodLink "MoonLine" (301 : Nat) ({ cls := "MoonLine$NightWalk", name := "countFitting", desc := "(LMoonLine$Row;)V" } : Jvm.MethodName)) ∈ lw_g := mg4 29 rfl rfl
theorem w_832 : (Jvm.Cond.instanceMethod ({ cls := "MoonLine$NightWalk", name := "countFitting", desc := "(LMoonLine$Row;)V" } : Jvm.MethodName)) ∈ lw_g := mg4 30 rfl rfl
theorem w_833 : (Jvm.Cond.selects "MoonLine$NightWalk" ({ cls := "MoonLine$NightWalk", name := "countFitting", desc := "(LMoonLine$Row;)V" } : Jvm.MethodName) ({ cls := "MoonLine$NightWalk", name := "countFitting", desc := "(LMoonLine$Row;)V" } : Jvm.MethodName)) ∈ lw_g := mg4 31 rfl rfl
theorem w_834 : (Jvm.Cond.code ({ cls := "MoonLine$NightWalk", name := "countFitting", desc := "(LMoonLine$Row;)V" } : Jvm.MethodName) prog_6_method_9_code (2 : Nat) (Option.none : Option Jvm.ClassFile.FieldType)) ∈ lw_g := mg4 32 rfl rfl
theorem w_835 : (Jvm.Cond.methodLink "MoonLine$NightWalk" (89 : Nat) ({ cls := "MoonLine$NightWalk", name := "fitFrom", desc := "(II)V" } : Jvm.MethodName)) ∈ lw_g := mg4 33 rfl rfl
theorem w_837 : (Jvm.Cond.instanceMethod ({ cls := "MoonLine$NightWalk", name := "fitFrom", desc := "(II)V" } : Jvm.MethodName)) ∈ lw_g := mg4 35 rfl rfl
theorem w_838 : (Jvm.Cond.code ({ cls := "MoonLine$NightWalk", name := "fitFrom", desc := "(II)V" } : Jvm.MethodName) prog_6_method_11_code (5 : Nat) (Option.none : Option Jvm.ClassFile.FieldType)) ∈ lw_g := mg4 36 rfl rfl
theorem w_839 : (Jvm.Cond.methodLink "MoonLine" (308 : Nat) ({ cls := "MoonLine", name := "tellWays", desc := "(J)V" } : Jvm.MethodName)) ∈ lw_g := mg4 37 rfl rfl
theorem w_841 : (Jvm.Cond.instanceMethod ({ cls := "MoonLine", name := "tellWays", desc := "(J)V" } : Jvm.MethodName)) ∈ lw_g := mg4 39 rfl rfl
theorem w_842 : (Jvm.Cond.code ({ cls := "MoonLine", name := "tellWays", desc := "(J)V" } : Jvm.MethodName) prog_1_method_54_code (3 : Nat) (Option.none : Option Jvm.ClassFile.FieldType)) ∈ lw_g := mg4 40 rfl rfl
theorem w_843 : (Jvm.Cond.methodLink "MoonLine" (312 : Nat) ({ cls := "MoonLine$NightWalk", name := "alwaysClear", desc := "()I" } : Jvm.MethodName)) ∈ lw_g := mg4 41 rfl rfl
theorem w_844 : (Jvm.Cond.instanceMethod ({ cls := "MoonLine$NightWalk", name := "alwaysClear", desc := "()I" } : Jvm.MethodName)) ∈ lw_g := mg4 42 rfl rfl
theorem w_845 : (Jvm.Cond.selects "MoonLine$NightWalk" ({ cls := "MoonLine$NightWalk", name := "alwaysClear", desc := "()I" } : Jvm.MethodName) ({ cls := "MoonLine$NightWalk", name := "alwaysClear", desc := "()I" } : Jvm.MethodName)) ∈ lw_g := mg4 43 rfl rfl
theorem w_846 : (Jvm.Cond.code ({ cls := "MoonLine$NightWalk", name := "alwaysClear", desc := "()I" } : Jvm.MethodName) prog_6_method_10_code (1 : Nat) (Option.some Jvm.ClassFile.FieldType.int)) ∈ lw_g := mg4 44 rfl rfl
theorem w_847 : (Jvm.Cond.methodLink "MoonLineLaw" (142 : Nat) ({ cls := "MoonLine", name := "lies", desc := "(I)I" } : Jvm.MethodName)) ∈ lw_g := mg4 45 rfl rfl
theorem w_848 : (Jvm.Cond.instanceMethod ({ cls := "MoonLine", name := "lies", desc := "(I)I" } : Jvm.MethodName)) ∈ lw_g := mg4 46 rfl rfl
theorem w_849 : (Jvm.Cond.selects "MoonLine" ({ cls := "MoonLine", name := "lies", desc := "(I)I" } : Jvm.MethodName) ({ cls := "MoonLine", name := "lies", desc := "(I)I" } : Jvm.MethodName)) ∈ lw_g := mg4 47 rfl rfl
theorem w_850 : (Jvm.Cond.code ({ cls := "MoonLine", name := "lies", desc := "(I)I" } : Jvm.MethodName) prog_1_method_33_code (5 : Nat) (Option.some Jvm.ClassFile.FieldType.int)) ∈ lw_g := mg4 48 rfl rfl
theorem w_851 : (Jvm.Cond.methodLink "MoonLine" (315 : Nat) ({ cls := "MoonLine", name := "wrongInPairs", desc := "(LMoonLine$Row;)I" } : Jvm.MethodName)) ∈ lw_g := mg4 49 rfl rfl
theorem w_853 : (Jvm.Cond.instanceMethod ({ cls := "MoonLine", name := "wrongInPairs", desc := "(LMoonLine$Row;)I" } : Jvm.MethodName)) ∈ lw_g := mg4 51 rfl rfl
theorem w_854 : (Jvm.Cond.code ({ cls := "MoonLine", name := "wrongInPairs", desc := "(LMoonLine$Row;)I" } : Jvm.MethodName) prog_1_method_66_code (5 : Nat) (Option.some Jvm.ClassFile.FieldType.int)) ∈ lw_g := mg4 52 rfl rfl
theorem w_855 : (Jvm.Cond.methodLink "MoonLine" (318 : Nat) ({ cls := "MoonLine$Memories", name := "begin", desc := "(I)V" } : Jvm.MethodName)) ∈ lw_g := mg4 53 rfl rfl
theorem w_856 : (Jvm.Cond.instanceMethod ({ cls := "MoonLine$Memories", name := "begin", desc := "(I)V" } : Jvm.MethodName)) ∈ lw_g := mg4 54 rfl rfl
theorem w_857 : (Jvm.Cond.selects "MoonLine$Memories" ({ cls := "MoonLine$Memories", name := "begin", desc := "(I)V" } : Jvm.MethodName) ({ cls := "MoonLine$Memories", name := "begin", desc := "(I)V" } : Jvm.MethodName)) ∈ lw_g := mg4 55 rfl rfl
theorem w_858 : (Jvm.Cond.code ({ cls := "MoonLine$Memories", name := "begin", desc := "(I)V" } : Jvm.MethodName) prog_5_method_2_code (3 : Nat) (Option.none : Option Jvm.ClassFile.FieldType)) ∈ lw_g := mg4 56 rfl rfl
theorem w_859 : (Jvm.Cond.methodLink "MoonLine$Memories" (27 : Nat) ({ cls := "java/lang/Math", name := "min", desc := "(II)I" } : Jvm.MethodName)) ∈ lw_g := mg4 57 rfl rfl
theorem w_860 : (Jvm.Cond.methodLink "MoonLine$Memories" (33 : Nat) ({ cls := "java/util/Arrays", name := "fill", desc := "([II)V" } : Jvm.MethodName)) ∈ lw_g := mg4 58 rfl rfl
theorem w_861 : (Jvm.Cond.methodLink "MoonLine" (320 : Nat) ({ cls := "MoonLine$Memories", name := "addPair", desc := "(II)V" } : Jvm.MethodName)) ∈ lw_g := mg4 59 rfl rfl
theorem w_862 : (Jvm.Cond.instanceMethod ({ cls := "MoonLine$Memories", name := "addPair", desc := "(II)V" } : Jvm.MethodName)) ∈ lw_g := mg4 60 rfl rfl
theorem w_863 : (Jvm.Cond.selects "MoonLine$Memories" ({ cls := "MoonLine$Memories", name := "addPair", desc := "(II)V" } : Jvm.MethodName) ({ cls := "MoonLine$Memories", name := "addPair", desc := "(II)V" } : Jvm.MethodName)) ∈ lw_g := mg4 61 rfl rfl
theorem w_864 : (Jvm.Cond.code ({ cls := "MoonLine$Memories", name := "addPair", desc := "(II)V" } : Jvm.MethodName) prog_5_method_3_code (3 : Nat) (Option.none : Option Jvm.ClassFile.FieldType)) ∈ lw_g := mg4 62 rfl rfl
theorem w_865 : (Jvm.Cond.methodLink "MoonLine$Memories" (39 : Nat) ({ cls := "MoonLine$Memories", name := "isPerson", desc := "(I)Z" } : Jvm.MethodName)) ∈ lw_g := mg4 63 rfl rfl
theorem w_867 : (Jvm.Cond.instanceMethod ({ cls := "MoonLine$Memories", name := "isPerson", desc := "(I)Z" } : Jvm.MethodName)) ∈ lw_g := mg4 65 rfl rfl
theorem w_868 : (Jvm.Cond.code ({ cls := "MoonLine$Memories", name := "isPerson", desc := "(I)Z" } : Jvm.MethodName) prog_5_method_4_code (2 : Nat) (Option.some Jvm.ClassFile.FieldType.boolean)) ∈ lw_g := mg4 66 rfl rfl
theorem w_869 : (Jvm.Cond.methodLink "MoonLine" (323 : Nat) ({ cls := "MoonLine$Memories", name := "countOrders", desc := "()V" } : Jvm.MethodName)) ∈ lw_g := mg4 67 rfl rfl
theorem w_870 : (Jvm.Cond.instanceMethod ({ cls := "MoonLine$Memories", name := "countOrders", desc := "()V" } : Jvm.MethodName)) ∈ lw_g := mg4 68 rfl rfl
theorem w_871 : (Jvm.Cond.selects "MoonLine$Memories" ({ cls := "MoonLine$Memories", name := "countOrders", desc := "()V" } : Jvm.MethodName) ({ cls := "MoonLine$Memories", name := "countOrders", desc := "()V" } : Jvm.MethodName)) ∈ lw_g := mg4 69 rfl rfl
theorem w_872 : (Jvm.Cond.code ({ cls := "MoonLine$Memories", name := "countOrders", desc := "()V" } : Jvm.MethodName) prog_5_method_5_code (1 : Nat) (Option.none : Option Jvm.ClassFile.FieldType)) ∈ lw_g := mg4 70 rfl rfl
theorem w_873 : (Jvm.Cond.methodLink "MoonLine$Memories" (43 : Nat) ({ cls := "MoonLine$Memories", name := "standBehind", desc := "(IIII)V" } : Jvm.MethodName)) ∈ lw_g := mg4 71 rfl rfl
theorem w_875 : (Jvm.Cond.instanceMethod ({ cls := "MoonLine$Memories", name := "standBehind", desc := "(IIII)V" } : Jvm.MethodName)) ∈ lw_g := mg4 73 rfl rfl
theorem w_876 : (Jvm.Cond.code ({ cls := "MoonLine$Memories", name := "standBehind", desc := "(IIII)V" } : Jvm.MethodName) prog_5_method_6_code (7 : Nat) (Option.none : Option Jvm.ClassFile.FieldType)) ∈ lw_g := mg4 74 rfl rfl
theorem w_877 : (Jvm.Cond.methodLink "MoonLine$Memories" (47 : Nat) ({ cls := "MoonLine$Memories", name := "countOrder", desc := "(I)V" } : Jvm.MethodName)) ∈ lw_g := mg4 75 rfl rfl
theorem w_879 : (Jvm.Cond.instanceMethod ({ cls := "MoonLine$Memories", name := "countOrder", desc := "(I)V" } : Jvm.MethodName)) ∈ lw_g := mg4 77 rfl rfl
theorem w_880 : (Jvm.Cond.code ({ cls := "MoonLine$Memories", name := "countOrder", desc := "(I)V" } : Jvm.MethodName) prog_5_method_7_code (2 : Nat) (Option.none : Option Jvm.ClassFile.FieldType)) ∈ lw_g := mg4 78 rfl rfl
theorem w_881 : (Jvm.Cond.methodLink "MoonLineLaw" (146 : Nat) ({ cls := "MoonLine", name := "merge", desc := "(II)I" } : Jvm.MethodName)) ∈ lw_g := mg4 79 rfl rfl
theorem w_882 : (Jvm.Cond.instanceMethod ({ cls := "MoonLine", name := "merge", desc := "(II)I" } : Jvm.MethodName)) ∈ lw_g := mg4 80 rfl rfl
theorem w_883 : (Jvm.Cond.selects "MoonLine" ({ cls := "MoonLine", name := "merge", desc := "(II)I" } : Jvm.MethodName) ({ cls := "MoonLine", name := "merge", desc := "(II)I" } : Jvm.MethodName)) ∈ lw_g := mg4 81 rfl rfl
theorem w_884 : (Jvm.Cond.code ({ cls := "MoonLine", name := "merge", desc := "(II)I" } : Jvm.MethodName) prog_1_method_34_code (6 : Nat) (Option.some Jvm.ClassFile.FieldType.int)) ∈ lw_g := mg4 82 rfl rfl
theorem w_885 : (Jvm.Cond.methodLink "MoonLineLaw" (150 : Nat) ({ cls := "MoonLine", name := "merged", desc := "(III)I" } : Jvm.MethodName)) ∈ lw_g := mg4 83 rfl rfl
theorem w_886 : (Jvm.Cond.instanceMethod ({ cls := "MoonLine", name := "merged", desc := "(III)I" } : Jvm.MethodName)) ∈ lw_g := mg4 84 rfl rfl
theorem w_887 : (Jvm.Cond.selects "MoonLine" ({ cls := "MoonLine", name := "merged", desc := "(III)I" } : Jvm.MethodName) ({ cls := "MoonLine", name := "merged", desc := "(III)I" } : Jvm.MethodName)) ∈ lw_g := mg4 85 rfl rfl
theorem w_888 : (Jvm.Cond.code ({ cls := "MoonLine", name := "merged", desc := "(III)I" } : Jvm.MethodName) prog_1_method_35_code (7 : Nat) (Option.some Jvm.ClassFile.FieldType.int)) ∈ lw_g := mg4 86 rfl rfl
theorem w_889 : (Jvm.Cond.methodLink "MoonLine" (331 : Nat) ({ cls := "MoonLine", name := "isMerge", desc := "(LMoonLine$Row;LMoonLine$Row;LMoonLine$Row;)Z" } : Jvm.MethodName)) ∈ lw_g := mg4 87 rfl rfl
theorem w_891 : (Jvm.Cond.instanceMethod ({ cls := "MoonLine", name := "isMerge", desc := "(LMoonLine$Row;LMoonLine$Row;LMoonLine$Row;)Z" } : Jvm.MethodName)) ∈ lw_g := mg4 89 rfl rfl
theorem w_892 : (Jvm.Cond.code ({ cls := "MoonLine", name := "isMerge", desc := "(LMoonLine$Row;LMoonLine$Row;LMoonLine$Row;)Z" } : Jvm.MethodName) prog_1_method_68_code (8 : Nat) (Option.some Jvm.ClassFile.FieldType.boolean)) ∈ lw_g := mg4 90 rfl rfl
theorem w_893 : (Jvm.Cond.methodLink "MoonLineLaw" (154 : Nat) ({ cls := "MoonLine", name := "message", desc := "(I)I" } : Jvm.MethodName)) ∈ lw_g := mg4 91 rfl rfl
theorem w_894 : (Jvm.Cond.instanceMethod ({ cls := "MoonLine", name := "message", desc := "(I)I" } : Jvm.MethodName)) ∈ lw_g := mg4 92 rfl rfl
theorem w_895 : (Jvm.Cond.selects "MoonLine" ({ cls := "MoonLine", name := "message", desc := "(I)I" } : Jvm.MethodName) ({ cls := "MoonLine", name := "message", desc := "(I)I" } : Jvm.MethodName)) ∈ lw_g := mg4 93 rfl rfl
theorem w_896 : (Jvm.Cond.code ({ cls := "MoonLine", name := "message", desc := "(I)I" } : Jvm.MethodName) prog_1_method_36_code (5 : Nat) (Option.some Jvm.ClassFile.FieldType.int)) ∈ lw_g := mg4 94 rfl rfl
theorem w_897 : (Jvm.Cond.methodLink "MoonLine" (335 : Nat) ({ cls := "MoonLine$Queue", name := "whoAt", desc := "(I)I" } : Jvm.MethodName)) ∈ lw_g := mg4 95 rfl rfl
theorem w_898 : (Jvm.Cond.methodLink "MoonLine" (338 : Nat) ({ cls := "MoonLine$Crowd", name := "isAsleep", desc := "(II)Z" } : Jvm.MethodName)) ∈ lw_g := mg4 96 rfl rfl
theorem w_899 : (Jvm.Cond.methodLink "MoonLineLaw" (158 : Nat) ({ cls := "MoonLine", name := "lots", desc := "(II)I" } : Jvm.MethodName)) ∈ lw_g := mg4 97 rfl rfl
theorem w_900 : (Jvm.Cond.instanceMethod ({ cls := "MoonLine", name := "lots", desc := "(II)I" } : Jvm.MethodName)) ∈ lw_g := mg4 98 rfl rfl
theorem w_901 : (Jvm.Cond.selects "MoonLine" ({ cls := "MoonLine", name := "lots", desc := "(II)I" } : Jvm.MethodName) ({ cls := "MoonLine", name := "lots", desc := "(II)I" } : Jvm.MethodName)) ∈ lw_g := mg4 99 rfl rfl
theorem w_902 : (Jvm.Cond.code ({ cls := "MoonLine", name := "lots", desc := "(II)I" } : Jvm.MethodName) prog_1_method_37_code (8 : Nat) (Option.some Jvm.ClassFile.FieldType.int)) ∈ lw_g := mg4 100 rfl rfl
theorem w_903 : (Jvm.Cond.constantLong "MoonLine" (341 : Nat) (2147483647 : Int64)) ∈ lw_g := mg4 101 rfl rfl
theorem w_904 : (Jvm.Cond.constantLong "MoonLine" (343 : Nat) (48271 : Int64)) ∈ lw_g := mg4 102 rfl rfl
theorem w_905 : (Jvm.Cond.constantLong "MoonLine" (345 : Nat) (16 : Int64)) ∈ lw_g := mg4 103 rfl rfl
theorem w_906 : (Jvm.Cond.constantLong "MoonLine" (347 : Nat) (2 : Int64)) ∈ lw_g := mg4 104 rfl rfl
theorem w_907 : (Jvm.Cond.methodLink "MoonLineLaw" (162 : Nat) ({ cls := "MoonLine", name := "asked", desc := "()I" } : Jvm.MethodName)) ∈ lw_g := mg4 105 rfl rfl
theorem w_908 : (Jvm.Cond.instanceMethod ({ cls := "MoonLine", name := "asked", desc := "()I" } : Jvm.MethodName)) ∈ lw_g := mg4 106 rfl rfl
theorem w_909 : (Jvm.Cond.selects "MoonLine" ({ cls := "MoonLine", name := "asked", desc := "()I" } : Jvm.MethodName) ({ cls := "MoonLine", name := "asked", desc := "()I" } : Jvm.MethodName)) ∈ lw_g := mg4 107 rfl rfl
theorem w_910 : (Jvm.Cond.code ({ cls := "MoonLine", name := "asked", desc := "()I" } : Jvm.MethodName) prog_1_method_38_code (1 : Nat) (Option.some Jvm.ClassFile.FieldType.int)) ∈ lw_g := mg4 108 rfl rfl
theorem w_911 : (Jvm.Cond.methodLink "MoonLineLaw" (166 : Nat) ({ cls := "MoonLine", name := "upper", desc := "()J" } : Jvm.MethodName)) ∈ lw_g := mg4 109 rfl rfl
theorem w_912 : (Jvm.Cond.instanceMethod ({ cls := "MoonLine", name := "upper", desc := "()J" } : Jvm.MethodName)) ∈ lw_g := mg4 110 rfl rfl
theorem w_913 : (Jvm.Cond.selects "MoonLine" ({ cls := "MoonLine", name := "upper", desc := "()J" } : Jvm.MethodName) ({ cls := "MoonLine", name := "upper", desc := "()J" } : Jvm.MethodName)) ∈ lw_g := mg4 111 rfl rfl
theorem w_914 : (Jvm.Cond.code ({ cls := "MoonLine", name := "upper", desc := "()J" } : Jvm.MethodName) prog_1_method_39_code (1 : Nat) (Option.some Jvm.ClassFile.FieldType.long)) ∈ lw_g := mg4 112 rfl rfl
theorem w_915 : (Jvm.Cond.methodLink "MoonLineLaw" (171 : Nat) ({ cls := "MoonLine", name := "lower", desc := "()J" } : Jvm.MethodName)) ∈ lw_g := mg4 113 rfl rfl
theorem w_916 : (Jvm.Cond.instanceMethod ({ cls := "MoonLine", name := "lower", desc := "()J" } : Jvm.MethodName)) ∈ lw_g := mg4 114 rfl rfl
theorem w_917 : (Jvm.Cond.selects "MoonLine" ({ cls := "MoonLine", name := "lower", desc := "()J" } : Jvm.MethodName) ({ cls := "MoonLine", name := "lower", desc := "()J" } : Jvm.MethodName)) ∈ lw_g := mg4 115 rfl rfl
theorem w_918 : (Jvm.Cond.code ({ cls := "MoonLine", name := "lower", desc := "()J" } : Jvm.MethodName) prog_1_method_40_code (1 : Nat) (Option.some Jvm.ClassFile.FieldType.long)) ∈ lw_g := mg4 116 rfl rfl
theorem w_919 : (Jvm.Cond.methodLink "MoonLineLaw" (175 : Nat) ({ cls := "MoonLine", name := "count", desc := "(I)I" } : Jvm.MethodName)) ∈ lw_g := mg4 117 rfl rfl
theorem w_920 : (Jvm.Cond.instanceMethod ({ cls := "MoonLine", name := "count", desc := "(I)I" } : Jvm.MethodName)) ∈ lw_g := mg4 118 rfl rfl
theorem w_921 : (Jvm.Cond.selects "MoonLine" ({ cls := "MoonLine", name := "count", desc := "(I)I" } : Jvm.MethodName) ({ cls := "MoonLine", name := "count", desc := "(I)I" } : Jvm.MethodName)) ∈ lw_g := mg4 119 rfl rfl
theorem w_922 : (Jvm.Cond.code ({ cls := "MoonLine", name := "count", desc := "(I)I" } : Jvm.MethodName) prog_1_method_41_code (2 : Nat) (Option.some Jvm.ClassFile.FieldType.int)) ∈ lw_g := mg4 120 rfl rfl
theorem w_923 : (Jvm.Cond.methodLink "MoonLine" (349 : Nat) ({ cls := "MoonLine", name := "numberOf", desc := "(I)I" } : Jvm.MethodName)) ∈ lw_g := mg4 121 rfl rfl
theorem w_925 : (Jvm.Cond.instanceMethod ({ cls := "MoonLine", name := "numberOf", desc := "(I)I" } : Jvm.MethodName)) ∈ lw_g := mg4 123 rfl rfl
theorem w_926 : (Jvm.Cond.code ({ cls := "MoonLine", name := "numberOf", desc := "(I)I" } : Jvm.MethodName) prog_1_method_57_code (2 : Nat) (Option.some Jvm.ClassFile.FieldType.int)) ∈ lw_g := mg4 124 rfl rfl
theorem w_927 : (Jvm.Cond.methodLink "MoonLine" (368 : Nat) ({ cls := "java/lang/Integer", name := "bitCount", desc := "(I)I" } : Jvm.MethodName)) ∈ lw_g := mg4 125 rfl rfl
theorem w_928 : (Jvm.Cond.static ({ cls := "java/lang/Integer", name := "bitCount", desc := "(I)I" } : Jvm.MethodName)) ∈ lw_g := mg4 126 rfl rfl
theorem w_929 : (Jvm.Cond.code ({ cls := "java/lang/Integer", name := "bitCount", desc := "(I)I" } : Jvm.MethodName) prog_13_method_49_code (1 : Nat) (Option.some Jvm.ClassFile.FieldType.int)) ∈ lw_g := mg4 127 rfl rfl
theorem w_930 : (Jvm.Cond.constant "java/lang/Integer" (265 : Nat) (1431655765 : Int32)) ∈ lw_g := mg4 128 rfl rfl
theorem w_931 : (Jvm.Cond.constant "java/lang/Integer" (266 : Nat) (858993459 : Int32)) ∈ lw_g := mg4 129 rfl rfl
theorem w_932 : (Jvm.Cond.constant "java/lang/Integer" (267 : Nat) (252645135 : Int32)) ∈ lw_g := mg4 130 rfl rfl
theorem w_933 : (Jvm.Cond.methodLink "MoonLine" (373 : Nat) ({ cls := "MoonLine$Crowd", name := "howMany", desc := "(I)I" } : Jvm.MethodName)) ∈ lw_g := mg4 131 rfl rfl
theorem w_934 : (Jvm.Cond.instanceMethod ({ cls := "MoonLine$Crowd", name := "howMany", desc := "(I)I" } : Jvm.MethodName)) ∈ lw_g := mg4 132 rfl rfl
theorem w_935 : (Jvm.Cond.selects "MoonLine$Crowd" ({ cls := "MoonLine$Crowd", name := "howMany", desc := "(I)I" } : Jvm.MethodName) ({ cls := "MoonLine$Crowd", name := "howMany", desc := "(I)I" } : Jvm.MethodName)) ∈ lw_g := mg4 133 rfl rfl
theorem w_936 : (Jvm.Cond.code ({ cls := "MoonLine$Crowd", name := "howMany", desc := "(I)I" } : Jvm.MethodName) prog_3_method_6_code (4 : Nat) (Option.some Jvm.ClassFile.FieldType.int)) ∈ lw_g := mg4 134 rfl rfl
theorem w_937 : (Jvm.Cond.methodLink "MoonLine$Crowd" (35 : Nat) ({ cls := "MoonLine$Crowd", name := "isOf", desc := "(II)Z" } : Jvm.MethodName)) ∈ lw_g := mg4 135 rfl rfl
theorem w_938 : (Jvm.Cond.methodLink "MoonLine" (376 : Nat) ({ cls := "MoonLine", name := "rowsThere", desc := "()I" } : Jvm.MethodName)) ∈ lw_g := mg4 136 rfl rfl
theorem w_940 : (Jvm.Cond.instanceMethod ({ cls := "MoonLine", name := "rowsThere", desc := "()I" } : Jvm.MethodName)) ∈ lw_g := mg4 138 rfl rfl
theorem w_941 : (Jvm.Cond.code ({ cls := "MoonLine", name := "rowsThere", desc := "()I" } : Jvm.MethodName) prog_1_method_58_code (3 : Nat) (Option.some Jvm.ClassFile.FieldType.int)) ∈ lw_g := mg4 139 rfl rfl
theorem w_942 : (Jvm.Cond.methodLink "MoonLine" (379 : Nat) ({ cls := "MoonLine", name := "textsThere", desc := "()I" } : Jvm.MethodName)) ∈ lw_g := mg4 140 rfl rfl
theorem w_944 : (Jvm.Cond.instanceMethod ({ cls := "MoonLine", name := "textsThere", desc := "()I" } : Jvm.MethodName)) ∈ lw_g := mg4 142 rfl rfl
theorem w_945 : (Jvm.Cond.code ({ cls := "MoonLine", name := "textsThere", desc := "()I" } : Jvm.MethodName) prog_1_method_59_code (3 : Nat) (Option.some Jvm.ClassFile.FieldType.int)) ∈ lw_g := mg4 143 rfl rfl
theorem w_946 : (Jvm.Cond.methodLink "MoonLine" (382 : Nat) ({ cls := "MoonLine", name := "keptThere", desc := "()I" } : Jvm.MethodName)) ∈ lw_g := mg4 144 rfl rfl
theorem w_948 : (Jvm.Cond.instanceMethod ({ cls := "MoonLine", name := "keptThere", desc := "()I" } : Jvm.MethodName)) ∈ lw_g := mg4 146 rfl rfl
theorem w_949 : (Jvm.Cond.code ({ cls := "MoonLine", name := "keptThere", desc := "()I" } : Jvm.MethodName) prog_1_method_60_code (3 : Nat) (Option.some Jvm.ClassFile.FieldType.int)) ∈ lw_g := mg4 147 rfl rfl
theorem w_950 : (Jvm.Cond.methodLink "MoonLineLaw" (179 : Nat) ({ cls := "MoonLine", name := "finding", desc := "()I" } : Jvm.MethodName)) ∈ lw_g := mg4 148 rfl rfl
theorem w_951 : (Jvm.Cond.instanceMethod ({ cls := "MoonLine", name := "finding", desc := "()I" } : Jvm.MethodName)) ∈ lw_g := mg4 149 rfl rfl
theorem w_952 : (Jvm.Cond.selects "MoonLine" ({ cls := "MoonLine", name := "finding", desc := "()I" } : Jvm.MethodName) ({ cls := "MoonLine", name := "finding", desc := "()I" } : Jvm.MethodName)) ∈ lw_g := mg4 150 rfl rfl
theorem w_953 : (Jvm.Cond.code ({ cls := "MoonLine", name := "finding", desc := "()I" } : Jvm.MethodName) prog_1_method_42_code (1 : Nat) (Option.some Jvm.ClassFile.FieldType.int)) ∈ lw_g := mg4 151 rfl rfl
theorem w_954 : (Jvm.Cond.methodLink "MoonLineLaw" (183 : Nat) ({ cls := "MoonLine", name := "findings", desc := "(I)I" } : Jvm.MethodName)) ∈ lw_g := mg4 152 rfl rfl
theorem w_955 : (Jvm.Cond.instanceMethod ({ cls := "MoonLine", name := "findings", desc := "(I)I" } : Jvm.MethodName)) ∈ lw_g := mg4 153 rfl rfl
theorem w_956 : (Jvm.Cond.selects "MoonLine" ({ cls := "MoonLine", name := "findings", desc := "(I)I" } : Jvm.MethodName) ({ cls := "MoonLine", name := "findings", desc := "(I)I" } : Jvm.MethodName)) ∈ lw_g := mg4 154 rfl rfl
theorem w_957 : (Jvm.Cond.code ({ cls := "MoonLine", name := "findings", desc := "(I)I" } : Jvm.MethodName) prog_1_method_43_code (2 : Nat) (Option.some Jvm.ClassFile.FieldType.int)) ∈ lw_g := mg4 155 rfl rfl
theorem w_958 : (Jvm.Cond.methodLink "MoonLineLaw" (187 : Nat) ({ cls := "MoonLine", name := "digest", desc := "()J" } : Jvm.MethodName)) ∈ lw_g := mg4 156 rfl rfl
theorem w_959 : (Jvm.Cond.instanceMethod ({ cls := "MoonLine", name := "digest", desc := "()J" } : Jvm.MethodName)) ∈ lw_g := mg4 157 rfl rfl
theorem w_960 : (Jvm.Cond.selects "MoonLine" ({ cls := "MoonLine", name := "digest", desc := "()J" } : Jvm.MethodName) ({ cls := "MoonLine", name := "digest", desc := "()J" } : Jvm.MethodName)) ∈ lw_g := mg4 158 rfl rfl
theorem w_961 : (Jvm.Cond.code ({ cls := "MoonLine", name := "digest", desc := "()J" } : Jvm.MethodName) prog_1_method_44_code (5 : Nat) (Option.some Jvm.ClassFile.FieldType.long)) ∈ lw_g := mg4 159 rfl rfl
theorem w_962 : (Jvm.Cond.constantLong "MoonLine" (352 : Nat) (17 : Int64)) ∈ lw_g := mg4 160 rfl rfl
theorem w_963 : (Jvm.Cond.constantLong "MoonLine" (354 : Nat) (31 : Int64)) ∈ lw_g := mg4 161 rfl rfl
theorem w_964 : (Jvm.Cond.methodLink "MoonLine" (356 : Nat) ({ cls := "MoonLine$Row", name := "addTo", desc := "(J)J" } : Jvm.MethodName)) ∈ lw_g := mg4 162 rfl rfl
theorem w_965 : (Jvm.Cond.instanceMethod ({ cls := "MoonLine$Row", name := "addTo", desc := "(J)J" } : Jvm.MethodName)) ∈ lw_g := mg4 163 rfl rfl
theorem w_966 : (Jvm.Cond.selects "MoonLine$Row" ({ cls := "MoonLine$Row", name := "addTo", desc := "(J)J" } : Jvm.MethodName) ({ cls := "MoonLine$Row", name := "addTo", desc := "(J)J" } : Jvm.MethodName)) ∈ lw_g := mg4 164 rfl rfl
theorem w_967 : (Jvm.Cond.code ({ cls := "MoonLine$Row", name := "addTo", desc := "(J)J" } : Jvm.MethodName) prog_8_method_7_code (6 : Nat) (Option.some Jvm.ClassFile.FieldType.long)) ∈ lw_g := mg4 165 rfl rfl
theorem w_968 : (Jvm.Cond.constantLong "MoonLine$Row" (31 : Nat) (31 : Int64)) ∈ lw_g := mg4 166 rfl rfl
theorem w_969 : (Jvm.Cond.methodLink "MoonLine" (360 : Nat) ({ cls := "MoonLine$Text", name := "addTo", desc := "(J)J" } : Jvm.MethodName)) ∈ lw_g := mg4 167 rfl rfl
theorem w_970 : (Jvm.Cond.instanceMethod ({ cls := "MoonLine$Text", name := "addTo", desc := "(J)J" } : Jvm.MethodName)) ∈ lw_g := mg4 168 rfl rfl
theorem w_971 : (Jvm.Cond.selects "MoonLine$Text" ({ cls := "MoonLine$Text", name := "addTo", desc := "(J)J" } : Jvm.MethodName) ({ cls := "MoonLine$Text", name := "addTo", desc := "(J)J" } : Jvm.MethodName)) ∈ lw_g := mg4 169 rfl rfl
theorem w_972 : (Jvm.Cond.code ({ cls := "MoonLine$Text", name := "addTo", desc := "(J)J" } : Jvm.MethodName) prog_9_method_5_code (6 : Nat) (Option.some Jvm.ClassFile.FieldType.long)) ∈ lw_g := mg4 170 rfl rfl
theorem w_973 : (Jvm.Cond.constantLong "MoonLine$Text" (31 : Nat) (31 : Int64)) ∈ lw_g := mg4 171 rfl rfl
theorem w_974 : (Jvm.Cond.classLink "MoonLineLaw" (10 : Nat) "MoonLineModel") ∈ lw_g := mg4 172 rfl rfl
theorem w_975 : (Jvm.Cond.instantiable "MoonLineModel" (24 : Nat)) ∈ lw_g := mg4 173 rfl rfl
theorem w_976 : (Jvm.Cond.methodLink "MoonLineLaw" (12 : Nat) ({ cls := "MoonLineModel", name := "<init>", desc := "()V" } : Jvm.MethodName)) ∈ lw_g := mg4 174 rfl rfl
theorem w_977 : (Jvm.Cond.instanceMethod ({ cls := "MoonLineModel", name := "<init>", desc := "()V" } : Jvm.MethodName)) ∈ lw_g := mg4 175 rfl rfl
theorem w_978 : (Jvm.Cond.code ({ cls := "MoonLineModel", name := "<init>", desc := "()V" } : Jvm.MethodName) prog_12_method_1_code (2 : Nat) (Option.none : Option Jvm.ClassFile.FieldType)) ∈ lw_g := mg4 176 rfl rfl
theorem w_979 : (Jvm.Cond.methodLink "MoonLineModel" (1 : Nat) ({ cls := "java/lang/Object", name := "<init>", desc := "()V" } : Jvm.MethodName)) ∈ lw_g := mg4 177 rfl rfl
theorem w_980 : (Jvm.Cond.fieldLink "MoonLineModel" (7 : Nat) "MoonLineModel" "row" "[I") ∈ lw_g := mg4 178 rfl rfl
theorem w_981 : (Jvm.Cond.fieldLink "MoonLineModel" (133 : Nat) "MoonLineModel" "persons" "I") ∈ lw_g := mg4 179 rfl rfl
theorem w_982 : (Jvm.Cond.fieldLink "MoonLineModel" (13 : Nat) "MoonLineModel" "kinds" "[I") ∈ lw_g := mg4 180 rfl rfl
theorem w_983 : (Jvm.Cond.fieldLink "MoonLineModel" (16 : Nat) "MoonLineModel" "patience" "[I") ∈ lw_g := mg4 181 rfl rfl
theorem w_984 : (Jvm.Cond.fieldLink "MoonLineModel" (19 : Nat) "MoonLineModel" "prices" "[I") ∈ lw_g := mg4 182 rfl rfl
theorem w_985 : (Jvm.Cond.fieldLink "MoonLineModel" (22 : Nat) "MoonLineModel" "sizes" "[I") ∈ lw_g := mg4 183 rfl rfl
theorem w_986 : (Jvm.Cond.fieldLink "MoonLineModel" (25 : Nat) "MoonLineModel" "items" "[I") ∈ lw_g := mg4 184 rfl rfl
theorem w_987 : (Jvm.Cond.fieldLink "MoonLineModel" (28 : Nat) "MoonLineModel" "lengths" "[I") ∈ lw_g := mg4 185 rfl rfl
theorem w_988 : (Jvm.Cond.fieldLink "MoonLineModel" (31 : Nat) "MoonLineModel" "bytes" "[I") ∈ lw_g := mg4 186 rfl rfl
theorem w_989 : (Jvm.Cond.fieldLink "MoonLineModel" (62 : Nat) "MoonLineModel" "asked" "I") ∈ lw_g := mg4 187 rfl rfl
theorem w_990 : (Jvm.Cond.fieldLink "MoonLineModel" (215 : Nat) "MoonLineModel" "upper" "J") ∈ lw_g := mg4 188 rfl rfl
theorem w_991 : (Jvm.Cond.fieldLink "MoonLineModel" (34 : Nat) "MoonLineModel" "lower" "J") ∈ lw_g := mg4 189 rfl rfl
theorem w_992 : (Jvm.Cond.fieldLink "MoonLineModel" (58 : Nat) "MoonLineModel" "finding" "I") ∈ lw_g := mg4 190 rfl rfl
theorem w_993 : (Jvm.Cond.fieldLink "MoonLineModel" (38 : Nat) "MoonLineModel" "findings" "[I") ∈ lw_g := mg4 191 rfl rfl
theorem w_994 : (Jvm.Cond.fieldLink "MoonLineModel" (99 : Nat) "MoonLineModel" "from" "I") ∈ lw_g := mg4 192 rfl rfl
theorem w_995 : (Jvm.Cond.fieldLink "MoonLineModel" (102 : Nat) "MoonLineModel" "place" "I") ∈ lw_g := mg4 193 rfl rfl
theorem w_996 : (Jvm.Cond.fieldLink "MoonLineModel" (105 : Nat) "MoonLineModel" "end" "I") ∈ lw_g := mg4 194 rfl rfl
theorem w_997 : (Jvm.Cond.fieldLink "MoonLineModel" (41 : Nat) "MoonLineModel" "readPersons" "[I") ∈ lw_g := mg4 195 rfl rfl
theorem w_998 : (Jvm.Cond.fieldLink "MoonLineModel" (117 : Nat) "MoonLineModel" "readMany" "I") ∈ lw_g := mg4 196 rfl rfl
theorem w_999 : (Jvm.Cond.fieldLink "MoonLineModel" (44 : Nat) "MoonLineModel" "stood" "[I") ∈ lw_g := mg4 197 rfl rfl
theorem w_1000 : (Jvm.Cond.fieldLink "MoonLineModel" (237 : Nat) "MoonLineModel" "paid" "I") ∈ lw_g := mg4 198 rfl rfl
theorem w_1001 : (Jvm.Cond.fieldLink "MoonLineModel" (47 : Nat) "MoonLineModel" "wins" "[Z") ∈ lw_g := mg4 199 rfl rfl
theorem w_1002 : (Jvm.Cond.fieldLink "MoonLineModel" (51 : Nat) "MoonLineModel" "order" "[I") ∈ lw_g := mg4 200 rfl rfl
theorem w_1003 : (Jvm.Cond.fieldLink "MoonLineModel" (54 : Nat) "MoonLineModel" "merges" "[J") ∈ lw_g := mg4 201 rfl rfl
theorem w_1004 : (Jvm.Cond.laysFinal "MoonLineModel" "MoonLineModel" "row" "[I") ∈ lw_g := mg4 202 rfl rfl
theorem w_1006 : (Jvm.Cond.lays "MoonLineModel" "MoonLineModel" "persons" "I") ∈ lw_g := mg4 204 rfl rfl
theorem w_1008 : (Jvm.Cond.laysFinal "MoonLineModel" "MoonLineModel" "kinds" "[I") ∈ lw_g := mg4 206 rfl rfl
theorem w_1010 : (Jvm.Cond.laysFinal "MoonLineModel" "MoonLineModel" "patience" "[I") ∈ lw_g := mg4 208 rfl rfl
theorem w_1012 : (Jvm.Cond.laysFinal "MoonLineModel" "MoonLineModel" "prices" "[I") ∈ lw_g := mg4 210 rfl rfl
theorem w_1014 : (Jvm.Cond.laysFinal "MoonLineModel" "MoonLineModel" "sizes" "[I") ∈ lw_g := mg4 212 rfl rfl
theorem w_1016 : (Jvm.Cond.laysFinal "MoonLineModel" "MoonLineModel" "items" "[I") ∈ lw_g := mg4 214 rfl rfl
theorem w_1018 : (Jvm.Cond.laysFinal "MoonLineModel" "MoonLineModel" "lengths" "[I") ∈ lw_g := mg4 216 rfl rfl
theorem w_1020 : (Jvm.Cond.laysFinal "MoonLineModel" "MoonLineModel" "bytes" "[I") ∈ lw_g := mg4 218 rfl rfl
theorem w_1022 : (Jvm.Cond.lays "MoonLineModel" "MoonLineModel" "asked" "I") ∈ lw_g := mg4 220 rfl rfl
theorem w_1024 : (Jvm.Cond.lays "MoonLineModel" "MoonLineModel" "upper" "J") ∈ lw_g := mg4 222 rfl rfl
theorem w_1026 : (Jvm.Cond.lays "MoonLineModel" "MoonLineModel" "lower" "J") ∈ lw_g := mg4 224 rfl rfl
theorem w_1028 : (Jvm.Cond.lays "MoonLineModel" "MoonLineModel" "finding" "I") ∈ lw_g := mg4 226 rfl rfl
theorem w_1030 : (Jvm.Cond.laysFinal "MoonLineModel" "MoonLineModel" "findings" "[I") ∈ lw_g := mg4 228 rfl rfl
theorem w_1032 : (Jvm.Cond.lays "MoonLineModel" "MoonLineModel" "from" "I") ∈ lw_g := mg4 230 rfl rfl
theorem w_1034 : (Jvm.Cond.lays "MoonLineModel" "MoonLineModel" "place" "I") ∈ lw_g := mg4 232 rfl rfl
theorem w_1036 : (Jvm.Cond.lays "MoonLineModel" "MoonLineModel" "end" "I") ∈ lw_g := mg4 234 rfl rfl
theorem w_1038 : (Jvm.Cond.laysFinal "MoonLineModel" "MoonLineModel" "readPersons" "[I") ∈ lw_g := mg4 236 rfl rfl
theorem w_1040 : (Jvm.Cond.lays "MoonLineModel" "MoonLineModel" "readMany" "I") ∈ lw_g := mg4 238 rfl rfl
theorem ms5 {w : Cond} (h : w ∈ tables_1_5) : w ∈ lw_tbl := List.mem_append_right _ (List.mem_append_right _ (List.mem_append_right _ (List.mem_append_right _ (List.mem_append_right _ (List.mem_append_left _ h)))))
theorem mg5 {w : Cond} (i : Nat) (h : (tables_1_5)[i]? = some w) (g : goodWord w = true) : w ∈ lw_g := List.mem_filter.mpr ⟨ms5 (List.mem_of_getElem? h), g⟩
theorem w_1042 : (Jvm.Cond.laysFinal "MoonLineModel" "MoonLineModel" "stood" "[I") ∈ lw_g := mg5 0 rfl rfl
theorem w_1044 : (Jvm.Cond.lays "MoonLineModel" "MoonLineModel" "paid" "I") ∈ lw_g := mg5 2 rfl rfl
theorem w_1046 : (Jvm.Cond.laysFinal "MoonLineModel" "MoonLineModel" "wins" "[Z") ∈ lw_g := mg5 4 rfl rfl
theorem w_1048 : (Jvm.Cond.laysFinal "MoonLineModel" "MoonLineModel" "order" "[I") ∈ lw_g := mg5 6 rfl rfl
theorem w_1050 : (Jvm.Cond.laysFinal "MoonLineModel" "MoonLineModel" "merges" "[J") ∈ lw_g := mg5 8 rfl rfl
theorem w_1053 : (Jvm.Cond.methodLink "MoonLineLaw" (17 : Nat) ({ cls := "MoonLineModel", name := "row", desc := "(II)I" } : Jvm.MethodName)) ∈ lw_g := mg5 11 rfl rfl
theorem w_1054 : (Jvm.Cond.instanceMethod ({ cls := "MoonLineModel", name := "row", desc := "(II)I" } : Jvm.MethodName)) ∈ lw_g := mg5 12 rfl rfl
theorem w_1055 : (Jvm.Cond.selects "MoonLineModel" ({ cls := "MoonLineModel", name := "row", desc := "(II)I" } : Jvm.MethodName) ({ cls := "MoonLineModel", name := "row", desc := "(II)I" } : Jvm.MethodName)) ∈ lw_g := mg5 13 rfl rfl
theorem w_1056 : (Jvm.Cond.code ({ cls := "MoonLineModel", name := "row", desc := "(II)I" } : Jvm.MethodName) prog_12_method_9_code (3 : Nat) (Option.some Jvm.ClassFile.FieldType.int)) ∈ lw_g := mg5 14 rfl rfl
theorem w_1057 : (Jvm.Cond.methodLink "MoonLineModel" (73 : Nat) ({ cls := "MoonLineModel", name := "isRow", desc := "(I)Z" } : Jvm.MethodName)) ∈ lw_g := mg5 15 rfl rfl
theorem w_1058 : (Jvm.Cond.static ({ cls := "MoonLineModel", name := "isRow", desc := "(I)Z" } : Jvm.MethodName)) ∈ lw_g := mg5 16 rfl rfl
theorem w_1059 : (Jvm.Cond.code ({ cls := "MoonLineModel", name := "isRow", desc := "(I)Z" } : Jvm.MethodName) prog_12_method_7_code (1 : Nat) (Option.some Jvm.ClassFile.FieldType.boolean)) ∈ lw_g := mg5 17 rfl rfl
theorem w_1060 : (Jvm.Cond.constantLong "MoonLineModel" (65 : Nat) (5 : Int64)) ∈ lw_g := mg5 18 rfl rfl
theorem w_1061 : (Jvm.Cond.methodLink "MoonLineModel" (67 : Nat) ({ cls := "MoonLineModel", name := "in", desc := "(JJJ)Z" } : Jvm.MethodName)) ∈ lw_g := mg5 19 rfl rfl
theorem w_1062 : (Jvm.Cond.static ({ cls := "MoonLineModel", name := "in", desc := "(JJJ)Z" } : Jvm.MethodName)) ∈ lw_g := mg5 20 rfl rfl
theorem w_1063 : (Jvm.Cond.code ({ cls := "MoonLineModel", name := "in", desc := "(JJJ)Z" } : Jvm.MethodName) prog_12_method_3_code (6 : Nat) (Option.some Jvm.ClassFile.FieldType.boolean)) ∈ lw_g := mg5 21 rfl rfl
theorem w_1064 : (Jvm.Cond.methodLink "MoonLineModel" (77 : Nat) ({ cls := "MoonLineModel", name := "find", desc := "(I)I" } : Jvm.MethodName)) ∈ lw_g := mg5 22 rfl rfl
theorem w_1066 : (Jvm.Cond.instanceMethod ({ cls := "MoonLineModel", name := "find", desc := "(I)I" } : Jvm.MethodName)) ∈ lw_g := mg5 24 rfl rfl
theorem w_1067 : (Jvm.Cond.code ({ cls := "MoonLineModel", name := "find", desc := "(I)I" } : Jvm.MethodName) prog_12_method_5_code (2 : Nat) (Option.some Jvm.ClassFile.FieldType.int)) ∈ lw_g := mg5 25 rfl rfl
theorem w_1068 : (Jvm.Cond.methodLink "MoonLineModel" (81 : Nat) ({ cls := "MoonLineModel", name := "makeRow", desc := "(II)V" } : Jvm.MethodName)) ∈ lw_g := mg5 26 rfl rfl
theorem w_1070 : (Jvm.Cond.instanceMethod ({ cls := "MoonLineModel", name := "makeRow", desc := "(II)V" } : Jvm.MethodName)) ∈ lw_g := mg5 28 rfl rfl
theorem w_1071 : (Jvm.Cond.code ({ cls := "MoonLineModel", name := "makeRow", desc := "(II)V" } : Jvm.MethodName) prog_12_method_10_code (4 : Nat) (Option.none : Option Jvm.ClassFile.FieldType)) ∈ lw_g := mg5 29 rfl rfl
theorem w_1072 : (Jvm.Cond.methodLink "MoonLineLaw" (22 : Nat) ({ cls := "MoonLineModel", name := "lay", desc := "(III)I" } : Jvm.MethodName)) ∈ lw_g := mg5 30 rfl rfl
theorem w_1073 : (Jvm.Cond.instanceMethod ({ cls := "MoonLineModel", name := "lay", desc := "(III)I" } : Jvm.MethodName)) ∈ lw_g := mg5 31 rfl rfl
theorem w_1074 : (Jvm.Cond.selects "MoonLineModel" ({ cls := "MoonLineModel", name := "lay", desc := "(III)I" } : Jvm.MethodName) ({ cls := "MoonLineModel", name := "lay", desc := "(III)I" } : Jvm.MethodName)) ∈ lw_g := mg5 32 rfl rfl
theorem w_1075 : (Jvm.Cond.code ({ cls := "MoonLineModel", name := "lay", desc := "(III)I" } : Jvm.MethodName) prog_12_method_12_code (6 : Nat) (Option.some Jvm.ClassFile.FieldType.int)) ∈ lw_g := mg5 33 rfl rfl
theorem w_1076 : (Jvm.Cond.methodLink "MoonLineModel" (85 : Nat) ({ cls := "MoonLineModel", name := "refused", desc := "(II)I" } : Jvm.MethodName)) ∈ lw_g := mg5 34 rfl rfl
theorem w_1078 : (Jvm.Cond.instanceMethod ({ cls := "MoonLineModel", name := "refused", desc := "(II)I" } : Jvm.MethodName)) ∈ lw_g := mg5 36 rfl rfl
theorem w_1079 : (Jvm.Cond.code ({ cls := "MoonLineModel", name := "refused", desc := "(II)I" } : Jvm.MethodName) prog_12_method_11_code (3 : Nat) (Option.some Jvm.ClassFile.FieldType.int)) ∈ lw_g := mg5 37 rfl rfl
theorem w_1080 : (Jvm.Cond.methodLink "MoonLineModel" (89 : Nat) ({ cls := "MoonLineModel", name := "tell", desc := "(I)I" } : Jvm.MethodName)) ∈ lw_g := mg5 38 rfl rfl
theorem w_1082 : (Jvm.Cond.instanceMethod ({ cls := "MoonLineModel", name := "tell", desc := "(I)I" } : Jvm.MethodName)) ∈ lw_g := mg5 40 rfl rfl
theorem w_1083 : (Jvm.Cond.code ({ cls := "MoonLineModel", name := "tell", desc := "(I)I" } : Jvm.MethodName) prog_12_method_6_code (2 : Nat) (Option.some Jvm.ClassFile.FieldType.int)) ∈ lw_g := mg5 41 rfl rfl
theorem w_1084 : (Jvm.Cond.methodLink "MoonLineLaw" (26 : Nat) ({ cls := "MoonLineModel", name := "at", desc := "(II)I" } : Jvm.MethodName)) ∈ lw_g := mg5 42 rfl rfl
theorem w_1085 : (Jvm.Cond.instanceMethod ({ cls := "MoonLineModel", name := "at", desc := "(II)I" } : Jvm.MethodName)) ∈ lw_g := mg5 43 rfl rfl
theorem w_1086 : (Jvm.Cond.selects "MoonLineModel" ({ cls := "MoonLineModel", name := "at", desc := "(II)I" } : Jvm.MethodName) ({ cls := "MoonLineModel", name := "at", desc := "(II)I" } : Jvm.MethodName)) ∈ lw_g := mg5 44 rfl rfl
theorem w_1087 : (Jvm.Cond.code ({ cls := "MoonLineModel", name := "at", desc := "(II)I" } : Jvm.MethodName) prog_12_method_13_code (4 : Nat) (Option.some Jvm.ClassFile.FieldType.int)) ∈ lw_g := mg5 45 rfl rfl
theorem w_1088 : (Jvm.Cond.methodLink "MoonLineLaw" (31 : Nat) ({ cls := "MoonLineModel", name := "tear", desc := "(I)I" } : Jvm.MethodName)) ∈ lw_g := mg5 46 rfl rfl
theorem w_1089 : (Jvm.Cond.instanceMethod ({ cls := "MoonLineModel", name := "tear", desc := "(I)I" } : Jvm.MethodName)) ∈ lw_g := mg5 47 rfl rfl
theorem w_1090 : (Jvm.Cond.selects "MoonLineModel" ({ cls := "MoonLineModel", name := "tear", desc := "(I)I" } : Jvm.MethodName) ({ cls := "MoonLineModel", name := "tear", desc := "(I)I" } : Jvm.MethodName)) ∈ lw_g := mg5 48 rfl rfl
theorem w_1091 : (Jvm.Cond.code ({ cls := "MoonLineModel", name := "tear", desc := "(I)I" } : Jvm.MethodName) prog_12_method_14_code (2 : Nat) (Option.some Jvm.ClassFile.FieldType.int)) ∈ lw_g := mg5 49 rfl rfl
theorem w_1092 : (Jvm.Cond.methodLink "MoonLineLaw" (36 : Nat) ({ cls := "MoonLineModel", name := "copy", desc := "(IIIII)I" } : Jvm.MethodName)) ∈ lw_g := mg5 50 rfl rfl
theorem w_1093 : (Jvm.Cond.instanceMethod ({ cls := "MoonLineModel", name := "copy", desc := "(IIIII)I" } : Jvm.MethodName)) ∈ lw_g := mg5 51 rfl rfl
theorem w_1094 : (Jvm.Cond.selects "MoonLineModel" ({ cls := "MoonLineModel", name := "copy", desc := "(IIIII)I" } : Jvm.MethodName) ({ cls := "MoonLineModel", name := "copy", desc := "(IIIII)I" } : Jvm.MethodName)) ∈ lw_g := mg5 52 rfl rfl
theorem w_1095 : (Jvm.Cond.code ({ cls := "MoonLineModel", name := "copy", desc := "(IIIII)I" } : Jvm.MethodName) prog_12_method_16_code (9 : Nat) (Option.some Jvm.ClassFile.FieldType.int)) ∈ lw_g := mg5 53 rfl rfl
theorem w_1096 : (Jvm.Cond.methodLink "MoonLineModel" (92 : Nat) ({ cls := "MoonLineModel", name := "isSpan", desc := "(III)Z" } : Jvm.MethodName)) ∈ lw_g := mg5 54 rfl rfl
theorem w_1098 : (Jvm.Cond.instanceMethod ({ cls := "MoonLineModel", name := "isSpan", desc := "(III)Z" } : Jvm.MethodName)) ∈ lw_g := mg5 56 rfl rfl
theorem w_1099 : (Jvm.Cond.code ({ cls := "MoonLineModel", name := "isSpan", desc := "(III)Z" } : Jvm.MethodName) prog_12_method_15_code (4 : Nat) (Option.some Jvm.ClassFile.FieldType.boolean)) ∈ lw_g := mg5 57 rfl rfl
theorem w_1100 : (Jvm.Cond.methodLink "MoonLineLaw" (40 : Nat) ({ cls := "MoonLineModel", name := "mean", desc := "(I)I" } : Jvm.MethodName)) ∈ lw_g := mg5 58 rfl rfl
theorem w_1101 : (Jvm.Cond.instanceMethod ({ cls := "MoonLineModel", name := "mean", desc := "(I)I" } : Jvm.MethodName)) ∈ lw_g := mg5 59 rfl rfl
theorem w_1102 : (Jvm.Cond.selects "MoonLineModel" ({ cls := "MoonLineModel", name := "mean", desc := "(I)I" } : Jvm.MethodName) ({ cls := "MoonLineModel", name := "mean", desc := "(I)I" } : Jvm.MethodName)) ∈ lw_g := mg5 60 rfl rfl
theorem w_1103 : (Jvm.Cond.code ({ cls := "MoonLineModel", name := "mean", desc := "(I)I" } : Jvm.MethodName) prog_12_method_17_code (5 : Nat) (Option.some Jvm.ClassFile.FieldType.int)) ∈ lw_g := mg5 61 rfl rfl
theorem w_1104 : (Jvm.Cond.methodLink "MoonLineLaw" (44 : Nat) ({ cls := "MoonLineModel", name := "text", desc := "(II)I" } : Jvm.MethodName)) ∈ lw_g := mg5 62 rfl rfl
theorem w_1105 : (Jvm.Cond.instanceMethod ({ cls := "MoonLineModel", name := "text", desc := "(II)I" } : Jvm.MethodName)) ∈ lw_g := mg5 63 rfl rfl
theorem w_1106 : (Jvm.Cond.selects "MoonLineModel" ({ cls := "MoonLineModel", name := "text", desc := "(II)I" } : Jvm.MethodName) ({ cls := "MoonLineModel", name := "text", desc := "(II)I" } : Jvm.MethodName)) ∈ lw_g := mg5 64 rfl rfl
theorem w_1107 : (Jvm.Cond.code ({ cls := "MoonLineModel", name := "text", desc := "(II)I" } : Jvm.MethodName) prog_12_method_18_code (4 : Nat) (Option.some Jvm.ClassFile.FieldType.int)) ∈ lw_g := mg5 65 rfl rfl
theorem w_1108 : (Jvm.Cond.methodLink "MoonLineModel" (96 : Nat) ({ cls := "MoonLineModel", name := "isText", desc := "(I)Z" } : Jvm.MethodName)) ∈ lw_g := mg5 66 rfl rfl
theorem w_1109 : (Jvm.Cond.static ({ cls := "MoonLineModel", name := "isText", desc := "(I)Z" } : Jvm.MethodName)) ∈ lw_g := mg5 67 rfl rfl
theorem w_1110 : (Jvm.Cond.code ({ cls := "MoonLineModel", name := "isText", desc := "(I)Z" } : Jvm.MethodName) prog_12_method_8_code (1 : Nat) (Option.some Jvm.ClassFile.FieldType.boolean)) ∈ lw_g := mg5 68 rfl rfl
theorem w_1111 : (Jvm.Cond.constantLong "MoonLineModel" (71 : Nat) (3 : Int64)) ∈ lw_g := mg5 69 rfl rfl
theorem w_1112 : (Jvm.Cond.methodLink "MoonLineLaw" (48 : Nat) ({ cls := "MoonLineModel", name := "put", desc := "(III)I" } : Jvm.MethodName)) ∈ lw_g := mg5 70 rfl rfl
theorem w_1113 : (Jvm.Cond.instanceMethod ({ cls := "MoonLineModel", name := "put", desc := "(III)I" } : Jvm.MethodName)) ∈ lw_g := mg5 71 rfl rfl
theorem w_1114 : (Jvm.Cond.selects "MoonLineModel" ({ cls := "MoonLineModel", name := "put", desc := "(III)I" } : Jvm.MethodName) ({ cls := "MoonLineModel", name := "put", desc := "(III)I" } : Jvm.MethodName)) ∈ lw_g := mg5 72 rfl rfl
theorem w_1115 : (Jvm.Cond.code ({ cls := "MoonLineModel", name := "put", desc := "(III)I" } : Jvm.MethodName) prog_12_method_19_code (5 : Nat) (Option.some Jvm.ClassFile.FieldType.int)) ∈ lw_g := mg5 73 rfl rfl
theorem w_1116 : (Jvm.Cond.methodLink "MoonLineLaw" (52 : Nat) ({ cls := "MoonLineModel", name := "fault", desc := "(I)I" } : Jvm.MethodName)) ∈ lw_g := mg5 74 rfl rfl
theorem w_1117 : (Jvm.Cond.instanceMethod ({ cls := "MoonLineModel", name := "fault", desc := "(I)I" } : Jvm.MethodName)) ∈ lw_g := mg5 75 rfl rfl
theorem w_1118 : (Jvm.Cond.selects "MoonLineModel" ({ cls := "MoonLineModel", name := "fault", desc := "(I)I" } : Jvm.MethodName) ({ cls := "MoonLineModel", name := "fault", desc := "(I)I" } : Jvm.MethodName)) ∈ lw_g := mg5 76 rfl rfl
theorem w_1119 : (Jvm.Cond.code ({ cls := "MoonLineModel", name := "fault", desc := "(I)I" } : Jvm.MethodName) prog_12_method_26_code (2 : Nat) (Option.some Jvm.ClassFile.FieldType.int)) ∈ lw_g := mg5 77 rfl rfl
theorem w_1120 : (Jvm.Cond.methodLink "MoonLineModel" (130 : Nat) ({ cls := "MoonLineModel", name := "faultOf", desc := "(I)I" } : Jvm.MethodName)) ∈ lw_g := mg5 78 rfl rfl
theorem w_1122 : (Jvm.Cond.instanceMethod ({ cls := "MoonLineModel", name := "faultOf", desc := "(I)I" } : Jvm.MethodName)) ∈ lw_g := mg5 80 rfl rfl
theorem w_1123 : (Jvm.Cond.code ({ cls := "MoonLineModel", name := "faultOf", desc := "(I)I" } : Jvm.MethodName) prog_12_method_25_code (3 : Nat) (Option.some Jvm.ClassFile.FieldType.int)) ∈ lw_g := mg5 81 rfl rfl
theorem w_1124 : (Jvm.Cond.methodLink "MoonLineModel" (123 : Nat) ({ cls := "MoonLineModel", name := "skip", desc := "()V" } : Jvm.MethodName)) ∈ lw_g := mg5 82 rfl rfl
theorem w_1126 : (Jvm.Cond.instanceMethod ({ cls := "MoonLineModel", name := "skip", desc := "()V" } : Jvm.MethodName)) ∈ lw_g := mg5 84 rfl rfl
theorem w_1127 : (Jvm.Cond.code ({ cls := "MoonLineModel", name := "skip", desc := "()V" } : Jvm.MethodName) prog_12_method_21_code (1 : Nat) (Option.none : Option Jvm.ClassFile.FieldType)) ∈ lw_g := mg5 85 rfl rfl
theorem w_1128 : (Jvm.Cond.methodLink "MoonLineModel" (108 : Nat) ({ cls := "MoonLineModel", name := "here", desc := "()I" } : Jvm.MethodName)) ∈ lw_g := mg5 86 rfl rfl
theorem w_1130 : (Jvm.Cond.instanceMethod ({ cls := "MoonLineModel", name := "here", desc := "()I" } : Jvm.MethodName)) ∈ lw_g := mg5 88 rfl rfl
theorem w_1131 : (Jvm.Cond.code ({ cls := "MoonLineModel", name := "here", desc := "()I" } : Jvm.MethodName) prog_12_method_20_code (1 : Nat) (Option.some Jvm.ClassFile.FieldType.int)) ∈ lw_g := mg5 89 rfl rfl
theorem w_1132 : (Jvm.Cond.methodLink "MoonLineModel" (126 : Nat) ({ cls := "MoonLineModel", name := "readsPerson", desc := "()Z" } : Jvm.MethodName)) ∈ lw_g := mg5 90 rfl rfl
theorem w_1134 : (Jvm.Cond.instanceMethod ({ cls := "MoonLineModel", name := "readsPerson", desc := "()Z" } : Jvm.MethodName)) ∈ lw_g := mg5 92 rfl rfl
theorem w_1135 : (Jvm.Cond.code ({ cls := "MoonLineModel", name := "readsPerson", desc := "()Z" } : Jvm.MethodName) prog_12_method_24_code (4 : Nat) (Option.some Jvm.ClassFile.FieldType.boolean)) ∈ lw_g := mg5 93 rfl rfl
theorem w_1136 : (Jvm.Cond.methodLink "MoonLineModel" (114 : Nat) ({ cls := "MoonLineModel", name := "kindOfLetter", desc := "(I)I" } : Jvm.MethodName)) ∈ lw_g := mg5 94 rfl rfl
theorem w_1137 : (Jvm.Cond.static ({ cls := "MoonLineModel", name := "kindOfLetter", desc := "(I)I" } : Jvm.MethodName)) ∈ lw_g := mg5 95 rfl rfl
theorem w_1138 : (Jvm.Cond.code ({ cls := "MoonLineModel", name := "kindOfLetter", desc := "(I)I" } : Jvm.MethodName) prog_12_method_23_code (1 : Nat) (Option.some Jvm.ClassFile.FieldType.int)) ∈ lw_g := mg5 96 rfl rfl
theorem w_1139 : (Jvm.Cond.methodLink "MoonLineModel" (120 : Nat) ({ cls := "MoonLineModel", name := "figure", desc := "(I)I" } : Jvm.MethodName)) ∈ lw_g := mg5 97 rfl rfl
theorem w_1141 : (Jvm.Cond.instanceMethod ({ cls := "MoonLineModel", name := "figure", desc := "(I)I" } : Jvm.MethodName)) ∈ lw_g := mg5 99 rfl rfl
theorem w_1142 : (Jvm.Cond.code ({ cls := "MoonLineModel", name := "figure", desc := "(I)I" } : Jvm.MethodName) prog_12_method_22_code (2 : Nat) (Option.some Jvm.ClassFile.FieldType.int)) ∈ lw_g := mg5 100 rfl rfl
theorem w_1143 : (Jvm.Cond.constantLong "MoonLineModel" (112 : Nat) (57 : Int64)) ∈ lw_g := mg5 101 rfl rfl
theorem w_1144 : (Jvm.Cond.methodLink "MoonLineLaw" (56 : Nat) ({ cls := "MoonLineModel", name := "line", desc := "(I)I" } : Jvm.MethodName)) ∈ lw_g := mg5 102 rfl rfl
theorem w_1145 : (Jvm.Cond.instanceMethod ({ cls := "MoonLineModel", name := "line", desc := "(I)I" } : Jvm.MethodName)) ∈ lw_g := mg5 103 rfl rfl
theorem w_1146 : (Jvm.Cond.selects "MoonLineModel" ({ cls := "MoonLineModel", name := "line", desc := "(I)I" } : Jvm.MethodName) ({ cls := "MoonLineModel", name := "line", desc := "(I)I" } : Jvm.MethodName)) ∈ lw_g := mg5 104 rfl rfl
theorem w_1147 : (Jvm.Cond.code ({ cls := "MoonLineModel", name := "line", desc := "(I)I" } : Jvm.MethodName) prog_12_method_27_code (4 : Nat) (Option.some Jvm.ClassFile.FieldType.int)) ∈ lw_g := mg5 105 rfl rfl
theorem w_1148 : (Jvm.Cond.methodLink "MoonLineLaw" (60 : Nat) ({ cls := "MoonLineModel", name := "person", desc := "(II)I" } : Jvm.MethodName)) ∈ lw_g := mg5 106 rfl rfl
theorem w_1149 : (Jvm.Cond.instanceMethod ({ cls := "MoonLineModel", name := "person", desc := "(II)I" } : Jvm.MethodName)) ∈ lw_g := mg5 107 rfl rfl
theorem w_1150 : (Jvm.Cond.selects "MoonLineModel" ({ cls := "MoonLineModel", name := "person", desc := "(II)I" } : Jvm.MethodName) ({ cls := "MoonLineModel", name := "person", desc := "(II)I" } : Jvm.MethodName)) ∈ lw_g := mg5 108 rfl rfl
theorem w_1151 : (Jvm.Cond.code ({ cls := "MoonLineModel", name := "person", desc := "(II)I" } : Jvm.MethodName) prog_12_method_43_code (3 : Nat) (Option.some Jvm.ClassFile.FieldType.int)) ∈ lw_g := mg5 109 rfl rfl
theorem w_1152 : (Jvm.Cond.methodLink "MoonLineModel" (172 : Nat) ({ cls := "MoonLineModel", name := "isPerson", desc := "(I)Z" } : Jvm.MethodName)) ∈ lw_g := mg5 110 rfl rfl
theorem w_1154 : (Jvm.Cond.instanceMethod ({ cls := "MoonLineModel", name := "isPerson", desc := "(I)Z" } : Jvm.MethodName)) ∈ lw_g := mg5 112 rfl rfl
theorem w_1155 : (Jvm.Cond.code ({ cls := "MoonLineModel", name := "isPerson", desc := "(I)Z" } : Jvm.MethodName) prog_12_method_28_code (2 : Nat) (Option.some Jvm.ClassFile.FieldType.boolean)) ∈ lw_g := mg5 113 rfl rfl
theorem w_1156 : (Jvm.Cond.constantLong "MoonLineModel" (175 : Nat) (6 : Int64)) ∈ lw_g := mg5 114 rfl rfl
theorem w_1157 : (Jvm.Cond.methodLink "MoonLineModel" (177 : Nat) ({ cls := "MoonLineModel", name := "toldOf", desc := "(II)I" } : Jvm.MethodName)) ∈ lw_g := mg5 115 rfl rfl
theorem w_1159 : (Jvm.Cond.instanceMethod ({ cls := "MoonLineModel", name := "toldOf", desc := "(II)I" } : Jvm.MethodName)) ∈ lw_g := mg5 117 rfl rfl
theorem w_1160 : (Jvm.Cond.code ({ cls := "MoonLineModel", name := "toldOf", desc := "(II)I" } : Jvm.MethodName) prog_12_method_42_code (3 : Nat) (Option.some Jvm.ClassFile.FieldType.int)) ∈ lw_g := mg5 118 rfl rfl
theorem w_1161 : (Jvm.Cond.methodLink "MoonLineModel" (140 : Nat) ({ cls := "MoonLineModel", name := "placeOf", desc := "(II)I" } : Jvm.MethodName)) ∈ lw_g := mg5 119 rfl rfl
theorem w_1163 : (Jvm.Cond.instanceMethod ({ cls := "MoonLineModel", name := "placeOf", desc := "(II)I" } : Jvm.MethodName)) ∈ lw_g := mg5 121 rfl rfl
theorem w_1164 : (Jvm.Cond.code ({ cls := "MoonLineModel", name := "placeOf", desc := "(II)I" } : Jvm.MethodName) prog_12_method_31_code (4 : Nat) (Option.some Jvm.ClassFile.FieldType.int)) ∈ lw_g := mg5 122 rfl rfl
theorem w_1165 : (Jvm.Cond.methodLink "MoonLineLaw" (64 : Nat) ({ cls := "MoonLineModel", name := "mark", desc := "(II)I" } : Jvm.MethodName)) ∈ lw_g := mg5 123 rfl rfl
theorem w_1166 : (Jvm.Cond.instanceMethod ({ cls := "MoonLineModel", name := "mark", desc := "(II)I" } : Jvm.MethodName)) ∈ lw_g := mg5 124 rfl rfl
theorem w_1167 : (Jvm.Cond.selects "MoonLineModel" ({ cls := "MoonLineModel", name := "mark", desc := "(II)I" } : Jvm.MethodName) ({ cls := "MoonLineModel", name := "mark", desc := "(II)I" } : Jvm.MethodName)) ∈ lw_g := mg5 125 rfl rfl
theorem w_1168 : (Jvm.Cond.code ({ cls := "MoonLineModel", name := "mark", desc := "(II)I" } : Jvm.MethodName) prog_12_method_46_code (5 : Nat) (Option.some Jvm.ClassFile.FieldType.int)) ∈ lw_g := mg5 126 rfl rfl
theorem w_1169 : (Jvm.Cond.methodLink "MoonLineModel" (180 : Nat) ({ cls := "MoonLineModel", name := "isOf", desc := "(II)Z" } : Jvm.MethodName)) ∈ lw_g := mg5 127 rfl rfl
theorem w_1171 : (Jvm.Cond.instanceMethod ({ cls := "MoonLineModel", name := "isOf", desc := "(II)Z" } : Jvm.MethodName)) ∈ lw_g := mg5 129 rfl rfl
theorem w_1172 : (Jvm.Cond.code ({ cls := "MoonLineModel", name := "isOf", desc := "(II)Z" } : Jvm.MethodName) prog_12_method_44_code (3 : Nat) (Option.some Jvm.ClassFile.FieldType.boolean)) ∈ lw_g := mg5 130 rfl rfl
theorem w_1173 : (Jvm.Cond.methodLink "MoonLineModel" (183 : Nat) ({ cls := "MoonLineModel", name := "sleeping", desc := "(IIZ)I" } : Jvm.MethodName)) ∈ lw_g := mg5 131 rfl rfl
theorem w_1175 : (Jvm.Cond.instanceMethod ({ cls := "MoonLineModel", name := "sleeping", desc := "(IIZ)I" } : Jvm.MethodName)) ∈ lw_g := mg5 133 rfl rfl
theorem w_1176 : (Jvm.Cond.code ({ cls := "MoonLineModel", name := "sleeping", desc := "(IIZ)I" } : Jvm.MethodName) prog_12_method_45_code (6 : Nat) (Option.some Jvm.ClassFile.FieldType.int)) ∈ lw_g := mg5 134 rfl rfl
theorem w_1177 : (Jvm.Cond.methodLink "MoonLineModel" (143 : Nat) ({ cls := "MoonLineModel", name := "sleepsAt", desc := "(II)Z" } : Jvm.MethodName)) ∈ lw_g := mg5 135 rfl rfl
theorem w_1179 : (Jvm.Cond.instanceMethod ({ cls := "MoonLineModel", name := "sleepsAt", desc := "(II)Z" } : Jvm.MethodName)) ∈ lw_g := mg5 137 rfl rfl
theorem w_1180 : (Jvm.Cond.code ({ cls := "MoonLineModel", name := "sleepsAt", desc := "(II)Z" } : Jvm.MethodName) prog_12_method_30_code (3 : Nat) (Option.some Jvm.ClassFile.FieldType.boolean)) ∈ lw_g := mg5 138 rfl rfl
theorem w_1181 : (Jvm.Cond.methodLink "MoonLineModel" (136 : Nat) ({ cls := "MoonLineModel", name := "isAsleep", desc := "(II)Z" } : Jvm.MethodName)) ∈ lw_g := mg5 139 rfl rfl
theorem w_1183 : (Jvm.Cond.instanceMethod ({ cls := "MoonLineModel", name := "isAsleep", desc := "(II)Z" } : Jvm.MethodName)) ∈ lw_g := mg5 141 rfl rfl
theorem w_1184 : (Jvm.Cond.code ({ cls := "MoonLineModel", name := "isAsleep", desc := "(II)Z" } : Jvm.MethodName) prog_12_method_29_code (3 : Nat) (Option.some Jvm.ClassFile.FieldType.boolean)) ∈ lw_g := mg5 142 rfl rfl
theorem w_1185 : (Jvm.Cond.methodLink "MoonLineModel" (155 : Nat) ({ cls := "MoonLineModel", name := "awakeFrom", desc := "(II)I" } : Jvm.MethodName)) ∈ lw_g := mg5 143 rfl rfl
theorem w_1187 : (Jvm.Cond.instanceMethod ({ cls := "MoonLineModel", name := "awakeFrom", desc := "(II)I" } : Jvm.MethodName)) ∈ lw_g := mg5 145 rfl rfl
theorem w_1188 : (Jvm.Cond.code ({ cls := "MoonLineModel", name := "awakeFrom", desc := "(II)I" } : Jvm.MethodName) prog_12_method_36_code (4 : Nat) (Option.some Jvm.ClassFile.FieldType.int)) ∈ lw_g := mg5 146 rfl rfl
theorem w_1189 : (Jvm.Cond.methodLink "MoonLineLaw" (68 : Nat) ({ cls := "MoonLineModel", name := "price", desc := "(II)I" } : Jvm.MethodName)) ∈ lw_g := mg5 147 rfl rfl
theorem w_1190 : (Jvm.Cond.instanceMethod ({ cls := "MoonLineModel", name := "price", desc := "(II)I" } : Jvm.MethodName)) ∈ lw_g := mg5 148 rfl rfl
theorem w_1191 : (Jvm.Cond.selects "MoonLineModel" ({ cls := "MoonLineModel", name := "price", desc := "(II)I" } : Jvm.MethodName) ({ cls := "MoonLineModel", name := "price", desc := "(II)I" } : Jvm.MethodName)) ∈ lw_g := mg5 149 rfl rfl
theorem w_1192 : (Jvm.Cond.code ({ cls := "MoonLineModel", name := "price", desc := "(II)I" } : Jvm.MethodName) prog_12_method_47_code (4 : Nat) (Option.some Jvm.ClassFile.FieldType.int)) ∈ lw_g := mg5 150 rfl rfl
theorem w_1193 : (Jvm.Cond.constantLong "MoonLineModel" (187 : Nat) (9 : Int64)) ∈ lw_g := mg5 151 rfl rfl
theorem w_1194 : (Jvm.Cond.methodLink "MoonLineLaw" (72 : Nat) ({ cls := "MoonLineModel", name := "night", desc := "(I)I" } : Jvm.MethodName)) ∈ lw_g := mg5 152 rfl rfl
theorem w_1195 : (Jvm.Cond.instanceMethod ({ cls := "MoonLineModel", name := "night", desc := "(I)I" } : Jvm.MethodName)) ∈ lw_g := mg5 153 rfl rfl
theorem w_1196 : (Jvm.Cond.selects "MoonLineModel" ({ cls := "MoonLineModel", name := "night", desc := "(I)I" } : Jvm.MethodName) ({ cls := "MoonLineModel", name := "night", desc := "(I)I" } : Jvm.MethodName)) ∈ lw_g := mg5 154 rfl rfl
theorem w_1197 : (Jvm.Cond.code ({ cls := "MoonLineModel", name := "night", desc := "(I)I" } : Jvm.MethodName) prog_12_method_49_code (2 : Nat) (Option.some Jvm.ClassFile.FieldType.int)) ∈ lw_g := mg5 155 rfl rfl
theorem w_1198 : (Jvm.Cond.methodLink "MoonLineModel" (189 : Nat) ({ cls := "MoonLineModel", name := "keepPast", desc := "()V" } : Jvm.MethodName)) ∈ lw_g := mg5 156 rfl rfl
theorem w_1200 : (Jvm.Cond.instanceMethod ({ cls := "MoonLineModel", name := "keepPast", desc := "()V" } : Jvm.MethodName)) ∈ lw_g := mg5 158 rfl rfl
theorem w_1201 : (Jvm.Cond.code ({ cls := "MoonLineModel", name := "keepPast", desc := "()V" } : Jvm.MethodName) prog_12_method_48_code (2 : Nat) (Option.none : Option Jvm.ClassFile.FieldType)) ∈ lw_g := mg5 159 rfl rfl
theorem w_1202 : (Jvm.Cond.methodLink "MoonLineModel" (192 : Nat) ({ cls := "MoonLineModel", name := "pass", desc := "(II)I" } : Jvm.MethodName)) ∈ lw_g := mg5 160 rfl rfl
theorem w_1204 : (Jvm.Cond.instanceMethod ({ cls := "MoonLineModel", name := "pass", desc := "(II)I" } : Jvm.MethodName)) ∈ lw_g := mg5 162 rfl rfl
theorem w_1205 : (Jvm.Cond.code ({ cls := "MoonLineModel", name := "pass", desc := "(II)I" } : Jvm.MethodName) prog_12_method_39_code (7 : Nat) (Option.some Jvm.ClassFile.FieldType.int)) ∈ lw_g := mg5 163 rfl rfl
theorem w_1206 : (Jvm.Cond.methodLink "MoonLineModel" (158 : Nat) ({ cls := "MoonLineModel", name := "pushes", desc := "(I)V" } : Jvm.MethodName)) ∈ lw_g := mg5 164 rfl rfl
theorem w_1208 : (Jvm.Cond.instanceMethod ({ cls := "MoonLineModel", name := "pushes", desc := "(I)V" } : Jvm.MethodName)) ∈ lw_g := mg5 166 rfl rfl
theorem w_1209 : (Jvm.Cond.code ({ cls := "MoonLineModel", name := "pushes", desc := "(I)V" } : Jvm.MethodName) prog_12_method_35_code (6 : Nat) (Option.none : Option Jvm.ClassFile.FieldType)) ∈ lw_g := mg5 167 rfl rfl
theorem w_1210 : (Jvm.Cond.methodLink "MoonLineModel" (149 : Nat) ({ cls := "MoonLineModel", name := "isPusher", desc := "(I)Z" } : Jvm.MethodName)) ∈ lw_g := mg5 168 rfl rfl
theorem w_1211 : (Jvm.Cond.static ({ cls := "MoonLineModel", name := "isPusher", desc := "(I)Z" } : Jvm.MethodName)) ∈ lw_g := mg5 169 rfl rfl
theorem w_1212 : (Jvm.Cond.code ({ cls := "MoonLineModel", name := "isPusher", desc := "(I)Z" } : Jvm.MethodName) prog_12_method_32_code (1 : Nat) (Option.some Jvm.ClassFile.FieldType.boolean)) ∈ lw_g := mg5 170 rfl rfl
theorem w_1213 : (Jvm.Cond.methodLink "MoonLineModel" (152 : Nat) ({ cls := "MoonLineModel", name := "goesAhead", desc := "(II)Z" } : Jvm.MethodName)) ∈ lw_g := mg5 171 rfl rfl
theorem w_1215 : (Jvm.Cond.instanceMethod ({ cls := "MoonLineModel", name := "goesAhead", desc := "(II)Z" } : Jvm.MethodName)) ∈ lw_g := mg5 173 rfl rfl
theorem w_1216 : (Jvm.Cond.code ({ cls := "MoonLineModel", name := "goesAhead", desc := "(II)Z" } : Jvm.MethodName) prog_12_method_34_code (5 : Nat) (Option.some Jvm.ClassFile.FieldType.boolean)) ∈ lw_g := mg5 174 rfl rfl
theorem w_1217 : (Jvm.Cond.methodLink "MoonLineModel" (146 : Nat) ({ cls := "MoonLineModel", name := "swap", desc := "(II)V" } : Jvm.MethodName)) ∈ lw_g := mg5 175 rfl rfl
theorem w_1219 : (Jvm.Cond.instanceMethod ({ cls := "MoonLineModel", name := "swap", desc := "(II)V" } : Jvm.MethodName)) ∈ lw_g := mg5 177 rfl rfl
theorem w_1220 : (Jvm.Cond.code ({ cls := "MoonLineModel", name := "swap", desc := "(II)V" } : Jvm.MethodName) prog_12_method_33_code (4 : Nat) (Option.none : Option Jvm.ClassFile.FieldType)) ∈ lw_g := mg5 178 rfl rfl
theorem w_1221 : (Jvm.Cond.methodLink "MoonLineModel" (162 : Nat) ({ cls := "MoonLineModel", name := "goer", desc := "(I)I" } : Jvm.MethodName)) ∈ lw_g := mg5 179 rfl rfl
theorem w_1223 : (Jvm.Cond.instanceMethod ({ cls := "MoonLineModel", name := "goer", desc := "(I)I" } : Jvm.MethodName)) ∈ lw_g := mg5 181 rfl rfl
theorem w_1224 : (Jvm.Cond.code ({ cls := "MoonLineModel", name := "goer", desc := "(I)I" } : Jvm.MethodName) prog_12_method_38_code (4 : Nat) (Option.some Jvm.ClassFile.FieldType.int)) ∈ lw_g := mg5 182 rfl rfl
theorem w_1225 : (Jvm.Cond.methodLink "MoonLineModel" (165 : Nat) ({ cls := "MoonLineModel", name := "leaves", desc := "(II)V" } : Jvm.MethodName)) ∈ lw_g := mg5 183 rfl rfl
theorem w_1227 : (Jvm.Cond.instanceMethod ({ cls := "MoonLineModel", name := "leaves", desc := "(II)V" } : Jvm.MethodName)) ∈ lw_g := mg5 185 rfl rfl
theorem w_1228 : (Jvm.Cond.code ({ cls := "MoonLineModel", name := "leaves", desc := "(II)V" } : Jvm.MethodName) prog_12_method_37_code (4 : Nat) (Option.none : Option Jvm.ClassFile.FieldType)) ∈ lw_g := mg5 186 rfl rfl
theorem w_1229 : (Jvm.Cond.methodLink "MoonLineLaw" (76 : Nat) ({ cls := "MoonLineModel", name := "trade", desc := "(II)I" } : Jvm.MethodName)) ∈ lw_g := mg5 187 rfl rfl
theorem w_1230 : (Jvm.Cond.instanceMethod ({ cls := "MoonLineModel", name := "trade", desc := "(II)I" } : Jvm.MethodName)) ∈ lw_g := mg5 188 rfl rfl
theorem w_1231 : (Jvm.Cond.selects "MoonLineModel" ({ cls := "MoonLineModel", name := "trade", desc := "(II)I" } : Jvm.MethodName) ({ cls := "MoonLineModel", name := "trade", desc := "(II)I" } : Jvm.MethodName)) ∈ lw_g := mg5 189 rfl rfl
theorem w_1232 : (Jvm.Cond.code ({ cls := "MoonLineModel", name := "trade", desc := "(II)I" } : Jvm.MethodName) prog_12_method_51_code (5 : Nat) (Option.some Jvm.ClassFile.FieldType.int)) ∈ lw_g := mg5 190 rfl rfl
theorem w_1233 : (Jvm.Cond.methodLink "MoonLineModel" (195 : Nat) ({ cls := "MoonLineModel", name := "areTwo", desc := "(II)Z" } : Jvm.MethodName)) ∈ lw_g := mg5 191 rfl rfl
theorem w_1235 : (Jvm.Cond.instanceMethod ({ cls := "MoonLineModel", name := "areTwo", desc := "(II)Z" } : Jvm.MethodName)) ∈ lw_g := mg5 193 rfl rfl
theorem w_1236 : (Jvm.Cond.code ({ cls := "MoonLineModel", name := "areTwo", desc := "(II)Z" } : Jvm.MethodName) prog_12_method_50_code (3 : Nat) (Option.some Jvm.ClassFile.FieldType.boolean)) ∈ lw_g := mg5 194 rfl rfl
theorem w_1237 : (Jvm.Cond.methodLink "MoonLineLaw" (80 : Nat) ({ cls := "MoonLineModel", name := "undo", desc := "(I)I" } : Jvm.MethodName)) ∈ lw_g := mg5 195 rfl rfl
theorem w_1238 : (Jvm.Cond.instanceMethod ({ cls := "MoonLineModel", name := "undo", desc := "(I)I" } : Jvm.MethodName)) ∈ lw_g := mg5 196 rfl rfl
theorem w_1239 : (Jvm.Cond.selects "MoonLineModel" ({ cls := "MoonLineModel", name := "undo", desc := "(I)I" } : Jvm.MethodName) ({ cls := "MoonLineModel", name := "undo", desc := "(I)I" } : Jvm.MethodName)) ∈ lw_g := mg5 197 rfl rfl
theorem w_1240 : (Jvm.Cond.code ({ cls := "MoonLineModel", name := "undo", desc := "(I)I" } : Jvm.MethodName) prog_12_method_52_code (4 : Nat) (Option.some Jvm.ClassFile.FieldType.int)) ∈ lw_g := mg5 198 rfl rfl
theorem w_1241 : (Jvm.Cond.methodLink "MoonLineLaw" (84 : Nat) ({ cls := "MoonLineModel", name := "keep", desc := "(I)I" } : Jvm.MethodName)) ∈ lw_g := mg5 199 rfl rfl
theorem w_1242 : (Jvm.Cond.instanceMethod ({ cls := "MoonLineModel", name := "keep", desc := "(I)I" } : Jvm.MethodName)) ∈ lw_g := mg5 200 rfl rfl
theorem w_1243 : (Jvm.Cond.selects "MoonLineModel" ({ cls := "MoonLineModel", name := "keep", desc := "(I)I" } : Jvm.MethodName) ({ cls := "MoonLineModel", name := "keep", desc := "(I)I" } : Jvm.MethodName)) ∈ lw_g := mg5 201 rfl rfl
theorem w_1244 : (Jvm.Cond.code ({ cls := "MoonLineModel", name := "keep", desc := "(I)I" } : Jvm.MethodName) prog_12_method_53_code (2 : Nat) (Option.some Jvm.ClassFile.FieldType.int)) ∈ lw_g := mg5 202 rfl rfl
theorem w_1245 : (Jvm.Cond.constantLong "MoonLineModel" (198 : Nat) (2 : Int64)) ∈ lw_g := mg5 203 rfl rfl
theorem w_1246 : (Jvm.Cond.methodLink "MoonLineModel" (168 : Nat) ({ cls := "MoonLineModel", name := "copyLine", desc := "(III)V" } : Jvm.MethodName)) ∈ lw_g := mg5 204 rfl rfl
theorem w_1248 : (Jvm.Cond.instanceMethod ({ cls := "MoonLineModel", name := "copyLine", desc := "(III)V" } : Jvm.MethodName)) ∈ lw_g := mg5 206 rfl rfl
theorem w_1249 : (Jvm.Cond.code ({ cls := "MoonLineModel", name := "copyLine", desc := "(III)V" } : Jvm.MethodName) prog_12_method_40_code (5 : Nat) (Option.none : Option Jvm.ClassFile.FieldType)) ∈ lw_g := mg5 207 rfl rfl
theorem w_1250 : (Jvm.Cond.methodLink "MoonLineLaw" (88 : Nat) ({ cls := "MoonLineModel", name := "on", desc := "(I)I" } : Jvm.MethodName)) ∈ lw_g := mg5 208 rfl rfl
theorem w_1251 : (Jvm.Cond.instanceMethod ({ cls := "MoonLineModel", name := "on", desc := "(I)I" } : Jvm.MethodName)) ∈ lw_g := mg5 209 rfl rfl
theorem w_1252 : (Jvm.Cond.selects "MoonLineModel" ({ cls := "MoonLineModel", name := "on", desc := "(I)I" } : Jvm.MethodName) ({ cls := "MoonLineModel", name := "on", desc := "(I)I" } : Jvm.MethodName)) ∈ lw_g := mg5 210 rfl rfl
theorem w_1253 : (Jvm.Cond.code ({ cls := "MoonLineModel", name := "on", desc := "(I)I" } : Jvm.MethodName) prog_12_method_54_code (2 : Nat) (Option.some Jvm.ClassFile.FieldType.int)) ∈ lw_g := mg5 211 rfl rfl
theorem w_1254 : (Jvm.Cond.methodLink "MoonLineLaw" (93 : Nat) ({ cls := "MoonLineModel", name := "tonight", desc := "()I" } : Jvm.MethodName)) ∈ lw_g := mg5 212 rfl rfl
theorem w_1255 : (Jvm.Cond.instanceMethod ({ cls := "MoonLineModel", name := "tonight", desc := "()I" } : Jvm.MethodName)) ∈ lw_g := mg5 213 rfl rfl
theorem w_1256 : (Jvm.Cond.selects "MoonLineModel" ({ cls := "MoonLineModel", name := "tonight", desc := "()I" } : Jvm.MethodName) ({ cls := "MoonLineModel", name := "tonight", desc := "()I" } : Jvm.MethodName)) ∈ lw_g := mg5 214 rfl rfl
theorem w_1257 : (Jvm.Cond.code ({ cls := "MoonLineModel", name := "tonight", desc := "()I" } : Jvm.MethodName) prog_12_method_55_code (3 : Nat) (Option.some Jvm.ClassFile.FieldType.int)) ∈ lw_g := mg5 215 rfl rfl
theorem w_1258 : (Jvm.Cond.methodLink "MoonLineModel" (200 : Nat) ({ cls := "MoonLineModel", name := "layTried", desc := "()V" } : Jvm.MethodName)) ∈ lw_g := mg5 216 rfl rfl
theorem w_1260 : (Jvm.Cond.instanceMethod ({ cls := "MoonLineModel", name := "layTried", desc := "()V" } : Jvm.MethodName)) ∈ lw_g := mg5 218 rfl rfl
theorem w_1261 : (Jvm.Cond.code ({ cls := "MoonLineModel", name := "layTried", desc := "()V" } : Jvm.MethodName) prog_12_method_41_code (1 : Nat) (Option.none : Option Jvm.ClassFile.FieldType)) ∈ lw_g := mg5 219 rfl rfl
theorem w_1262 : (Jvm.Cond.methodLink "MoonLineLaw" (97 : Nat) ({ cls := "MoonLineModel", name := "turn", desc := "(II)I" } : Jvm.MethodName)) ∈ lw_g := mg5 220 rfl rfl
theorem w_1263 : (Jvm.Cond.instanceMethod ({ cls := "MoonLineModel", name := "turn", desc := "(II)I" } : Jvm.MethodName)) ∈ lw_g := mg5 221 rfl rfl
theorem w_1264 : (Jvm.Cond.selects "MoonLineModel" ({ cls := "MoonLineModel", name := "turn", desc := "(II)I" } : Jvm.MethodName) ({ cls := "MoonLineModel", name := "turn", desc := "(II)I" } : Jvm.MethodName)) ∈ lw_g := mg5 222 rfl rfl
theorem w_1265 : (Jvm.Cond.code ({ cls := "MoonLineModel", name := "turn", desc := "(II)I" } : Jvm.MethodName) prog_12_method_59_code (5 : Nat) (Option.some Jvm.ClassFile.FieldType.int)) ∈ lw_g := mg5 223 rfl rfl
theorem w_1266 : (Jvm.Cond.methodLink "MoonLineModel" (206 : Nat) ({ cls := "MoonLineModel", name := "noNights", desc := "(II)I" } : Jvm.MethodName)) ∈ lw_g := mg5 224 rfl rfl
theorem w_1268 : (Jvm.Cond.instanceMethod ({ cls := "MoonLineModel", name := "noNights", desc := "(II)I" } : Jvm.MethodName)) ∈ lw_g := mg5 226 rfl rfl
theorem w_1269 : (Jvm.Cond.code ({ cls := "MoonLineModel", name := "noNights", desc := "(II)I" } : Jvm.MethodName) prog_12_method_56_code (3 : Nat) (Option.some Jvm.ClassFile.FieldType.int)) ∈ lw_g := mg5 227 rfl rfl
theorem w_1270 : (Jvm.Cond.methodLink "MoonLineModel" (203 : Nat) ({ cls := "MoonLineModel", name := "areAll", desc := "(III)Z" } : Jvm.MethodName)) ∈ lw_g := mg5 228 rfl rfl
theorem w_1272 : (Jvm.Cond.instanceMethod ({ cls := "MoonLineModel", name := "areAll", desc := "(III)Z" } : Jvm.MethodName)) ∈ lw_g := mg5 230 rfl rfl
theorem w_1273 : (Jvm.Cond.code ({ cls := "MoonLineModel", name := "areAll", desc := "(III)Z" } : Jvm.MethodName) prog_12_method_58_code (7 : Nat) (Option.some Jvm.ClassFile.FieldType.boolean)) ∈ lw_g := mg5 231 rfl rfl
theorem w_1274 : (Jvm.Cond.methodLink "MoonLineLaw" (101 : Nat) ({ cls := "MoonLineModel", name := "after", desc := "(I)I" } : Jvm.MethodName)) ∈ lw_g := mg5 232 rfl rfl
theorem w_1275 : (Jvm.Cond.instanceMethod ({ cls := "MoonLineModel", name := "after", desc := "(I)I" } : Jvm.MethodName)) ∈ lw_g := mg5 233 rfl rfl
theorem w_1276 : (Jvm.Cond.selects "MoonLineModel" ({ cls := "MoonLineModel", name := "after", desc := "(I)I" } : Jvm.MethodName) ({ cls := "MoonLineModel", name := "after", desc := "(I)I" } : Jvm.MethodName)) ∈ lw_g := mg5 234 rfl rfl
theorem w_1277 : (Jvm.Cond.code ({ cls := "MoonLineModel", name := "after", desc := "(I)I" } : Jvm.MethodName) prog_12_method_60_code (5 : Nat) (Option.some Jvm.ClassFile.FieldType.int)) ∈ lw_g := mg5 235 rfl rfl
theorem w_1278 : (Jvm.Cond.methodLink "MoonLineLaw" (105 : Nat) ({ cls := "MoonLineModel", name := "soonest", desc := "(II)I" } : Jvm.MethodName)) ∈ lw_g := mg5 236 rfl rfl
theorem w_1279 : (Jvm.Cond.instanceMethod ({ cls := "MoonLineModel", name := "soonest", desc := "(II)I" } : Jvm.MethodName)) ∈ lw_g := mg5 237 rfl rfl
theorem w_1280 : (Jvm.Cond.selects "MoonLineModel" ({ cls := "MoonLineModel", name := "soonest", desc := "(II)I" } : Jvm.MethodName) ({ cls := "MoonLineModel", name := "soonest", desc := "(II)I" } : Jvm.MethodName)) ∈ lw_g := mg5 238 rfl rfl
theorem w_1281 : (Jvm.Cond.code ({ cls := "MoonLineModel", name := "soonest", desc := "(II)I" } : Jvm.MethodName) prog_12_method_62_code (6 : Nat) (Option.some Jvm.ClassFile.FieldType.int)) ∈ lw_g := mg5 239 rfl rfl
theorem ms6 {w : Cond} (h : w ∈ tables_1_6) : w ∈ lw_tbl := List.mem_append_right _ (List.mem_append_right _ (List.mem_append_right _ (List.mem_append_right _ (List.mem_append_right _ (List.mem_append_right _ (h))))))
theorem mg6 {w : Cond} (i : Nat) (h : (tables_1_6)[i]? = some w) (g : goodWord w = true) : w ∈ lw_g := List.mem_filter.mpr ⟨ms6 (List.mem_of_getElem? h), g⟩
theorem w_1282 : (Jvm.Cond.constantLong "MoonLineModel" (209 : Nat) (10 : Int64)) ∈ lw_g := mg6 0 rfl rfl
theorem w_1283 : (Jvm.Cond.methodLink "MoonLineModel" (211 : Nat) ({ cls := "MoonLineModel", name := "goesBy", desc := "(III)I" } : Jvm.MethodName)) ∈ lw_g := mg6 1 rfl rfl
theorem w_1285 : (Jvm.Cond.instanceMethod ({ cls := "MoonLineModel", name := "goesBy", desc := "(III)I" } : Jvm.MethodName)) ∈ lw_g := mg6 3 rfl rfl
theorem w_1286 : (Jvm.Cond.code ({ cls := "MoonLineModel", name := "goesBy", desc := "(III)I" } : Jvm.MethodName) prog_12_method_61_code (5 : Nat) (Option.some Jvm.ClassFile.FieldType.int)) ∈ lw_g := mg6 4 rfl rfl
theorem w_1287 : (Jvm.Cond.methodLink "MoonLineLaw" (109 : Nat) ({ cls := "MoonLineModel", name := "rows", desc := "(II)I" } : Jvm.MethodName)) ∈ lw_g := mg6 5 rfl rfl
theorem w_1288 : (Jvm.Cond.instanceMethod ({ cls := "MoonLineModel", name := "rows", desc := "(II)I" } : Jvm.MethodName)) ∈ lw_g := mg6 6 rfl rfl
theorem w_1289 : (Jvm.Cond.selects "MoonLineModel" ({ cls := "MoonLineModel", name := "rows", desc := "(II)I" } : Jvm.MethodName) ({ cls := "MoonLineModel", name := "rows", desc := "(II)I" } : Jvm.MethodName)) ∈ lw_g := mg6 7 rfl rfl
theorem w_1290 : (Jvm.Cond.code ({ cls := "MoonLineModel", name := "rows", desc := "(II)I" } : Jvm.MethodName) prog_12_method_63_code (5 : Nat) (Option.some Jvm.ClassFile.FieldType.int)) ∈ lw_g := mg6 8 rfl rfl
theorem w_1291 : (Jvm.Cond.methodLink "MoonLineLaw" (113 : Nat) ({ cls := "MoonLineModel", name := "odds", desc := "(III)I" } : Jvm.MethodName)) ∈ lw_g := mg6 9 rfl rfl
theorem w_1292 : (Jvm.Cond.instanceMethod ({ cls := "MoonLineModel", name := "odds", desc := "(III)I" } : Jvm.MethodName)) ∈ lw_g := mg6 10 rfl rfl
theorem w_1293 : (Jvm.Cond.selects "MoonLineModel" ({ cls := "MoonLineModel", name := "odds", desc := "(III)I" } : Jvm.MethodName) ({ cls := "MoonLineModel", name := "odds", desc := "(III)I" } : Jvm.MethodName)) ∈ lw_g := mg6 11 rfl rfl
theorem w_1294 : (Jvm.Cond.code ({ cls := "MoonLineModel", name := "odds", desc := "(III)I" } : Jvm.MethodName) prog_12_method_66_code (11 : Nat) (Option.some Jvm.ClassFile.FieldType.int)) ∈ lw_g := mg6 12 rfl rfl
theorem w_1295 : (Jvm.Cond.constantLong "MoonLineModel" (221 : Nat) (12 : Int64)) ∈ lw_g := mg6 13 rfl rfl
theorem w_1296 : (Jvm.Cond.methodLink "MoonLineModel" (223 : Nat) ({ cls := "MoonLineModel", name := "waysOf", desc := "(III)J" } : Jvm.MethodName)) ∈ lw_g := mg6 14 rfl rfl
theorem w_1297 : (Jvm.Cond.static ({ cls := "MoonLineModel", name := "waysOf", desc := "(III)J" } : Jvm.MethodName)) ∈ lw_g := mg6 15 rfl rfl
theorem w_1298 : (Jvm.Cond.code ({ cls := "MoonLineModel", name := "waysOf", desc := "(III)J" } : Jvm.MethodName) prog_12_method_65_code (6 : Nat) (Option.some Jvm.ClassFile.FieldType.long)) ∈ lw_g := mg6 16 rfl rfl
theorem w_1299 : (Jvm.Cond.methodLink "MoonLineModel" (218 : Nat) ({ cls := "MoonLineModel", name := "has", desc := "(II)Z" } : Jvm.MethodName)) ∈ lw_g := mg6 17 rfl rfl
theorem w_1300 : (Jvm.Cond.static ({ cls := "MoonLineModel", name := "has", desc := "(II)Z" } : Jvm.MethodName)) ∈ lw_g := mg6 18 rfl rfl
theorem w_1301 : (Jvm.Cond.code ({ cls := "MoonLineModel", name := "has", desc := "(II)Z" } : Jvm.MethodName) prog_12_method_4_code (2 : Nat) (Option.some Jvm.ClassFile.FieldType.boolean)) ∈ lw_g := mg6 19 rfl rfl
theorem w_1302 : (Jvm.Cond.methodLink "MoonLineModel" (227 : Nat) ({ cls := "MoonLineModel", name := "tellParts", desc := "(JJ)I" } : Jvm.MethodName)) ∈ lw_g := mg6 20 rfl rfl
theorem w_1304 : (Jvm.Cond.instanceMethod ({ cls := "MoonLineModel", name := "tellParts", desc := "(JJ)I" } : Jvm.MethodName)) ∈ lw_g := mg6 22 rfl rfl
theorem w_1305 : (Jvm.Cond.code ({ cls := "MoonLineModel", name := "tellParts", desc := "(JJ)I" } : Jvm.MethodName) prog_12_method_64_code (11 : Nat) (Option.some Jvm.ClassFile.FieldType.int)) ∈ lw_g := mg6 23 rfl rfl
theorem w_1306 : (Jvm.Cond.methodLink "MoonLineLaw" (117 : Nat) ({ cls := "MoonLineModel", name := "mid", desc := "(II)I" } : Jvm.MethodName)) ∈ lw_g := mg6 24 rfl rfl
theorem w_1307 : (Jvm.Cond.instanceMethod ({ cls := "MoonLineModel", name := "mid", desc := "(II)I" } : Jvm.MethodName)) ∈ lw_g := mg6 25 rfl rfl
theorem w_1308 : (Jvm.Cond.selects "MoonLineModel" ({ cls := "MoonLineModel", name := "mid", desc := "(II)I" } : Jvm.MethodName) ({ cls := "MoonLineModel", name := "mid", desc := "(II)I" } : Jvm.MethodName)) ∈ lw_g := mg6 26 rfl rfl
theorem w_1309 : (Jvm.Cond.code ({ cls := "MoonLineModel", name := "mid", desc := "(II)I" } : Jvm.MethodName) prog_12_method_67_code (12 : Nat) (Option.some Jvm.ClassFile.FieldType.int)) ∈ lw_g := mg6 27 rfl rfl
theorem w_1310 : (Jvm.Cond.methodLink "MoonLineLaw" (121 : Nat) ({ cls := "MoonLineModel", name := "push", desc := "(III)I" } : Jvm.MethodName)) ∈ lw_g := mg6 28 rfl rfl
theorem w_1311 : (Jvm.Cond.instanceMethod ({ cls := "MoonLineModel", name := "push", desc := "(III)I" } : Jvm.MethodName)) ∈ lw_g := mg6 29 rfl rfl
theorem w_1312 : (Jvm.Cond.selects "MoonLineModel" ({ cls := "MoonLineModel", name := "push", desc := "(III)I" } : Jvm.MethodName) ({ cls := "MoonLineModel", name := "push", desc := "(III)I" } : Jvm.MethodName)) ∈ lw_g := mg6 30 rfl rfl
theorem w_1313 : (Jvm.Cond.code ({ cls := "MoonLineModel", name := "push", desc := "(III)I" } : Jvm.MethodName) prog_12_method_74_code (7 : Nat) (Option.some Jvm.ClassFile.FieldType.int)) ∈ lw_g := mg6 31 rfl rfl
theorem w_1314 : (Jvm.Cond.constantLong "MoonLineModel" (243 : Nat) (7 : Int64)) ∈ lw_g := mg6 32 rfl rfl
theorem w_1315 : (Jvm.Cond.methodLink "MoonLineModel" (245 : Nat) ({ cls := "MoonLineModel", name := "tradeRows", desc := "(I)I" } : Jvm.MethodName)) ∈ lw_g := mg6 33 rfl rfl
theorem w_1317 : (Jvm.Cond.instanceMethod ({ cls := "MoonLineModel", name := "tradeRows", desc := "(I)I" } : Jvm.MethodName)) ∈ lw_g := mg6 35 rfl rfl
theorem w_1318 : (Jvm.Cond.code ({ cls := "MoonLineModel", name := "tradeRows", desc := "(I)I" } : Jvm.MethodName) prog_12_method_73_code (2 : Nat) (Option.some Jvm.ClassFile.FieldType.int)) ∈ lw_g := mg6 36 rfl rfl
theorem w_1319 : (Jvm.Cond.methodLink "MoonLineModel" (231 : Nat) ({ cls := "MoonLineModel", name := "pairs", desc := "()I" } : Jvm.MethodName)) ∈ lw_g := mg6 37 rfl rfl
theorem w_1321 : (Jvm.Cond.instanceMethod ({ cls := "MoonLineModel", name := "pairs", desc := "()I" } : Jvm.MethodName)) ∈ lw_g := mg6 39 rfl rfl
theorem w_1322 : (Jvm.Cond.code ({ cls := "MoonLineModel", name := "pairs", desc := "()I" } : Jvm.MethodName) prog_12_method_69_code (1 : Nat) (Option.some Jvm.ClassFile.FieldType.int)) ∈ lw_g := mg6 40 rfl rfl
theorem w_1323 : (Jvm.Cond.methodLink "MoonLineModel" (234 : Nat) ({ cls := "MoonLineModel", name := "power", desc := "(II)I" } : Jvm.MethodName)) ∈ lw_g := mg6 41 rfl rfl
theorem w_1324 : (Jvm.Cond.static ({ cls := "MoonLineModel", name := "power", desc := "(II)I" } : Jvm.MethodName)) ∈ lw_g := mg6 42 rfl rfl
theorem w_1325 : (Jvm.Cond.code ({ cls := "MoonLineModel", name := "power", desc := "(II)I" } : Jvm.MethodName) prog_12_method_68_code (4 : Nat) (Option.some Jvm.ClassFile.FieldType.int)) ∈ lw_g := mg6 43 rfl rfl
theorem w_1326 : (Jvm.Cond.methodLink "MoonLineModel" (248 : Nat) ({ cls := "MoonLineModel", name := "layTrades", desc := "(II)V" } : Jvm.MethodName)) ∈ lw_g := mg6 44 rfl rfl
theorem w_1328 : (Jvm.Cond.instanceMethod ({ cls := "MoonLineModel", name := "layTrades", desc := "(II)V" } : Jvm.MethodName)) ∈ lw_g := mg6 46 rfl rfl
theorem w_1329 : (Jvm.Cond.code ({ cls := "MoonLineModel", name := "layTrades", desc := "(II)V" } : Jvm.MethodName) prog_12_method_71_code (5 : Nat) (Option.none : Option Jvm.ClassFile.FieldType)) ∈ lw_g := mg6 47 rfl rfl
theorem w_1330 : (Jvm.Cond.methodLink "MoonLineModel" (240 : Nat) ({ cls := "MoonLineModel", name := "tradeOf", desc := "(III)I" } : Jvm.MethodName)) ∈ lw_g := mg6 48 rfl rfl
theorem w_1332 : (Jvm.Cond.instanceMethod ({ cls := "MoonLineModel", name := "tradeOf", desc := "(III)I" } : Jvm.MethodName)) ∈ lw_g := mg6 50 rfl rfl
theorem w_1333 : (Jvm.Cond.code ({ cls := "MoonLineModel", name := "tradeOf", desc := "(III)I" } : Jvm.MethodName) prog_12_method_70_code (4 : Nat) (Option.some Jvm.ClassFile.FieldType.int)) ∈ lw_g := mg6 51 rfl rfl
theorem w_1334 : (Jvm.Cond.methodLink "MoonLineModel" (251 : Nat) ({ cls := "MoonLineModel", name := "goesClear", desc := "(II)I" } : Jvm.MethodName)) ∈ lw_g := mg6 52 rfl rfl
theorem w_1336 : (Jvm.Cond.instanceMethod ({ cls := "MoonLineModel", name := "goesClear", desc := "(II)I" } : Jvm.MethodName)) ∈ lw_g := mg6 54 rfl rfl
theorem w_1337 : (Jvm.Cond.code ({ cls := "MoonLineModel", name := "goesClear", desc := "(II)I" } : Jvm.MethodName) prog_12_method_72_code (4 : Nat) (Option.some Jvm.ClassFile.FieldType.int)) ∈ lw_g := mg6 55 rfl rfl
theorem w_1338 : (Jvm.Cond.methodLink "MoonLineLaw" (125 : Nat) ({ cls := "MoonLineModel", name := "pair", desc := "(III)I" } : Jvm.MethodName)) ∈ lw_g := mg6 56 rfl rfl
theorem w_1339 : (Jvm.Cond.instanceMethod ({ cls := "MoonLineModel", name := "pair", desc := "(III)I" } : Jvm.MethodName)) ∈ lw_g := mg6 57 rfl rfl
theorem w_1340 : (Jvm.Cond.selects "MoonLineModel" ({ cls := "MoonLineModel", name := "pair", desc := "(III)I" } : Jvm.MethodName) ({ cls := "MoonLineModel", name := "pair", desc := "(III)I" } : Jvm.MethodName)) ∈ lw_g := mg6 58 rfl rfl
theorem w_1341 : (Jvm.Cond.code ({ cls := "MoonLineModel", name := "pair", desc := "(III)I" } : Jvm.MethodName) prog_12_method_75_code (7 : Nat) (Option.some Jvm.ClassFile.FieldType.int)) ∈ lw_g := mg6 59 rfl rfl
theorem w_1342 : (Jvm.Cond.methodLink "MoonLineLaw" (129 : Nat) ({ cls := "MoonLineModel", name := "cheap", desc := "(II)I" } : Jvm.MethodName)) ∈ lw_g := mg6 60 rfl rfl
theorem w_1343 : (Jvm.Cond.instanceMethod ({ cls := "MoonLineModel", name := "cheap", desc := "(II)I" } : Jvm.MethodName)) ∈ lw_g := mg6 61 rfl rfl
theorem w_1344 : (Jvm.Cond.selects "MoonLineModel" ({ cls := "MoonLineModel", name := "cheap", desc := "(II)I" } : Jvm.MethodName) ({ cls := "MoonLineModel", name := "cheap", desc := "(II)I" } : Jvm.MethodName)) ∈ lw_g := mg6 62 rfl rfl
theorem w_1345 : (Jvm.Cond.code ({ cls := "MoonLineModel", name := "cheap", desc := "(II)I" } : Jvm.MethodName) prog_12_method_76_code (7 : Nat) (Option.some Jvm.ClassFile.FieldType.int)) ∈ lw_g := mg6 63 rfl rfl
theorem w_1346 : (Jvm.Cond.methodLink "MoonLineLaw" (133 : Nat) ({ cls := "MoonLineModel", name := "game", desc := "(II)I" } : Jvm.MethodName)) ∈ lw_g := mg6 64 rfl rfl
theorem w_1347 : (Jvm.Cond.instanceMethod ({ cls := "MoonLineModel", name := "game", desc := "(II)I" } : Jvm.MethodName)) ∈ lw_g := mg6 65 rfl rfl
theorem w_1348 : (Jvm.Cond.selects "MoonLineModel" ({ cls := "MoonLineModel", name := "game", desc := "(II)I" } : Jvm.MethodName) ({ cls := "MoonLineModel", name := "game", desc := "(II)I" } : Jvm.MethodName)) ∈ lw_g := mg6 66 rfl rfl
theorem w_1349 : (Jvm.Cond.code ({ cls := "MoonLineModel", name := "game", desc := "(II)I" } : Jvm.MethodName) prog_12_method_79_code (8 : Nat) (Option.some Jvm.ClassFile.FieldType.int)) ∈ lw_g := mg6 67 rfl rfl
theorem w_1350 : (Jvm.Cond.constantLong "MoonLineModel" (254 : Nat) (4 : Int64)) ∈ lw_g := mg6 68 rfl rfl
theorem w_1351 : (Jvm.Cond.methodLink "MoonLineModel" (256 : Nat) ({ cls := "MoonLineModel", name := "winsBy", desc := "(III)Z" } : Jvm.MethodName)) ∈ lw_g := mg6 69 rfl rfl
theorem w_1353 : (Jvm.Cond.instanceMethod ({ cls := "MoonLineModel", name := "winsBy", desc := "(III)Z" } : Jvm.MethodName)) ∈ lw_g := mg6 71 rfl rfl
theorem w_1354 : (Jvm.Cond.code ({ cls := "MoonLineModel", name := "winsBy", desc := "(III)Z" } : Jvm.MethodName) prog_12_method_77_code (8 : Nat) (Option.some Jvm.ClassFile.FieldType.boolean)) ∈ lw_g := mg6 72 rfl rfl
theorem w_1355 : (Jvm.Cond.methodLink "MoonLineModel" (259 : Nat) ({ cls := "MoonLineModel", name := "clouds", desc := "(II)I" } : Jvm.MethodName)) ∈ lw_g := mg6 73 rfl rfl
theorem w_1356 : (Jvm.Cond.static ({ cls := "MoonLineModel", name := "clouds", desc := "(II)I" } : Jvm.MethodName)) ∈ lw_g := mg6 74 rfl rfl
theorem w_1357 : (Jvm.Cond.code ({ cls := "MoonLineModel", name := "clouds", desc := "(II)I" } : Jvm.MethodName) prog_12_method_78_code (4 : Nat) (Option.some Jvm.ClassFile.FieldType.int)) ∈ lw_g := mg6 75 rfl rfl
theorem w_1358 : (Jvm.Cond.methodLink "MoonLineLaw" (137 : Nat) ({ cls := "MoonLineModel", name := "kinds", desc := "(III)I" } : Jvm.MethodName)) ∈ lw_g := mg6 76 rfl rfl
theorem w_1359 : (Jvm.Cond.instanceMethod ({ cls := "MoonLineModel", name := "kinds", desc := "(III)I" } : Jvm.MethodName)) ∈ lw_g := mg6 77 rfl rfl
theorem w_1360 : (Jvm.Cond.selects "MoonLineModel" ({ cls := "MoonLineModel", name := "kinds", desc := "(III)I" } : Jvm.MethodName) ({ cls := "MoonLineModel", name := "kinds", desc := "(III)I" } : Jvm.MethodName)) ∈ lw_g := mg6 78 rfl rfl
theorem w_1361 : (Jvm.Cond.code ({ cls := "MoonLineModel", name := "kinds", desc := "(III)I" } : Jvm.MethodName) prog_12_method_81_code (8 : Nat) (Option.some Jvm.ClassFile.FieldType.int)) ∈ lw_g := mg6 79 rfl rfl
theorem w_1362 : (Jvm.Cond.methodLink "MoonLineModel" (262 : Nat) ({ cls := "MoonLineModel", name := "noWent", desc := "(II)I" } : Jvm.MethodName)) ∈ lw_g := mg6 80 rfl rfl
theorem w_1364 : (Jvm.Cond.instanceMethod ({ cls := "MoonLineModel", name := "noWent", desc := "(II)I" } : Jvm.MethodName)) ∈ lw_g := mg6 82 rfl rfl
theorem w_1365 : (Jvm.Cond.code ({ cls := "MoonLineModel", name := "noWent", desc := "(II)I" } : Jvm.MethodName) prog_12_method_57_code (3 : Nat) (Option.some Jvm.ClassFile.FieldType.int)) ∈ lw_g := mg6 83 rfl rfl
theorem w_1366 : (Jvm.Cond.methodLink "MoonLineModel" (265 : Nat) ({ cls := "MoonLineModel", name := "wentSo", desc := "(II)Z" } : Jvm.MethodName)) ∈ lw_g := mg6 84 rfl rfl
theorem w_1368 : (Jvm.Cond.instanceMethod ({ cls := "MoonLineModel", name := "wentSo", desc := "(II)Z" } : Jvm.MethodName)) ∈ lw_g := mg6 86 rfl rfl
theorem w_1369 : (Jvm.Cond.code ({ cls := "MoonLineModel", name := "wentSo", desc := "(II)Z" } : Jvm.MethodName) prog_12_method_80_code (5 : Nat) (Option.some Jvm.ClassFile.FieldType.boolean)) ∈ lw_g := mg6 87 rfl rfl
theorem w_1370 : (Jvm.Cond.methodLink "MoonLineLaw" (141 : Nat) ({ cls := "MoonLineModel", name := "clear", desc := "(I)I" } : Jvm.MethodName)) ∈ lw_g := mg6 88 rfl rfl
theorem w_1371 : (Jvm.Cond.instanceMethod ({ cls := "MoonLineModel", name := "clear", desc := "(I)I" } : Jvm.MethodName)) ∈ lw_g := mg6 89 rfl rfl
theorem w_1372 : (Jvm.Cond.selects "MoonLineModel" ({ cls := "MoonLineModel", name := "clear", desc := "(I)I" } : Jvm.MethodName) ({ cls := "MoonLineModel", name := "clear", desc := "(I)I" } : Jvm.MethodName)) ∈ lw_g := mg6 90 rfl rfl
theorem w_1373 : (Jvm.Cond.code ({ cls := "MoonLineModel", name := "clear", desc := "(I)I" } : Jvm.MethodName) prog_12_method_82_code (10 : Nat) (Option.some Jvm.ClassFile.FieldType.int)) ∈ lw_g := mg6 91 rfl rfl
theorem w_1374 : (Jvm.Cond.methodLink "MoonLineLaw" (145 : Nat) ({ cls := "MoonLineModel", name := "lies", desc := "(I)I" } : Jvm.MethodName)) ∈ lw_g := mg6 92 rfl rfl
theorem w_1375 : (Jvm.Cond.instanceMethod ({ cls := "MoonLineModel", name := "lies", desc := "(I)I" } : Jvm.MethodName)) ∈ lw_g := mg6 93 rfl rfl
theorem w_1376 : (Jvm.Cond.selects "MoonLineModel" ({ cls := "MoonLineModel", name := "lies", desc := "(I)I" } : Jvm.MethodName) ({ cls := "MoonLineModel", name := "lies", desc := "(I)I" } : Jvm.MethodName)) ∈ lw_g := mg6 94 rfl rfl
theorem w_1377 : (Jvm.Cond.code ({ cls := "MoonLineModel", name := "lies", desc := "(I)I" } : Jvm.MethodName) prog_12_method_85_code (8 : Nat) (Option.some Jvm.ClassFile.FieldType.int)) ∈ lw_g := mg6 95 rfl rfl
theorem w_1378 : (Jvm.Cond.methodLink "MoonLineModel" (268 : Nat) ({ cls := "MoonLineModel", name := "liesBy", desc := "(I)I" } : Jvm.MethodName)) ∈ lw_g := mg6 96 rfl rfl
theorem w_1380 : (Jvm.Cond.instanceMethod ({ cls := "MoonLineModel", name := "liesBy", desc := "(I)I" } : Jvm.MethodName)) ∈ lw_g := mg6 98 rfl rfl
theorem w_1381 : (Jvm.Cond.code ({ cls := "MoonLineModel", name := "liesBy", desc := "(I)I" } : Jvm.MethodName) prog_12_method_84_code (6 : Nat) (Option.some Jvm.ClassFile.FieldType.int)) ∈ lw_g := mg6 99 rfl rfl
theorem w_1382 : (Jvm.Cond.methodLink "MoonLineModel" (271 : Nat) ({ cls := "MoonLineModel", name := "nextOrder", desc := "(I)Z" } : Jvm.MethodName)) ∈ lw_g := mg6 100 rfl rfl
theorem w_1384 : (Jvm.Cond.instanceMethod ({ cls := "MoonLineModel", name := "nextOrder", desc := "(I)Z" } : Jvm.MethodName)) ∈ lw_g := mg6 102 rfl rfl
theorem w_1385 : (Jvm.Cond.code ({ cls := "MoonLineModel", name := "nextOrder", desc := "(I)Z" } : Jvm.MethodName) prog_12_method_83_code (7 : Nat) (Option.some Jvm.ClassFile.FieldType.boolean)) ∈ lw_g := mg6 103 rfl rfl
theorem w_1386 : (Jvm.Cond.methodLink "MoonLineLaw" (149 : Nat) ({ cls := "MoonLineModel", name := "merge", desc := "(II)I" } : Jvm.MethodName)) ∈ lw_g := mg6 104 rfl rfl
theorem w_1387 : (Jvm.Cond.instanceMethod ({ cls := "MoonLineModel", name := "merge", desc := "(II)I" } : Jvm.MethodName)) ∈ lw_g := mg6 105 rfl rfl
theorem w_1388 : (Jvm.Cond.selects "MoonLineModel" ({ cls := "MoonLineModel", name := "merge", desc := "(II)I" } : Jvm.MethodName) ({ cls := "MoonLineModel", name := "merge", desc := "(II)I" } : Jvm.MethodName)) ∈ lw_g := mg6 106 rfl rfl
theorem w_1389 : (Jvm.Cond.code ({ cls := "MoonLineModel", name := "merge", desc := "(II)I" } : Jvm.MethodName) prog_12_method_86_code (5 : Nat) (Option.some Jvm.ClassFile.FieldType.int)) ∈ lw_g := mg6 107 rfl rfl
theorem w_1390 : (Jvm.Cond.constantLong "MoonLineModel" (274 : Nat) (20 : Int64)) ∈ lw_g := mg6 108 rfl rfl
theorem w_1391 : (Jvm.Cond.methodLink "MoonLineLaw" (153 : Nat) ({ cls := "MoonLineModel", name := "merged", desc := "(III)I" } : Jvm.MethodName)) ∈ lw_g := mg6 109 rfl rfl
theorem w_1392 : (Jvm.Cond.instanceMethod ({ cls := "MoonLineModel", name := "merged", desc := "(III)I" } : Jvm.MethodName)) ∈ lw_g := mg6 110 rfl rfl
theorem w_1393 : (Jvm.Cond.selects "MoonLineModel" ({ cls := "MoonLineModel", name := "merged", desc := "(III)I" } : Jvm.MethodName) ({ cls := "MoonLineModel", name := "merged", desc := "(III)I" } : Jvm.MethodName)) ∈ lw_g := mg6 111 rfl rfl
theorem w_1394 : (Jvm.Cond.code ({ cls := "MoonLineModel", name := "merged", desc := "(III)I" } : Jvm.MethodName) prog_12_method_87_code (10 : Nat) (Option.some Jvm.ClassFile.FieldType.int)) ∈ lw_g := mg6 112 rfl rfl
theorem w_1395 : (Jvm.Cond.methodLink "MoonLineLaw" (157 : Nat) ({ cls := "MoonLineModel", name := "message", desc := "(I)I" } : Jvm.MethodName)) ∈ lw_g := mg6 113 rfl rfl
theorem w_1396 : (Jvm.Cond.instanceMethod ({ cls := "MoonLineModel", name := "message", desc := "(I)I" } : Jvm.MethodName)) ∈ lw_g := mg6 114 rfl rfl
theorem w_1397 : (Jvm.Cond.selects "MoonLineModel" ({ cls := "MoonLineModel", name := "message", desc := "(I)I" } : Jvm.MethodName) ({ cls := "MoonLineModel", name := "message", desc := "(I)I" } : Jvm.MethodName)) ∈ lw_g := mg6 115 rfl rfl
theorem w_1398 : (Jvm.Cond.code ({ cls := "MoonLineModel", name := "message", desc := "(I)I" } : Jvm.MethodName) prog_12_method_88_code (4 : Nat) (Option.some Jvm.ClassFile.FieldType.int)) ∈ lw_g := mg6 116 rfl rfl
theorem w_1399 : (Jvm.Cond.methodLink "MoonLineLaw" (161 : Nat) ({ cls := "MoonLineModel", name := "lots", desc := "(II)I" } : Jvm.MethodName)) ∈ lw_g := mg6 117 rfl rfl
theorem w_1400 : (Jvm.Cond.instanceMethod ({ cls := "MoonLineModel", name := "lots", desc := "(II)I" } : Jvm.MethodName)) ∈ lw_g := mg6 118 rfl rfl
theorem w_1401 : (Jvm.Cond.selects "MoonLineModel" ({ cls := "MoonLineModel", name := "lots", desc := "(II)I" } : Jvm.MethodName) ({ cls := "MoonLineModel", name := "lots", desc := "(II)I" } : Jvm.MethodName)) ∈ lw_g := mg6 119 rfl rfl
theorem w_1402 : (Jvm.Cond.code ({ cls := "MoonLineModel", name := "lots", desc := "(II)I" } : Jvm.MethodName) prog_12_method_89_code (7 : Nat) (Option.some Jvm.ClassFile.FieldType.int)) ∈ lw_g := mg6 120 rfl rfl
theorem w_1403 : (Jvm.Cond.constantLong "MoonLineModel" (276 : Nat) (2147483646 : Int64)) ∈ lw_g := mg6 121 rfl rfl
theorem w_1404 : (Jvm.Cond.constantLong "MoonLineModel" (278 : Nat) (48271 : Int64)) ∈ lw_g := mg6 122 rfl rfl
theorem w_1405 : (Jvm.Cond.constantLong "MoonLineModel" (280 : Nat) (2147483647 : Int64)) ∈ lw_g := mg6 123 rfl rfl
theorem w_1406 : (Jvm.Cond.constantLong "MoonLineModel" (282 : Nat) (16 : Int64)) ∈ lw_g := mg6 124 rfl rfl
theorem w_1407 : (Jvm.Cond.methodLink "MoonLineLaw" (165 : Nat) ({ cls := "MoonLineModel", name := "asked", desc := "()I" } : Jvm.MethodName)) ∈ lw_g := mg6 125 rfl rfl
theorem w_1408 : (Jvm.Cond.instanceMethod ({ cls := "MoonLineModel", name := "asked", desc := "()I" } : Jvm.MethodName)) ∈ lw_g := mg6 126 rfl rfl
theorem w_1409 : (Jvm.Cond.selects "MoonLineModel" ({ cls := "MoonLineModel", name := "asked", desc := "()I" } : Jvm.MethodName) ({ cls := "MoonLineModel", name := "asked", desc := "()I" } : Jvm.MethodName)) ∈ lw_g := mg6 127 rfl rfl
theorem w_1410 : (Jvm.Cond.code ({ cls := "MoonLineModel", name := "asked", desc := "()I" } : Jvm.MethodName) prog_12_method_90_code (1 : Nat) (Option.some Jvm.ClassFile.FieldType.int)) ∈ lw_g := mg6 128 rfl rfl
theorem w_1411 : (Jvm.Cond.methodLink "MoonLineLaw" (170 : Nat) ({ cls := "MoonLineModel", name := "upper", desc := "()J" } : Jvm.MethodName)) ∈ lw_g := mg6 129 rfl rfl
theorem w_1412 : (Jvm.Cond.instanceMethod ({ cls := "MoonLineModel", name := "upper", desc := "()J" } : Jvm.MethodName)) ∈ lw_g := mg6 130 rfl rfl
theorem w_1413 : (Jvm.Cond.selects "MoonLineModel" ({ cls := "MoonLineModel", name := "upper", desc := "()J" } : Jvm.MethodName) ({ cls := "MoonLineModel", name := "upper", desc := "()J" } : Jvm.MethodName)) ∈ lw_g := mg6 131 rfl rfl
theorem w_1414 : (Jvm.Cond.code ({ cls := "MoonLineModel", name := "upper", desc := "()J" } : Jvm.MethodName) prog_12_method_91_code (1 : Nat) (Option.some Jvm.ClassFile.FieldType.long)) ∈ lw_g := mg6 132 rfl rfl
theorem w_1415 : (Jvm.Cond.methodLink "MoonLineLaw" (174 : Nat) ({ cls := "MoonLineModel", name := "lower", desc := "()J" } : Jvm.MethodName)) ∈ lw_g := mg6 133 rfl rfl
theorem w_1416 : (Jvm.Cond.instanceMethod ({ cls := "MoonLineModel", name := "lower", desc := "()J" } : Jvm.MethodName)) ∈ lw_g := mg6 134 rfl rfl
theorem w_1417 : (Jvm.Cond.selects "MoonLineModel" ({ cls := "MoonLineModel", name := "lower", desc := "()J" } : Jvm.MethodName) ({ cls := "MoonLineModel", name := "lower", desc := "()J" } : Jvm.MethodName)) ∈ lw_g := mg6 135 rfl rfl
theorem w_1418 : (Jvm.Cond.code ({ cls := "MoonLineModel", name := "lower", desc := "()J" } : Jvm.MethodName) prog_12_method_92_code (1 : Nat) (Option.some Jvm.ClassFile.FieldType.long)) ∈ lw_g := mg6 136 rfl rfl
theorem w_1419 : (Jvm.Cond.methodLink "MoonLineLaw" (178 : Nat) ({ cls := "MoonLineModel", name := "count", desc := "(I)I" } : Jvm.MethodName)) ∈ lw_g := mg6 137 rfl rfl
theorem w_1420 : (Jvm.Cond.instanceMethod ({ cls := "MoonLineModel", name := "count", desc := "(I)I" } : Jvm.MethodName)) ∈ lw_g := mg6 138 rfl rfl
theorem w_1421 : (Jvm.Cond.selects "MoonLineModel" ({ cls := "MoonLineModel", name := "count", desc := "(I)I" } : Jvm.MethodName) ({ cls := "MoonLineModel", name := "count", desc := "(I)I" } : Jvm.MethodName)) ∈ lw_g := mg6 139 rfl rfl
theorem w_1422 : (Jvm.Cond.code ({ cls := "MoonLineModel", name := "count", desc := "(I)I" } : Jvm.MethodName) prog_12_method_97_code (2 : Nat) (Option.some Jvm.ClassFile.FieldType.int)) ∈ lw_g := mg6 140 rfl rfl
theorem w_1423 : (Jvm.Cond.methodLink "MoonLineModel" (296 : Nat) ({ cls := "MoonLineModel", name := "countOf", desc := "(I)I" } : Jvm.MethodName)) ∈ lw_g := mg6 141 rfl rfl
theorem w_1425 : (Jvm.Cond.instanceMethod ({ cls := "MoonLineModel", name := "countOf", desc := "(I)I" } : Jvm.MethodName)) ∈ lw_g := mg6 143 rfl rfl
theorem w_1426 : (Jvm.Cond.code ({ cls := "MoonLineModel", name := "countOf", desc := "(I)I" } : Jvm.MethodName) prog_12_method_96_code (2 : Nat) (Option.some Jvm.ClassFile.FieldType.int)) ∈ lw_g := mg6 144 rfl rfl
theorem w_1427 : (Jvm.Cond.methodLink "MoonLineModel" (284 : Nat) ({ cls := "MoonLineModel", name := "wentMany", desc := "()I" } : Jvm.MethodName)) ∈ lw_g := mg6 145 rfl rfl
theorem w_1429 : (Jvm.Cond.instanceMethod ({ cls := "MoonLineModel", name := "wentMany", desc := "()I" } : Jvm.MethodName)) ∈ lw_g := mg6 147 rfl rfl
theorem w_1430 : (Jvm.Cond.code ({ cls := "MoonLineModel", name := "wentMany", desc := "()I" } : Jvm.MethodName) prog_12_method_93_code (3 : Nat) (Option.some Jvm.ClassFile.FieldType.int)) ∈ lw_g := mg6 148 rfl rfl
theorem w_1431 : (Jvm.Cond.methodLink "MoonLineModel" (287 : Nat) ({ cls := "MoonLineModel", name := "bits", desc := "(I)I" } : Jvm.MethodName)) ∈ lw_g := mg6 149 rfl rfl
theorem w_1432 : (Jvm.Cond.static ({ cls := "MoonLineModel", name := "bits", desc := "(I)I" } : Jvm.MethodName)) ∈ lw_g := mg6 150 rfl rfl
theorem w_1433 : (Jvm.Cond.code ({ cls := "MoonLineModel", name := "bits", desc := "(I)I" } : Jvm.MethodName) prog_12_method_2_code (3 : Nat) (Option.some Jvm.ClassFile.FieldType.int)) ∈ lw_g := mg6 151 rfl rfl
theorem w_1434 : (Jvm.Cond.methodLink "MoonLineModel" (290 : Nat) ({ cls := "MoonLineModel", name := "kindMany", desc := "(I)I" } : Jvm.MethodName)) ∈ lw_g := mg6 152 rfl rfl
theorem w_1436 : (Jvm.Cond.instanceMethod ({ cls := "MoonLineModel", name := "kindMany", desc := "(I)I" } : Jvm.MethodName)) ∈ lw_g := mg6 154 rfl rfl
theorem w_1437 : (Jvm.Cond.code ({ cls := "MoonLineModel", name := "kindMany", desc := "(I)I" } : Jvm.MethodName) prog_12_method_94_code (4 : Nat) (Option.some Jvm.ClassFile.FieldType.int)) ∈ lw_g := mg6 155 rfl rfl
theorem w_1438 : (Jvm.Cond.methodLink "MoonLineModel" (293 : Nat) ({ cls := "MoonLineModel", name := "thereOf", desc := "(I)I" } : Jvm.MethodName)) ∈ lw_g := mg6 156 rfl rfl
theorem w_1440 : (Jvm.Cond.instanceMethod ({ cls := "MoonLineModel", name := "thereOf", desc := "(I)I" } : Jvm.MethodName)) ∈ lw_g := mg6 158 rfl rfl
theorem w_1441 : (Jvm.Cond.code ({ cls := "MoonLineModel", name := "thereOf", desc := "(I)I" } : Jvm.MethodName) prog_12_method_95_code (4 : Nat) (Option.some Jvm.ClassFile.FieldType.int)) ∈ lw_g := mg6 159 rfl rfl
theorem w_1442 : (Jvm.Cond.methodLink "MoonLineLaw" (182 : Nat) ({ cls := "MoonLineModel", name := "finding", desc := "()I" } : Jvm.MethodName)) ∈ lw_g := mg6 160 rfl rfl
theorem w_1443 : (Jvm.Cond.instanceMethod ({ cls := "MoonLineModel", name := "finding", desc := "()I" } : Jvm.MethodName)) ∈ lw_g := mg6 161 rfl rfl
theorem w_1444 : (Jvm.Cond.selects "MoonLineModel" ({ cls := "MoonLineModel", name := "finding", desc := "()I" } : Jvm.MethodName) ({ cls := "MoonLineModel", name := "finding", desc := "()I" } : Jvm.MethodName)) ∈ lw_g := mg6 162 rfl rfl
theorem w_1445 : (Jvm.Cond.code ({ cls := "MoonLineModel", name := "finding", desc := "()I" } : Jvm.MethodName) prog_12_method_98_code (1 : Nat) (Option.some Jvm.ClassFile.FieldType.int)) ∈ lw_g := mg6 163 rfl rfl
theorem w_1446 : (Jvm.Cond.methodLink "MoonLineLaw" (186 : Nat) ({ cls := "MoonLineModel", name := "findings", desc := "(I)I" } : Jvm.MethodName)) ∈ lw_g := mg6 164 rfl rfl
theorem w_1447 : (Jvm.Cond.instanceMethod ({ cls := "MoonLineModel", name := "findings", desc := "(I)I" } : Jvm.MethodName)) ∈ lw_g := mg6 165 rfl rfl
theorem w_1448 : (Jvm.Cond.selects "MoonLineModel" ({ cls := "MoonLineModel", name := "findings", desc := "(I)I" } : Jvm.MethodName) ({ cls := "MoonLineModel", name := "findings", desc := "(I)I" } : Jvm.MethodName)) ∈ lw_g := mg6 166 rfl rfl
theorem w_1449 : (Jvm.Cond.code ({ cls := "MoonLineModel", name := "findings", desc := "(I)I" } : Jvm.MethodName) prog_12_method_99_code (2 : Nat) (Option.some Jvm.ClassFile.FieldType.int)) ∈ lw_g := mg6 167 rfl rfl
theorem w_1450 : (Jvm.Cond.methodLink "MoonLineLaw" (190 : Nat) ({ cls := "MoonLineModel", name := "digest", desc := "()J" } : Jvm.MethodName)) ∈ lw_g := mg6 168 rfl rfl
theorem w_1451 : (Jvm.Cond.instanceMethod ({ cls := "MoonLineModel", name := "digest", desc := "()J" } : Jvm.MethodName)) ∈ lw_g := mg6 169 rfl rfl
theorem w_1452 : (Jvm.Cond.selects "MoonLineModel" ({ cls := "MoonLineModel", name := "digest", desc := "()J" } : Jvm.MethodName) ({ cls := "MoonLineModel", name := "digest", desc := "()J" } : Jvm.MethodName)) ∈ lw_g := mg6 170 rfl rfl
theorem w_1453 : (Jvm.Cond.code ({ cls := "MoonLineModel", name := "digest", desc := "()J" } : Jvm.MethodName) prog_12_method_100_code (5 : Nat) (Option.some Jvm.ClassFile.FieldType.long)) ∈ lw_g := mg6 171 rfl rfl
theorem w_1454 : (Jvm.Cond.constantLong "MoonLineModel" (299 : Nat) (17 : Int64)) ∈ lw_g := mg6 172 rfl rfl
theorem w_1455 : (Jvm.Cond.constantLong "MoonLineModel" (301 : Nat) (31 : Int64)) ∈ lw_g := mg6 173 rfl rfl
theorem w_1456 : (Jvm.Cond.arrayClass Jvm.ClassFile.FieldType.char) ∈ lw_g := mg6 174 rfl rfl
