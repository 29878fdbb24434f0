/-! the methods by number; what each class lays -/
def tbM : mT := fun mi => cond (Nat.ble mi 120) (cond (Nat.ble mi 60) (cond (Nat.ble mi 30) (cond (Nat.ble mi 15) (cond (Nat.ble mi 7) (cond (Nat.ble mi 3) (cond (Nat.ble mi 1) ((yJ6_bitCount_0f7a4, cJ6_bitCount_0f7a4, 1, (some .int))) (cond (Nat.ble mi 2) ((yJ7_fill_53178, cJ7_fill_53178, 4, none)) ((yJ7_fill_031fb, cJ7_fill_031fb, 4, none)))) (cond (Nat.ble mi 5) (cond (Nat.ble mi 4) ((yX0_init, cX0_init, 2, none)) ((yX0_begin, cX0_begin, 5, none))) (cond (Nat.ble mi 6) ((yX0_isWonFrom, cX0_isWonFrom, 5, (some .boolean))) ((yX0_isWonBehindTrade, cX0_isWonBehindTrade, 7, (some .boolean)))))) (cond (Nat.ble mi 11) (cond (Nat.ble mi 9) (cond (Nat.ble mi 8) ((yX1_init, cX1_init, 1, none)) ((yX1_has, cX1_has, 2, (some .boolean)))) (cond (Nat.ble mi 10) ((yX1_setAs, cX1_setAs, 2, none)) ((yX1_isOf, cX1_isOf, 4, (some .boolean))))) (cond (Nat.ble mi 13) (cond (Nat.ble mi 12) ((yX1_isAsleep, cX1_isAsleep, 3, (some .boolean))) ((yX1_howMany, cX1_howMany, 4, (some .int)))) (cond (Nat.ble mi 14) ((yX1_read, cX1_read, 5, (some .int))) ((yX1_takes, cX1_takes, 4, (some .boolean))))))) (cond (Nat.ble mi 22) (cond (Nat.ble mi 18) (cond (Nat.ble mi 16) ((yX1_takesLetter, cX1_takesLetter, 3, (some .boolean))) (cond (Nat.ble mi 17) ((yX2_init, cX2_init, 1, none)) ((yX2_hasRoomFor, cX2_hasRoomFor, 2, (some .boolean))))) (cond (Nat.ble mi 20) (cond (Nat.ble mi 19) ((yX2_add, cX2_add, 2, none)) ((yX2_setAs, cX2_setAs, 2, none))) (cond (Nat.ble mi 21) ((yX3_init, cX3_init, 1, none)) ((yX3_begin, cX3_begin, 3, none))))) (cond (Nat.ble mi 26) (cond (Nat.ble mi 24) (cond (Nat.ble mi 23) ((yX3_addPair, cX3_addPair, 3, none)) ((yX3_isPerson, cX3_isPerson, 2, (some .boolean)))) (cond (Nat.ble mi 25) ((yX3_standBehind, cX3_standBehind, 7, none)) ((yX3_countOrder, cX3_countOrder, 2, none)))) (cond (Nat.ble mi 28) (cond (Nat.ble mi 27) ((yX4_init, cX4_init, 2, none)) ((yX4_begin, cX4_begin, 4, none))) (cond (Nat.ble mi 29) ((yX4_waitFor, cX4_waitFor, 5, none)) ((yX4_allWays, cX4_allWays, 2, (some .long)))))))) (cond (Nat.ble mi 45) (cond (Nat.ble mi 37) (cond (Nat.ble mi 33) (cond (Nat.ble mi 31) ((yX4_waysFrom, cX4_waysFrom, 2, (some .long))) (cond (Nat.ble mi 32) ((yX4_waysBy, cX4_waysBy, 8, (some .long))) ((yX4_isToGo, cX4_isToGo, 2, (some .boolean))))) (cond (Nat.ble mi 35) (cond (Nat.ble mi 34) ((yX4_countFitting, cX4_countFitting, 2, none)) ((yX4_alwaysClear, cX4_alwaysClear, 1, (some .int)))) (cond (Nat.ble mi 36) ((yX4_fitFrom, cX4_fitFrom, 5, none)) ((yX5_init, cX5_init, 1, none))))) (cond (Nat.ble mi 41) (cond (Nat.ble mi 39) (cond (Nat.ble mi 38) ((yX5_beginWith, cX5_beginWith, 3, none)) ((yX5_setAs, cX5_setAs, 2, none))) (cond (Nat.ble mi 40) ((yX5_whoAt, cX5_whoAt, 2, (some .int))) ((yX5_placeOf, cX5_placeOf, 3, (some .int))))) (cond (Nat.ble mi 43) (cond (Nat.ble mi 42) ((yX5_standing, cX5_standing, 3, (some .int))) ((yX5_swapPlaces, cX5_swapPlaces, 4, none))) (cond (Nat.ble mi 44) ((yX5_swapPersons, cX5_swapPersons, 3, none)) ((yX5_asleepAhead, cX5_asleepAhead, 5, (some .int))))))) (cond (Nat.ble mi 52) (cond (Nat.ble mi 48) (cond (Nat.ble mi 46) ((yX5_awakeBehind, cX5_awakeBehind, 5, (some .int))) (cond (Nat.ble mi 47) ((yX5_stepsOfRam, cX5_stepsOfRam, 3, (some .int))) ((yX5_firstAwakeFrom, cX5_firstAwakeFrom, 5, (some .int))))) (cond (Nat.ble mi 50) (cond (Nat.ble mi 49) ((yX5_pass, cX5_pass, 4, (some .int))) ((yX5_isAsleepAt, cX5_isAsleepAt, 3, (some .boolean)))) (cond (Nat.ble mi 51) ((yX5_pushAhead, cX5_pushAhead, 4, none)) ((yX5_nextToGo, cX5_nextToGo, 4, (some .int)))))) (cond (Nat.ble mi 56) (cond (Nat.ble mi 54) (cond (Nat.ble mi 53) ((yX5_waitOneMore, cX5_waitOneMore, 6, none)) ((yX6_init, cX6_init, 1, none))) (cond (Nat.ble mi 55) ((yX6_isMissing, cX6_isMissing, 1, (some .boolean))) ((yX6_has, cX6_has, 2, (some .boolean))))) (cond (Nat.ble mi 58) (cond (Nat.ble mi 57) ((yX6_hasSpan, cX6_hasSpan, 3, (some .boolean))) ((yX6_beginWith, cX6_beginWith, 2, none))) (cond (Nat.ble mi 59) ((yX6_sum, cX6_sum, 4, (some .long))) ((yX6_addTo, cX6_addTo, 6, (some .long))))))))) (cond (Nat.ble mi 90) (cond (Nat.ble mi 75) (cond (Nat.ble mi 67) (cond (Nat.ble mi 63) (cond (Nat.ble mi 61) ((yX7_init, cX7_init, 1, none)) (cond (Nat.ble mi 62) ((yX7_isMissing, cX7_isMissing, 1, (some .boolean))) ((yX7_has, cX7_has, 2, (some .boolean))))) (cond (Nat.ble mi 65) (cond (Nat.ble mi 64) ((yX7_beginWith, cX7_beginWith, 2, none)) ((yX7_addTo, cX7_addTo, 6, (some .long)))) (cond (Nat.ble mi 66) ((yX8_init, cX8_init, 2, none)) ((yX8_begin, cX8_begin, 4, none))))) (cond (Nat.ble mi 71) (cond (Nat.ble mi 69) (cond (Nat.ble mi 68) ((yX8_seek, cX8_seek, 3, none)) ((yX8_fewestTrades, cX8_fewestTrades, 2, (some .int)))) (cond (Nat.ble mi 70) ((yX8_isReachedBy, cX8_isReachedBy, 4, (some .boolean))) ((yX8_lookForCheaper, cX8_lookForCheaper, 6, none)))) (cond (Nat.ble mi 73) (cond (Nat.ble mi 72) ((yX8_tradeAt, cX8_tradeAt, 3, none)) ((yX8_isReached, cX8_isReached, 5, (some .boolean)))) (cond (Nat.ble mi 74) ((yX9_init, cX9_init, 2, none)) ((yX9_row, cX9_row, 3, (some .int))))))) (cond (Nat.ble mi 82) (cond (Nat.ble mi 78) (cond (Nat.ble mi 76) ((yX9_lay, cX9_lay, 5, (some .int))) (cond (Nat.ble mi 77) ((yX9_at, cX9_at, 4, (some .int))) ((yX9_tear, cX9_tear, 3, (some .int))))) (cond (Nat.ble mi 80) (cond (Nat.ble mi 79) ((yX9_copy, cX9_copy, 8, (some .int))) ((yX9_mean, cX9_mean, 4, (some .int)))) (cond (Nat.ble mi 81) ((yX9_text, cX9_text, 3, (some .int))) ((yX9_put, cX9_put, 7, (some .int)))))) (cond (Nat.ble mi 86) (cond (Nat.ble mi 84) (cond (Nat.ble mi 83) ((yX9_fault, cX9_fault, 3, (some .int))) ((yX9_line, cX9_line, 4, (some .int)))) (cond (Nat.ble mi 85) ((yX9_person, cX9_person, 3, (some .int))) ((yX9_mark, cX9_mark, 4, (some .int))))) (cond (Nat.ble mi 88) (cond (Nat.ble mi 87) ((yX9_price, cX9_price, 4, (some .int))) ((yX9_night, cX9_night, 2, (some .int)))) (cond (Nat.ble mi 89) ((yX9_trade, cX9_trade, 3, (some .int))) ((yX9_undo, cX9_undo, 3, (some .int)))))))) (cond (Nat.ble mi 105) (cond (Nat.ble mi 97) (cond (Nat.ble mi 93) (cond (Nat.ble mi 91) ((yX9_keep, cX9_keep, 2, (some .int))) (cond (Nat.ble mi 92) ((yX9_on, cX9_on, 2, (some .int))) ((yX9_tonight, cX9_tonight, 2, (some .int))))) (cond (Nat.ble mi 95) (cond (Nat.ble mi 94) ((yX9_turn, cX9_turn, 6, (some .int))) ((yX9_after, cX9_after, 5, (some .int)))) (cond (Nat.ble mi 96) ((yX9_soonest, cX9_soonest, 3, (some .int))) ((yX9_rows, cX9_rows, 3, (some .int)))))) (cond (Nat.ble mi 101) (cond (Nat.ble mi 99) (cond (Nat.ble mi 98) ((yX9_odds, cX9_odds, 4, (some .int))) ((yX9_mid, cX9_mid, 3, (some .int)))) (cond (Nat.ble mi 100) ((yX9_push, cX9_push, 7, (some .int))) ((yX9_pair, cX9_pair, 4, (some .int))))) (cond (Nat.ble mi 103) (cond (Nat.ble mi 102) ((yX9_cheap, cX9_cheap, 3, (some .int))) ((yX9_game, cX9_game, 3, (some .int)))) (cond (Nat.ble mi 104) ((yX9_kinds, cX9_kinds, 7, (some .int))) ((yX9_clear, cX9_clear, 3, (some .int))))))) (cond (Nat.ble mi 112) (cond (Nat.ble mi 108) (cond (Nat.ble mi 106) ((yX9_lies, cX9_lies, 5, (some .int))) (cond (Nat.ble mi 107) ((yX9_merge, cX9_merge, 6, (some .int))) ((yX9_merged, cX9_merged, 7, (some .int))))) (cond (Nat.ble mi 110) (cond (Nat.ble mi 109) ((yX9_message, cX9_message, 5, (some .int))) ((yX9_lots, cX9_lots, 8, (some .int)))) (cond (Nat.ble mi 111) ((yX9_asked, cX9_asked, 1, (some .int))) ((yX9_upper, cX9_upper, 1, (some .long)))))) (cond (Nat.ble mi 116) (cond (Nat.ble mi 114) (cond (Nat.ble mi 113) ((yX9_lower, cX9_lower, 1, (some .long))) ((yX9_count, cX9_count, 2, (some .int)))) (cond (Nat.ble mi 115) ((yX9_finding, cX9_finding, 1, (some .int))) ((yX9_findings, cX9_findings, 2, (some .int))))) (cond (Nat.ble mi 118) (cond (Nat.ble mi 117) ((yX9_digest, cX9_digest, 5, (some .long))) ((yX9_isRow, cX9_isRow, 1, (some .boolean)))) (cond (Nat.ble mi 119) ((yX9_isText, cX9_isText, 1, (some .boolean))) ((yX9_isKeptPlace, cX9_isKeptPlace, 1, (some .boolean)))))))))) (cond (Nat.ble mi 180) (cond (Nat.ble mi 150) (cond (Nat.ble mi 135) (cond (Nat.ble mi 127) (cond (Nat.ble mi 123) (cond (Nat.ble mi 121) ((yX9_isChance, cX9_isChance, 1, (some .boolean))) (cond (Nat.ble mi 122) ((yX9_isTradeNights, cX9_isTradeNights, 1, (some .boolean))) ((yX9_find, cX9_find, 2, (some .int))))) (cond (Nat.ble mi 125) (cond (Nat.ble mi 124) ((yX9_refusalOfRow, cX9_refusalOfRow, 2, (some .int))) ((yX9_refusalOfPlace, cX9_refusalOfPlace, 4, (some .int)))) (cond (Nat.ble mi 126) ((yX9_refusalOfText, cX9_refusalOfText, 2, (some .int))) ((yX9_tellWays, cX9_tellWays, 3, none))))) (cond (Nat.ble mi 131) (cond (Nat.ble mi 129) (cond (Nat.ble mi 128) ((yX9_tellChance, cX9_tellChance, 10, none)) ((yX9_commonDivisor, cX9_commonDivisor, 11, (some .long)))) (cond (Nat.ble mi 130) ((yX9_numberOf, cX9_numberOf, 2, (some .int))) ((yX9_rowsThere, cX9_rowsThere, 3, (some .int))))) (cond (Nat.ble mi 133) (cond (Nat.ble mi 132) ((yX9_textsThere, cX9_textsThere, 3, (some .int))) ((yX9_keptThere, cX9_keptThere, 3, (some .int)))) (cond (Nat.ble mi 134) ((yX9_detailOf, cX9_detailOf, 3, (some .int))) ((yX9_passNight, cX9_passNight, 2, (some .int))))))) (cond (Nat.ble mi 142) (cond (Nat.ble mi 138) (cond (Nat.ble mi 136) ((yX9_doDeedsAnew, cX9_doDeedsAnew, 4, none)) (cond (Nat.ble mi 137) ((yX9_wrongInNights, cX9_wrongInNights, 2, (some .int))) ((yX9_wrongInGoers, cX9_wrongInGoers, 4, (some .int))))) (cond (Nat.ble mi 140) (cond (Nat.ble mi 139) ((yX9_wrongInPairs, cX9_wrongInPairs, 5, (some .int))) ((yX9_goSo, cX9_goSo, 6, (some .boolean)))) (cond (Nat.ble mi 141) ((yX9_isMerge, cX9_isMerge, 8, (some .boolean))) ((yX10_init, cX10_init, 2, none))))) (cond (Nat.ble mi 146) (cond (Nat.ble mi 144) (cond (Nat.ble mi 143) ((yX10_bits, cX10_bits, 3, (some .int))) ((yX10_in, cX10_in, 6, (some .boolean)))) (cond (Nat.ble mi 145) ((yX10_has, cX10_has, 2, (some .boolean))) ((yX10_find, cX10_find, 2, (some .int))))) (cond (Nat.ble mi 148) (cond (Nat.ble mi 147) ((yX10_tell, cX10_tell, 2, (some .int))) ((yX10_isRow, cX10_isRow, 1, (some .boolean)))) (cond (Nat.ble mi 149) ((yX10_isText, cX10_isText, 1, (some .boolean))) ((yX10_row, cX10_row, 3, (some .int)))))))) (cond (Nat.ble mi 165) (cond (Nat.ble mi 157) (cond (Nat.ble mi 153) (cond (Nat.ble mi 151) ((yX10_makeRow, cX10_makeRow, 4, none)) (cond (Nat.ble mi 152) ((yX10_refused, cX10_refused, 3, (some .int))) ((yX10_lay, cX10_lay, 6, (some .int))))) (cond (Nat.ble mi 155) (cond (Nat.ble mi 154) ((yX10_at, cX10_at, 4, (some .int))) ((yX10_tear, cX10_tear, 2, (some .int)))) (cond (Nat.ble mi 156) ((yX10_isSpan, cX10_isSpan, 4, (some .boolean))) ((yX10_copy, cX10_copy, 9, (some .int)))))) (cond (Nat.ble mi 161) (cond (Nat.ble mi 159) (cond (Nat.ble mi 158) ((yX10_mean, cX10_mean, 5, (some .int))) ((yX10_text, cX10_text, 4, (some .int)))) (cond (Nat.ble mi 160) ((yX10_put, cX10_put, 5, (some .int))) ((yX10_here, cX10_here, 1, (some .int))))) (cond (Nat.ble mi 163) (cond (Nat.ble mi 162) ((yX10_skip, cX10_skip, 1, none)) ((yX10_figure, cX10_figure, 2, (some .int)))) (cond (Nat.ble mi 164) ((yX10_kindOfLetter, cX10_kindOfLetter, 1, (some .int))) ((yX10_readsPerson, cX10_readsPerson, 4, (some .boolean))))))) (cond (Nat.ble mi 172) (cond (Nat.ble mi 168) (cond (Nat.ble mi 166) ((yX10_faultOf, cX10_faultOf, 3, (some .int))) (cond (Nat.ble mi 167) ((yX10_fault, cX10_fault, 2, (some .int))) ((yX10_line, cX10_line, 4, (some .int))))) (cond (Nat.ble mi 170) (cond (Nat.ble mi 169) ((yX10_isPerson, cX10_isPerson, 2, (some .boolean))) ((yX10_isAsleep, cX10_isAsleep, 3, (some .boolean)))) (cond (Nat.ble mi 171) ((yX10_sleepsAt, cX10_sleepsAt, 3, (some .boolean))) ((yX10_placeOf, cX10_placeOf, 4, (some .int)))))) (cond (Nat.ble mi 176) (cond (Nat.ble mi 174) (cond (Nat.ble mi 173) ((yX10_isPusher, cX10_isPusher, 1, (some .boolean))) ((yX10_swap, cX10_swap, 4, none))) (cond (Nat.ble mi 175) ((yX10_goesAhead, cX10_goesAhead, 5, (some .boolean))) ((yX10_pushes, cX10_pushes, 6, none)))) (cond (Nat.ble mi 178) (cond (Nat.ble mi 177) ((yX10_awakeFrom, cX10_awakeFrom, 4, (some .int))) ((yX10_leaves, cX10_leaves, 4, none))) (cond (Nat.ble mi 179) ((yX10_goer, cX10_goer, 4, (some .int))) ((yX10_pass, cX10_pass, 7, (some .int))))))))) (cond (Nat.ble mi 210) (cond (Nat.ble mi 195) (cond (Nat.ble mi 187) (cond (Nat.ble mi 183) (cond (Nat.ble mi 181) ((yX10_copyLine, cX10_copyLine, 5, none)) (cond (Nat.ble mi 182) ((yX10_layTried, cX10_layTried, 1, none)) ((yX10_toldOf, cX10_toldOf, 3, (some .int))))) (cond (Nat.ble mi 185) (cond (Nat.ble mi 184) ((yX10_person, cX10_person, 3, (some .int))) ((yX10_isOf, cX10_isOf, 3, (some .boolean)))) (cond (Nat.ble mi 186) ((yX10_sleeping, cX10_sleeping, 6, (some .int))) ((yX10_mark, cX10_mark, 5, (some .int)))))) (cond (Nat.ble mi 191) (cond (Nat.ble mi 189) (cond (Nat.ble mi 188) ((yX10_price, cX10_price, 4, (some .int))) ((yX10_keepPast, cX10_keepPast, 2, none))) (cond (Nat.ble mi 190) ((yX10_night, cX10_night, 2, (some .int))) ((yX10_areTwo, cX10_areTwo, 3, (some .boolean))))) (cond (Nat.ble mi 193) (cond (Nat.ble mi 192) ((yX10_trade, cX10_trade, 5, (some .int))) ((yX10_undo, cX10_undo, 4, (some .int)))) (cond (Nat.ble mi 194) ((yX10_keep, cX10_keep, 2, (some .int))) ((yX10_on, cX10_on, 2, (some .int))))))) (cond (Nat.ble mi 202) (cond (Nat.ble mi 198) (cond (Nat.ble mi 196) ((yX10_tonight, cX10_tonight, 3, (some .int))) (cond (Nat.ble mi 197) ((yX10_noNights, cX10_noNights, 3, (some .int))) ((yX10_noWent, cX10_noWent, 3, (some .int))))) (cond (Nat.ble mi 200) (cond (Nat.ble mi 199) ((yX10_areAll, cX10_areAll, 7, (some .boolean))) ((yX10_turn, cX10_turn, 5, (some .int)))) (cond (Nat.ble mi 201) ((yX10_after, cX10_after, 5, (some .int))) ((yX10_goesBy, cX10_goesBy, 5, (some .int)))))) (cond (Nat.ble mi 206) (cond (Nat.ble mi 204) (cond (Nat.ble mi 203) ((yX10_soonest, cX10_soonest, 6, (some .int))) ((yX10_rows, cX10_rows, 5, (some .int)))) (cond (Nat.ble mi 205) ((yX10_tellParts, cX10_tellParts, 11, (some .int))) ((yX10_waysOf, cX10_waysOf, 6, (some .long))))) (cond (Nat.ble mi 208) (cond (Nat.ble mi 207) ((yX10_odds, cX10_odds, 11, (some .int))) ((yX10_mid, cX10_mid, 12, (some .int)))) (cond (Nat.ble mi 209) ((yX10_power, cX10_power, 4, (some .int))) ((yX10_pairs, cX10_pairs, 1, (some .int)))))))) (cond (Nat.ble mi 225) (cond (Nat.ble mi 217) (cond (Nat.ble mi 213) (cond (Nat.ble mi 211) ((yX10_tradeOf, cX10_tradeOf, 4, (some .int))) (cond (Nat.ble mi 212) ((yX10_layTrades, cX10_layTrades, 5, none)) ((yX10_goesClear, cX10_goesClear, 4, (some .int))))) (cond (Nat.ble mi 215) (cond (Nat.ble mi 214) ((yX10_tradeRows, cX10_tradeRows, 2, (some .int))) ((yX10_push, cX10_push, 7, (some .int)))) (cond (Nat.ble mi 216) ((yX10_pair, cX10_pair, 7, (some .int))) ((yX10_cheap, cX10_cheap, 7, (some .int)))))) (cond (Nat.ble mi 221) (cond (Nat.ble mi 219) (cond (Nat.ble mi 218) ((yX10_winsBy, cX10_winsBy, 8, (some .boolean))) ((yX10_clouds, cX10_clouds, 4, (some .int)))) (cond (Nat.ble mi 220) ((yX10_game, cX10_game, 8, (some .int))) ((yX10_wentSo, cX10_wentSo, 5, (some .boolean))))) (cond (Nat.ble mi 223) (cond (Nat.ble mi 222) ((yX10_kinds, cX10_kinds, 8, (some .int))) ((yX10_clear, cX10_clear, 10, (some .int)))) (cond (Nat.ble mi 224) ((yX10_nextOrder, cX10_nextOrder, 7, (some .boolean))) ((yX10_liesBy, cX10_liesBy, 6, (some .int))))))) (cond (Nat.ble mi 233) (cond (Nat.ble mi 229) (cond (Nat.ble mi 227) (cond (Nat.ble mi 226) ((yX10_lies, cX10_lies, 8, (some .int))) ((yX10_merge, cX10_merge, 5, (some .int)))) (cond (Nat.ble mi 228) ((yX10_merged, cX10_merged, 10, (some .int))) ((yX10_message, cX10_message, 4, (some .int))))) (cond (Nat.ble mi 231) (cond (Nat.ble mi 230) ((yX10_lots, cX10_lots, 7, (some .int))) ((yX10_asked, cX10_asked, 1, (some .int)))) (cond (Nat.ble mi 232) ((yX10_upper, cX10_upper, 1, (some .long))) ((yX10_lower, cX10_lower, 1, (some .long)))))) (cond (Nat.ble mi 237) (cond (Nat.ble mi 235) (cond (Nat.ble mi 234) ((yX10_wentMany, cX10_wentMany, 3, (some .int))) ((yX10_kindMany, cX10_kindMany, 4, (some .int)))) (cond (Nat.ble mi 236) ((yX10_thereOf, cX10_thereOf, 4, (some .int))) ((yX10_countOf, cX10_countOf, 2, (some .int))))) (cond (Nat.ble mi 239) (cond (Nat.ble mi 238) ((yX10_count, cX10_count, 2, (some .int))) ((yX10_finding, cX10_finding, 1, (some .int)))) (cond (Nat.ble mi 240) ((yX10_findings, cX10_findings, 2, (some .int))) ((yX10_digest, cX10_digest, 5, (some .long))))))))))
theorem inG0 : ∀ w ∈ u_ws RX0 TX0 4, w ∈ lw_g := by
  intro w hw
  obtain ⟨k, hk, rfl⟩ := List.mem_map.mp hw
  have hk := List.mem_range.mp hk
  match k, hk with
  | 0, _ => exact w_274
  | 1, _ => exact w_276
  | 2, _ => exact w_278
  | 3, _ => exact w_280
  | k + 4, hk => exact absurd hk (by omega)
theorem inG1 : ∀ w ∈ u_ws RX1 TX1 4, w ∈ lw_g := by
  intro w hw
  obtain ⟨k, hk, rfl⟩ := List.mem_map.mp hw
  have hk := List.mem_range.mp hk
  match k, hk with
  | 0, _ => exact w_122
  | 1, _ => exact w_124
  | 2, _ => exact w_126
  | 3, _ => exact w_128
  | k + 4, hk => exact absurd hk (by omega)
theorem inG2 : ∀ w ∈ u_ws RX2 TX2 2, w ∈ lw_g := by
  intro w hw
  obtain ⟨k, hk, rfl⟩ := List.mem_map.mp hw
  have hk := List.mem_range.mp hk
  match k, hk with
  | 0, _ => exact w_175
  | 1, _ => exact w_177
  | k + 2, hk => exact absurd hk (by omega)
theorem inG3 : ∀ w ∈ u_ws RX3 TX3 4, w ∈ lw_g := by
  intro w hw
  obtain ⟨k, hk, rfl⟩ := List.mem_map.mp hw
  have hk := List.mem_range.mp hk
  match k, hk with
  | 0, _ => exact w_297
  | 1, _ => exact w_299
  | 2, _ => exact w_301
  | 3, _ => exact w_303
  | k + 4, hk => exact absurd hk (by omega)
theorem inG4 : ∀ w ∈ u_ws RX4 TX4 11, w ∈ lw_g := by
  intro w hw
  obtain ⟨k, hk, rfl⟩ := List.mem_map.mp hw
  have hk := List.mem_range.mp hk
  match k, hk with
  | 0, _ => exact w_203
  | 1, _ => exact w_205
  | 2, _ => exact w_207
  | 3, _ => exact w_209
  | 4, _ => exact w_211
  | 5, _ => exact w_213
  | 6, _ => exact w_215
  | 7, _ => exact w_217
  | 8, _ => exact w_219
  | 9, _ => exact w_221
  | 10, _ => exact w_223
  | k + 11, hk => exact absurd hk (by omega)
theorem inG5 : ∀ w ∈ u_ws RX5 TX5 6, w ∈ lw_g := by
  intro w hw
  obtain ⟨k, hk, rfl⟩ := List.mem_map.mp hw
  have hk := List.mem_range.mp hk
  match k, hk with
  | 0, _ => exact w_152
  | 1, _ => exact w_154
  | 2, _ => exact w_156
  | 3, _ => exact w_158
  | 4, _ => exact w_160
  | 5, _ => exact w_162
  | k + 6, hk => exact absurd hk (by omega)
theorem inG6 : ∀ w ∈ u_ws RX6 TX6 2, w ∈ lw_g := by
  intro w hw
  obtain ⟨k, hk, rfl⟩ := List.mem_map.mp hw
  have hk := List.mem_range.mp hk
  match k, hk with
  | 0, _ => exact w_316
  | 1, _ => exact w_318
  | k + 2, hk => exact absurd hk (by omega)
theorem inG7 : ∀ w ∈ u_ws RX7 TX7 2, w ∈ lw_g := by
  intro w hw
  obtain ⟨k, hk, rfl⟩ := List.mem_map.mp hw
  have hk := List.mem_range.mp hk
  match k, hk with
  | 0, _ => exact w_332
  | 1, _ => exact w_334
  | k + 2, hk => exact absurd hk (by omega)
theorem inG8 : ∀ w ∈ u_ws RX8 TX8 8, w ∈ lw_g := by
  intro w hw
  obtain ⟨k, hk, rfl⟩ := List.mem_map.mp hw
  have hk := List.mem_range.mp hk
  match k, hk with
  | 0, _ => exact w_245
  | 1, _ => exact w_247
  | 2, _ => exact w_249
  | 3, _ => exact w_251
  | 4, _ => exact w_253
  | 5, _ => exact w_255
  | 6, _ => exact w_257
  | 7, _ => exact w_259
  | k + 8, hk => exact absurd hk (by omega)
theorem inG9 : ∀ w ∈ u_ws RX9 TX9 18, w ∈ lw_g := by
  intro w hw
  obtain ⟨k, hk, rfl⟩ := List.mem_map.mp hw
  have hk := List.mem_range.mp hk
  match k, hk with
  | 0, _ => exact w_356
  | 1, _ => exact w_358
  | 2, _ => exact w_360
  | 3, _ => exact w_362
  | 4, _ => exact w_364
  | 5, _ => exact w_366
  | 6, _ => exact w_368
  | 7, _ => exact w_370
  | 8, _ => exact w_372
  | 9, _ => exact w_374
  | 10, _ => exact w_376
  | 11, _ => exact w_378
  | 12, _ => exact w_380
  | 13, _ => exact w_382
  | 14, _ => exact w_384
  | 15, _ => exact w_386
  | 16, _ => exact w_388
  | 17, _ => exact w_390
  | k + 18, hk => exact absurd hk (by omega)
theorem inG10 : ∀ w ∈ u_ws RX10 TX10 24, w ∈ lw_g := by
  intro w hw
  obtain ⟨k, hk, rfl⟩ := List.mem_map.mp hw
  have hk := List.mem_range.mp hk
  match k, hk with
  | 0, _ => exact w_989
  | 1, _ => exact w_991
  | 2, _ => exact w_993
  | 3, _ => exact w_995
  | 4, _ => exact w_997
  | 5, _ => exact w_999
  | 6, _ => exact w_1001
  | 7, _ => exact w_1003
  | 8, _ => exact w_1005
  | 9, _ => exact w_1007
  | 10, _ => exact w_1009
  | 11, _ => exact w_1011
  | 12, _ => exact w_1013
  | 13, _ => exact w_1015
  | 14, _ => exact w_1017
  | 15, _ => exact w_1019
  | 16, _ => exact w_1021
  | 17, _ => exact w_1023
  | 18, _ => exact w_1025
  | 19, _ => exact w_1027
  | 20, _ => exact w_1029
  | 21, _ => exact w_1031
  | 22, _ => exact w_1033
  | 23, _ => exact w_1035
  | k + 24, hk => exact absurd hk (by omega)
theorem inN {w : Cond} (h : w ∈ lw_tbl) (g : isNest w = true) : w ∈ nestL := List.mem_filter.mpr ⟨h, g⟩
