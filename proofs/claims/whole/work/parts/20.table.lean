/-! the methods by number; what each class lays -/
def tbM : mT := fun mi => cond (Nat.ble mi 122) (cond (Nat.ble mi 61) (cond (Nat.ble mi 30) (cond (Nat.ble mi 15) (cond (Nat.ble mi 7) (cond (Nat.ble mi 3) (cond (Nat.ble mi 1) ((yJ6_bitCount_0f7a4, cJ6_bitCount_0f7a4, 1, (some .int))) (cond (Nat.ble mi 2) ((yJ7_fill_53178, cJ7_fill_53178, 4, none)) ((yJ7_fill_031fb, cJ7_fill_031fb, 4, none)))) (cond (Nat.ble mi 5) (cond (Nat.ble mi 4) ((yX0_init, cX0_init, 2, none)) ((yX0_begin, cX0_begin, 5, none))) (cond (Nat.ble mi 6) ((yX0_isWon, cX0_isWon, 1, (some .boolean))) ((yX0_isWonFrom, cX0_isWonFrom, 5, (some .boolean)))))) (cond (Nat.ble mi 11) (cond (Nat.ble mi 9) (cond (Nat.ble mi 8) ((yX0_isWonBehindTrade, cX0_isWonBehindTrade, 7, (some .boolean))) ((yX1_init, cX1_init, 1, none))) (cond (Nat.ble mi 10) ((yX1_has, cX1_has, 2, (some .boolean))) ((yX1_setAs, cX1_setAs, 2, none)))) (cond (Nat.ble mi 13) (cond (Nat.ble mi 12) ((yX1_isOf, cX1_isOf, 4, (some .boolean))) ((yX1_isAsleep, cX1_isAsleep, 3, (some .boolean)))) (cond (Nat.ble mi 14) ((yX1_howMany, cX1_howMany, 4, (some .int))) ((yX1_read, cX1_read, 5, (some .int))))))) (cond (Nat.ble mi 22) (cond (Nat.ble mi 18) (cond (Nat.ble mi 16) ((yX1_takes, cX1_takes, 4, (some .boolean))) (cond (Nat.ble mi 17) ((yX1_takesLetter, cX1_takesLetter, 3, (some .boolean))) ((yX2_init, cX2_init, 1, none)))) (cond (Nat.ble mi 20) (cond (Nat.ble mi 19) ((yX2_hasRoomFor, cX2_hasRoomFor, 2, (some .boolean))) ((yX2_add, cX2_add, 2, none))) (cond (Nat.ble mi 21) ((yX2_setAs, cX2_setAs, 2, none)) ((yX3_init, cX3_init, 1, none))))) (cond (Nat.ble mi 26) (cond (Nat.ble mi 24) (cond (Nat.ble mi 23) ((yX3_begin, cX3_begin, 3, none)) ((yX3_addPair, cX3_addPair, 3, none))) (cond (Nat.ble mi 25) ((yX3_isPerson, cX3_isPerson, 2, (some .boolean))) ((yX3_countOrders, cX3_countOrders, 1, none)))) (cond (Nat.ble mi 28) (cond (Nat.ble mi 27) ((yX3_standBehind, cX3_standBehind, 7, none)) ((yX3_countOrder, cX3_countOrder, 2, none))) (cond (Nat.ble mi 29) ((yX4_init, cX4_init, 2, none)) ((yX4_begin, cX4_begin, 4, none))))))) (cond (Nat.ble mi 45) (cond (Nat.ble mi 37) (cond (Nat.ble mi 33) (cond (Nat.ble mi 31) ((yX4_waitFor, cX4_waitFor, 5, none)) (cond (Nat.ble mi 32) ((yX4_allWays, cX4_allWays, 2, (some .long))) ((yX4_ways, cX4_ways, 1, (some .long))))) (cond (Nat.ble mi 35) (cond (Nat.ble mi 34) ((yX4_waysFrom, cX4_waysFrom, 2, (some .long))) ((yX4_waysBy, cX4_waysBy, 8, (some .long)))) (cond (Nat.ble mi 36) ((yX4_isToGo, cX4_isToGo, 2, (some .boolean))) ((yX4_countFitting, cX4_countFitting, 2, none))))) (cond (Nat.ble mi 41) (cond (Nat.ble mi 39) (cond (Nat.ble mi 38) ((yX4_alwaysClear, cX4_alwaysClear, 1, (some .int))) ((yX4_fitFrom, cX4_fitFrom, 5, none))) (cond (Nat.ble mi 40) ((yX5_init, cX5_init, 1, none)) ((yX5_beginWith, cX5_beginWith, 3, none)))) (cond (Nat.ble mi 43) (cond (Nat.ble mi 42) ((yX5_setAs, cX5_setAs, 2, none)) ((yX5_whoAt, cX5_whoAt, 2, (some .int)))) (cond (Nat.ble mi 44) ((yX5_placeOf, cX5_placeOf, 3, (some .int))) ((yX5_standing, cX5_standing, 3, (some .int))))))) (cond (Nat.ble mi 53) (cond (Nat.ble mi 49) (cond (Nat.ble mi 47) (cond (Nat.ble mi 46) ((yX5_swapPlaces, cX5_swapPlaces, 4, none)) ((yX5_swapPersons, cX5_swapPersons, 3, none))) (cond (Nat.ble mi 48) ((yX5_asleepAhead, cX5_asleepAhead, 5, (some .int))) ((yX5_awakeBehind, cX5_awakeBehind, 5, (some .int))))) (cond (Nat.ble mi 51) (cond (Nat.ble mi 50) ((yX5_stepsOfRam, cX5_stepsOfRam, 3, (some .int))) ((yX5_firstAwakeFrom, cX5_firstAwakeFrom, 5, (some .int)))) (cond (Nat.ble mi 52) ((yX5_pass, cX5_pass, 4, (some .int))) ((yX5_isAsleepAt, cX5_isAsleepAt, 3, (some .boolean)))))) (cond (Nat.ble mi 57) (cond (Nat.ble mi 55) (cond (Nat.ble mi 54) ((yX5_pushAhead, cX5_pushAhead, 4, none)) ((yX5_nextToGo, cX5_nextToGo, 4, (some .int)))) (cond (Nat.ble mi 56) ((yX5_waitOneMore, cX5_waitOneMore, 6, none)) ((yX6_init, cX6_init, 1, none)))) (cond (Nat.ble mi 59) (cond (Nat.ble mi 58) ((yX6_isMissing, cX6_isMissing, 1, (some .boolean))) ((yX6_has, cX6_has, 2, (some .boolean)))) (cond (Nat.ble mi 60) ((yX6_hasSpan, cX6_hasSpan, 3, (some .boolean))) ((yX6_beginWith, cX6_beginWith, 2, none)))))))) (cond (Nat.ble mi 91) (cond (Nat.ble mi 76) (cond (Nat.ble mi 68) (cond (Nat.ble mi 64) (cond (Nat.ble mi 62) ((yX6_sum, cX6_sum, 4, (some .long))) (cond (Nat.ble mi 63) ((yX6_addTo, cX6_addTo, 6, (some .long))) ((yX7_init, cX7_init, 1, none)))) (cond (Nat.ble mi 66) (cond (Nat.ble mi 65) ((yX7_isMissing, cX7_isMissing, 1, (some .boolean))) ((yX7_has, cX7_has, 2, (some .boolean)))) (cond (Nat.ble mi 67) ((yX7_beginWith, cX7_beginWith, 2, none)) ((yX7_addTo, cX7_addTo, 6, (some .long)))))) (cond (Nat.ble mi 72) (cond (Nat.ble mi 70) (cond (Nat.ble mi 69) ((yX8_init, cX8_init, 2, none)) ((yX8_begin, cX8_begin, 4, none))) (cond (Nat.ble mi 71) ((yX8_seek, cX8_seek, 3, none)) ((yX8_fewestTrades, cX8_fewestTrades, 2, (some .int))))) (cond (Nat.ble mi 74) (cond (Nat.ble mi 73) ((yX8_isReachedBy, cX8_isReachedBy, 4, (some .boolean))) ((yX8_leastPrice, cX8_leastPrice, 1, (some .int)))) (cond (Nat.ble mi 75) ((yX8_lookForCheaper, cX8_lookForCheaper, 6, none)) ((yX8_tradeAt, cX8_tradeAt, 3, none)))))) (cond (Nat.ble mi 83) (cond (Nat.ble mi 79) (cond (Nat.ble mi 77) ((yX8_isReached, cX8_isReached, 5, (some .boolean))) (cond (Nat.ble mi 78) ((yX9_init, cX9_init, 2, none)) ((yX9_row, cX9_row, 3, (some .int))))) (cond (Nat.ble mi 81) (cond (Nat.ble mi 80) ((yX9_lay, cX9_lay, 5, (some .int))) ((yX9_at, cX9_at, 4, (some .int)))) (cond (Nat.ble mi 82) ((yX9_tear, cX9_tear, 3, (some .int))) ((yX9_copy, cX9_copy, 8, (some .int)))))) (cond (Nat.ble mi 87) (cond (Nat.ble mi 85) (cond (Nat.ble mi 84) ((yX9_mean, cX9_mean, 4, (some .int))) ((yX9_text, cX9_text, 3, (some .int)))) (cond (Nat.ble mi 86) ((yX9_put, cX9_put, 7, (some .int))) ((yX9_fault, cX9_fault, 3, (some .int))))) (cond (Nat.ble mi 89) (cond (Nat.ble mi 88) ((yX9_line, cX9_line, 4, (some .int))) ((yX9_person, cX9_person, 3, (some .int)))) (cond (Nat.ble mi 90) ((yX9_mark, cX9_mark, 4, (some .int))) ((yX9_price, cX9_price, 4, (some .int)))))))) (cond (Nat.ble mi 106) (cond (Nat.ble mi 98) (cond (Nat.ble mi 94) (cond (Nat.ble mi 92) ((yX9_night, cX9_night, 2, (some .int))) (cond (Nat.ble mi 93) ((yX9_trade, cX9_trade, 3, (some .int))) ((yX9_undo, cX9_undo, 3, (some .int))))) (cond (Nat.ble mi 96) (cond (Nat.ble mi 95) ((yX9_keep, cX9_keep, 2, (some .int))) ((yX9_on, cX9_on, 2, (some .int)))) (cond (Nat.ble mi 97) ((yX9_tonight, cX9_tonight, 2, (some .int))) ((yX9_turn, cX9_turn, 6, (some .int)))))) (cond (Nat.ble mi 102) (cond (Nat.ble mi 100) (cond (Nat.ble mi 99) ((yX9_after, cX9_after, 5, (some .int))) ((yX9_soonest, cX9_soonest, 3, (some .int)))) (cond (Nat.ble mi 101) ((yX9_rows, cX9_rows, 3, (some .int))) ((yX9_odds, cX9_odds, 4, (some .int))))) (cond (Nat.ble mi 104) (cond (Nat.ble mi 103) ((yX9_mid, cX9_mid, 3, (some .int))) ((yX9_push, cX9_push, 7, (some .int)))) (cond (Nat.ble mi 105) ((yX9_pair, cX9_pair, 4, (some .int))) ((yX9_cheap, cX9_cheap, 3, (some .int))))))) (cond (Nat.ble mi 114) (cond (Nat.ble mi 110) (cond (Nat.ble mi 108) (cond (Nat.ble mi 107) ((yX9_game, cX9_game, 3, (some .int))) ((yX9_kinds, cX9_kinds, 7, (some .int)))) (cond (Nat.ble mi 109) ((yX9_clear, cX9_clear, 3, (some .int))) ((yX9_lies, cX9_lies, 5, (some .int))))) (cond (Nat.ble mi 112) (cond (Nat.ble mi 111) ((yX9_merge, cX9_merge, 6, (some .int))) ((yX9_merged, cX9_merged, 7, (some .int)))) (cond (Nat.ble mi 113) ((yX9_message, cX9_message, 5, (some .int))) ((yX9_lots, cX9_lots, 8, (some .int)))))) (cond (Nat.ble mi 118) (cond (Nat.ble mi 116) (cond (Nat.ble mi 115) ((yX9_asked, cX9_asked, 1, (some .int))) ((yX9_upper, cX9_upper, 1, (some .long)))) (cond (Nat.ble mi 117) ((yX9_lower, cX9_lower, 1, (some .long))) ((yX9_count, cX9_count, 2, (some .int))))) (cond (Nat.ble mi 120) (cond (Nat.ble mi 119) ((yX9_finding, cX9_finding, 1, (some .int))) ((yX9_findings, cX9_findings, 2, (some .int)))) (cond (Nat.ble mi 121) ((yX9_digest, cX9_digest, 5, (some .long))) ((yX9_isRow, cX9_isRow, 1, (some .boolean)))))))))) (cond (Nat.ble mi 183) (cond (Nat.ble mi 152) (cond (Nat.ble mi 137) (cond (Nat.ble mi 129) (cond (Nat.ble mi 125) (cond (Nat.ble mi 123) ((yX9_isText, cX9_isText, 1, (some .boolean))) (cond (Nat.ble mi 124) ((yX9_isKeptPlace, cX9_isKeptPlace, 1, (some .boolean))) ((yX9_isChance, cX9_isChance, 1, (some .boolean))))) (cond (Nat.ble mi 127) (cond (Nat.ble mi 126) ((yX9_isTradeNights, cX9_isTradeNights, 1, (some .boolean))) ((yX9_find, cX9_find, 2, (some .int)))) (cond (Nat.ble mi 128) ((yX9_refusalOfRow, cX9_refusalOfRow, 2, (some .int))) ((yX9_refusalOfPlace, cX9_refusalOfPlace, 4, (some .int)))))) (cond (Nat.ble mi 133) (cond (Nat.ble mi 131) (cond (Nat.ble mi 130) ((yX9_refusalOfText, cX9_refusalOfText, 2, (some .int))) ((yX9_tellWays, cX9_tellWays, 3, none))) (cond (Nat.ble mi 132) ((yX9_tellChance, cX9_tellChance, 7, none)) ((yX9_commonDivisor, cX9_commonDivisor, 11, (some .long))))) (cond (Nat.ble mi 135) (cond (Nat.ble mi 134) ((yX9_numberOf, cX9_numberOf, 2, (some .int))) ((yX9_rowsThere, cX9_rowsThere, 3, (some .int)))) (cond (Nat.ble mi 136) ((yX9_textsThere, cX9_textsThere, 3, (some .int))) ((yX9_keptThere, cX9_keptThere, 3, (some .int))))))) (cond (Nat.ble mi 144) (cond (Nat.ble mi 140) (cond (Nat.ble mi 138) ((yX9_detailOf, cX9_detailOf, 3, (some .int))) (cond (Nat.ble mi 139) ((yX9_passNight, cX9_passNight, 2, (some .int))) ((yX9_doDeedsAnew, cX9_doDeedsAnew, 4, none)))) (cond (Nat.ble mi 142) (cond (Nat.ble mi 141) ((yX9_wrongInNights, cX9_wrongInNights, 2, (some .int))) ((yX9_wrongInGoers, cX9_wrongInGoers, 4, (some .int)))) (cond (Nat.ble mi 143) ((yX9_wrongInPairs, cX9_wrongInPairs, 5, (some .int))) ((yX9_goSo, cX9_goSo, 6, (some .boolean)))))) (cond (Nat.ble mi 148) (cond (Nat.ble mi 146) (cond (Nat.ble mi 145) ((yX9_isMerge, cX9_isMerge, 8, (some .boolean))) ((yX10_init, cX10_init, 2, none))) (cond (Nat.ble mi 147) ((yX10_bits, cX10_bits, 3, (some .int))) ((yX10_in, cX10_in, 6, (some .boolean))))) (cond (Nat.ble mi 150) (cond (Nat.ble mi 149) ((yX10_has, cX10_has, 2, (some .boolean))) ((yX10_find, cX10_find, 2, (some .int)))) (cond (Nat.ble mi 151) ((yX10_tell, cX10_tell, 2, (some .int))) ((yX10_isRow, cX10_isRow, 1, (some .boolean)))))))) (cond (Nat.ble mi 167) (cond (Nat.ble mi 159) (cond (Nat.ble mi 155) (cond (Nat.ble mi 153) ((yX10_isText, cX10_isText, 1, (some .boolean))) (cond (Nat.ble mi 154) ((yX10_row, cX10_row, 3, (some .int))) ((yX10_makeRow, cX10_makeRow, 4, none)))) (cond (Nat.ble mi 157) (cond (Nat.ble mi 156) ((yX10_refused, cX10_refused, 3, (some .int))) ((yX10_lay, cX10_lay, 6, (some .int)))) (cond (Nat.ble mi 158) ((yX10_at, cX10_at, 4, (some .int))) ((yX10_tear, cX10_tear, 2, (some .int)))))) (cond (Nat.ble mi 163) (cond (Nat.ble mi 161) (cond (Nat.ble mi 160) ((yX10_isSpan, cX10_isSpan, 4, (some .boolean))) ((yX10_copy, cX10_copy, 9, (some .int)))) (cond (Nat.ble mi 162) ((yX10_mean, cX10_mean, 5, (some .int))) ((yX10_text, cX10_text, 4, (some .int))))) (cond (Nat.ble mi 165) (cond (Nat.ble mi 164) ((yX10_put, cX10_put, 5, (some .int))) ((yX10_here, cX10_here, 1, (some .int)))) (cond (Nat.ble mi 166) ((yX10_skip, cX10_skip, 1, none)) ((yX10_figure, cX10_figure, 2, (some .int))))))) (cond (Nat.ble mi 175) (cond (Nat.ble mi 171) (cond (Nat.ble mi 169) (cond (Nat.ble mi 168) ((yX10_kindOfLetter, cX10_kindOfLetter, 1, (some .int))) ((yX10_readsPerson, cX10_readsPerson, 4, (some .boolean)))) (cond (Nat.ble mi 170) ((yX10_faultOf, cX10_faultOf, 3, (some .int))) ((yX10_fault, cX10_fault, 2, (some .int))))) (cond (Nat.ble mi 173) (cond (Nat.ble mi 172) ((yX10_line, cX10_line, 4, (some .int))) ((yX10_isPerson, cX10_isPerson, 2, (some .boolean)))) (cond (Nat.ble mi 174) ((yX10_isAsleep, cX10_isAsleep, 3, (some .boolean))) ((yX10_sleepsAt, cX10_sleepsAt, 3, (some .boolean)))))) (cond (Nat.ble mi 179) (cond (Nat.ble mi 177) (cond (Nat.ble mi 176) ((yX10_placeOf, cX10_placeOf, 4, (some .int))) ((yX10_isPusher, cX10_isPusher, 1, (some .boolean)))) (cond (Nat.ble mi 178) ((yX10_swap, cX10_swap, 4, none)) ((yX10_goesAhead, cX10_goesAhead, 5, (some .boolean))))) (cond (Nat.ble mi 181) (cond (Nat.ble mi 180) ((yX10_pushes, cX10_pushes, 6, none)) ((yX10_awakeFrom, cX10_awakeFrom, 4, (some .int)))) (cond (Nat.ble mi 182) ((yX10_leaves, cX10_leaves, 4, none)) ((yX10_goer, cX10_goer, 4, (some .int))))))))) (cond (Nat.ble mi 214) (cond (Nat.ble mi 198) (cond (Nat.ble mi 190) (cond (Nat.ble mi 186) (cond (Nat.ble mi 184) ((yX10_pass, cX10_pass, 7, (some .int))) (cond (Nat.ble mi 185) ((yX10_copyLine, cX10_copyLine, 5, none)) ((yX10_layTried, cX10_layTried, 1, none)))) (cond (Nat.ble mi 188) (cond (Nat.ble mi 187) ((yX10_toldOf, cX10_toldOf, 3, (some .int))) ((yX10_person, cX10_person, 3, (some .int)))) (cond (Nat.ble mi 189) ((yX10_isOf, cX10_isOf, 3, (some .boolean))) ((yX10_sleeping, cX10_sleeping, 6, (some .int)))))) (cond (Nat.ble mi 194) (cond (Nat.ble mi 192) (cond (Nat.ble mi 191) ((yX10_mark, cX10_mark, 5, (some .int))) ((yX10_price, cX10_price, 4, (some .int)))) (cond (Nat.ble mi 193) ((yX10_keepPast, cX10_keepPast, 2, none)) ((yX10_night, cX10_night, 2, (some .int))))) (cond (Nat.ble mi 196) (cond (Nat.ble mi 195) ((yX10_areTwo, cX10_areTwo, 3, (some .boolean))) ((yX10_trade, cX10_trade, 5, (some .int)))) (cond (Nat.ble mi 197) ((yX10_undo, cX10_undo, 4, (some .int))) ((yX10_keep, cX10_keep, 2, (some .int))))))) (cond (Nat.ble mi 206) (cond (Nat.ble mi 202) (cond (Nat.ble mi 200) (cond (Nat.ble mi 199) ((yX10_on, cX10_on, 2, (some .int))) ((yX10_tonight, cX10_tonight, 3, (some .int)))) (cond (Nat.ble mi 201) ((yX10_noNights, cX10_noNights, 3, (some .int))) ((yX10_noWent, cX10_noWent, 3, (some .int))))) (cond (Nat.ble mi 204) (cond (Nat.ble mi 203) ((yX10_areAll, cX10_areAll, 7, (some .boolean))) ((yX10_turn, cX10_turn, 5, (some .int)))) (cond (Nat.ble mi 205) ((yX10_after, cX10_after, 5, (some .int))) ((yX10_goesBy, cX10_goesBy, 5, (some .int)))))) (cond (Nat.ble mi 210) (cond (Nat.ble mi 208) (cond (Nat.ble mi 207) ((yX10_soonest, cX10_soonest, 6, (some .int))) ((yX10_rows, cX10_rows, 5, (some .int)))) (cond (Nat.ble mi 209) ((yX10_tellParts, cX10_tellParts, 11, (some .int))) ((yX10_waysOf, cX10_waysOf, 6, (some .long))))) (cond (Nat.ble mi 212) (cond (Nat.ble mi 211) ((yX10_odds, cX10_odds, 11, (some .int))) ((yX10_mid, cX10_mid, 12, (some .int)))) (cond (Nat.ble mi 213) ((yX10_power, cX10_power, 4, (some .int))) ((yX10_pairs, cX10_pairs, 1, (some .int)))))))) (cond (Nat.ble mi 229) (cond (Nat.ble mi 221) (cond (Nat.ble mi 217) (cond (Nat.ble mi 215) ((yX10_tradeOf, cX10_tradeOf, 4, (some .int))) (cond (Nat.ble mi 216) ((yX10_layTrades, cX10_layTrades, 5, none)) ((yX10_goesClear, cX10_goesClear, 4, (some .int))))) (cond (Nat.ble mi 219) (cond (Nat.ble mi 218) ((yX10_tradeRows, cX10_tradeRows, 2, (some .int))) ((yX10_push, cX10_push, 7, (some .int)))) (cond (Nat.ble mi 220) ((yX10_pair, cX10_pair, 7, (some .int))) ((yX10_cheap, cX10_cheap, 7, (some .int)))))) (cond (Nat.ble mi 225) (cond (Nat.ble mi 223) (cond (Nat.ble mi 222) ((yX10_winsBy, cX10_winsBy, 8, (some .boolean))) ((yX10_clouds, cX10_clouds, 4, (some .int)))) (cond (Nat.ble mi 224) ((yX10_game, cX10_game, 8, (some .int))) ((yX10_wentSo, cX10_wentSo, 5, (some .boolean))))) (cond (Nat.ble mi 227) (cond (Nat.ble mi 226) ((yX10_kinds, cX10_kinds, 8, (some .int))) ((yX10_clear, cX10_clear, 10, (some .int)))) (cond (Nat.ble mi 228) ((yX10_nextOrder, cX10_nextOrder, 7, (some .boolean))) ((yX10_liesBy, cX10_liesBy, 6, (some .int))))))) (cond (Nat.ble mi 237) (cond (Nat.ble mi 233) (cond (Nat.ble mi 231) (cond (Nat.ble mi 230) ((yX10_lies, cX10_lies, 8, (some .int))) ((yX10_merge, cX10_merge, 5, (some .int)))) (cond (Nat.ble mi 232) ((yX10_merged, cX10_merged, 10, (some .int))) ((yX10_message, cX10_message, 4, (some .int))))) (cond (Nat.ble mi 235) (cond (Nat.ble mi 234) ((yX10_lots, cX10_lots, 7, (some .int))) ((yX10_asked, cX10_asked, 1, (some .int)))) (cond (Nat.ble mi 236) ((yX10_upper, cX10_upper, 1, (some .long))) ((yX10_lower, cX10_lower, 1, (some .long)))))) (cond (Nat.ble mi 241) (cond (Nat.ble mi 239) (cond (Nat.ble mi 238) ((yX10_wentMany, cX10_wentMany, 3, (some .int))) ((yX10_kindMany, cX10_kindMany, 4, (some .int)))) (cond (Nat.ble mi 240) ((yX10_thereOf, cX10_thereOf, 4, (some .int))) ((yX10_countOf, cX10_countOf, 2, (some .int))))) (cond (Nat.ble mi 243) (cond (Nat.ble mi 242) ((yX10_count, cX10_count, 2, (some .int))) ((yX10_finding, cX10_finding, 1, (some .int)))) (cond (Nat.ble mi 244) ((yX10_findings, cX10_findings, 2, (some .int))) ((yX10_digest, cX10_digest, 5, (some .long))))))))))
theorem inG0 : ∀ w ∈ u_ws RX0 TX0 4, w ∈ lw_g := by
  intro w hw
  obtain ⟨k, hk, rfl⟩ := List.mem_map.mp hw
  have hk := List.mem_range.mp hk
  match k, hk with
  | 0, _ => exact w_277
  | 1, _ => exact w_279
  | 2, _ => exact w_281
  | 3, _ => exact w_283
  | k + 4, hk => exact absurd hk (by omega)
theorem inG1 : ∀ w ∈ u_ws RX1 TX1 4, w ∈ lw_g := by
  intro w hw
  obtain ⟨k, hk, rfl⟩ := List.mem_map.mp hw
  have hk := List.mem_range.mp hk
  match k, hk with
  | 0, _ => exact w_126
  | 1, _ => exact w_128
  | 2, _ => exact w_130
  | 3, _ => exact w_132
  | k + 4, hk => exact absurd hk (by omega)
theorem inG2 : ∀ w ∈ u_ws RX2 TX2 2, w ∈ lw_g := by
  intro w hw
  obtain ⟨k, hk, rfl⟩ := List.mem_map.mp hw
  have hk := List.mem_range.mp hk
  match k, hk with
  | 0, _ => exact w_179
  | 1, _ => exact w_181
  | k + 2, hk => exact absurd hk (by omega)
theorem inG3 : ∀ w ∈ u_ws RX3 TX3 4, w ∈ lw_g := by
  intro w hw
  obtain ⟨k, hk, rfl⟩ := List.mem_map.mp hw
  have hk := List.mem_range.mp hk
  match k, hk with
  | 0, _ => exact w_300
  | 1, _ => exact w_302
  | 2, _ => exact w_304
  | 3, _ => exact w_306
  | k + 4, hk => exact absurd hk (by omega)
theorem inG4 : ∀ w ∈ u_ws RX4 TX4 11, w ∈ lw_g := by
  intro w hw
  obtain ⟨k, hk, rfl⟩ := List.mem_map.mp hw
  have hk := List.mem_range.mp hk
  match k, hk with
  | 0, _ => exact w_207
  | 1, _ => exact w_209
  | 2, _ => exact w_211
  | 3, _ => exact w_213
  | 4, _ => exact w_215
  | 5, _ => exact w_217
  | 6, _ => exact w_219
  | 7, _ => exact w_221
  | 8, _ => exact w_223
  | 9, _ => exact w_225
  | 10, _ => exact w_227
  | k + 11, hk => exact absurd hk (by omega)
theorem inG5 : ∀ w ∈ u_ws RX5 TX5 6, w ∈ lw_g := by
  intro w hw
  obtain ⟨k, hk, rfl⟩ := List.mem_map.mp hw
  have hk := List.mem_range.mp hk
  match k, hk with
  | 0, _ => exact w_156
  | 1, _ => exact w_158
  | 2, _ => exact w_160
  | 3, _ => exact w_162
  | 4, _ => exact w_164
  | 5, _ => exact w_166
  | k + 6, hk => exact absurd hk (by omega)
theorem inG6 : ∀ w ∈ u_ws RX6 TX6 2, w ∈ lw_g := by
  intro w hw
  obtain ⟨k, hk, rfl⟩ := List.mem_map.mp hw
  have hk := List.mem_range.mp hk
  match k, hk with
  | 0, _ => exact w_319
  | 1, _ => exact w_321
  | k + 2, hk => exact absurd hk (by omega)
theorem inG7 : ∀ w ∈ u_ws RX7 TX7 2, w ∈ lw_g := by
  intro w hw
  obtain ⟨k, hk, rfl⟩ := List.mem_map.mp hw
  have hk := List.mem_range.mp hk
  match k, hk with
  | 0, _ => exact w_335
  | 1, _ => exact w_337
  | k + 2, hk => exact absurd hk (by omega)
theorem inG8 : ∀ w ∈ u_ws RX8 TX8 8, w ∈ lw_g := by
  intro w hw
  obtain ⟨k, hk, rfl⟩ := List.mem_map.mp hw
  have hk := List.mem_range.mp hk
  match k, hk with
  | 0, _ => exact w_248
  | 1, _ => exact w_250
  | 2, _ => exact w_252
  | 3, _ => exact w_254
  | 4, _ => exact w_256
  | 5, _ => exact w_258
  | 6, _ => exact w_260
  | 7, _ => exact w_262
  | k + 8, hk => exact absurd hk (by omega)
theorem inG9 : ∀ w ∈ u_ws RX9 TX9 18, w ∈ lw_g := by
  intro w hw
  obtain ⟨k, hk, rfl⟩ := List.mem_map.mp hw
  have hk := List.mem_range.mp hk
  match k, hk with
  | 0, _ => exact w_359
  | 1, _ => exact w_361
  | 2, _ => exact w_363
  | 3, _ => exact w_365
  | 4, _ => exact w_367
  | 5, _ => exact w_369
  | 6, _ => exact w_371
  | 7, _ => exact w_373
  | 8, _ => exact w_375
  | 9, _ => exact w_377
  | 10, _ => exact w_379
  | 11, _ => exact w_381
  | 12, _ => exact w_383
  | 13, _ => exact w_385
  | 14, _ => exact w_387
  | 15, _ => exact w_389
  | 16, _ => exact w_391
  | 17, _ => exact w_393
  | k + 18, hk => exact absurd hk (by omega)
theorem inG10 : ∀ w ∈ u_ws RX10 TX10 24, w ∈ lw_g := by
  intro w hw
  obtain ⟨k, hk, rfl⟩ := List.mem_map.mp hw
  have hk := List.mem_range.mp hk
  match k, hk with
  | 0, _ => exact w_1004
  | 1, _ => exact w_1006
  | 2, _ => exact w_1008
  | 3, _ => exact w_1010
  | 4, _ => exact w_1012
  | 5, _ => exact w_1014
  | 6, _ => exact w_1016
  | 7, _ => exact w_1018
  | 8, _ => exact w_1020
  | 9, _ => exact w_1022
  | 10, _ => exact w_1024
  | 11, _ => exact w_1026
  | 12, _ => exact w_1028
  | 13, _ => exact w_1030
  | 14, _ => exact w_1032
  | 15, _ => exact w_1034
  | 16, _ => exact w_1036
  | 17, _ => exact w_1038
  | 18, _ => exact w_1040
  | 19, _ => exact w_1042
  | 20, _ => exact w_1044
  | 21, _ => exact w_1046
  | 22, _ => exact w_1048
  | 23, _ => exact w_1050
  | k + 24, hk => exact absurd hk (by omega)
theorem inN {w : Cond} (h : w ∈ lw_tbl) (g : isNest w = true) : w ∈ nestL := List.mem_filter.mpr ⟨h, g⟩
