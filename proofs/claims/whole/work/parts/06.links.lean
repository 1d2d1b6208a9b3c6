def mX0_has : MI := (RX0, yX0_has, cX0_has, 2, some .boolean, 0, 0)
def mX0_setTo : MI := (RX0, yX0_setTo, cX0_setTo, 2, none, 1, 40)
def mX0_swapSpreads : MI := (RX0, yX0_swapSpreads, cX0_swapSpreads, 4, none, 0, 0)
def mX1_mayBe : MI := (RX1, yX1_mayBe, cX1_mayBe, 4, some .boolean, 2, 42)
def mX1_isFull : MI := (RX1, yX1_isFull, cX1_isFull, 1, some .boolean, 0, 0)
def mX1_all : MI := (RX1, yX1_all, cX1_all, 1, some .int, 0, 0)
def mX1_tell : MI := (RX1, yX1_tell, cX1_tell, 6, none, 1, 20)
def mX1_untell : MI := (RX1, yX1_untell, cX1_untell, 3, none, 0, 0)
def mX1_touch : MI := (RX1, yX1_touch, cX1_touch, 4, some .boolean, 0, 0)
def mX2_clear : MI := (RX2, yX2_clear, cX2_clear, 1, none, 0, 0)
def mX2_mark : MI := (RX2, yX2_mark, cX2_mark, 4, none, 0, 0)
def mX2_mostMarks : MI := (RX2, yX2_mostMarks, cX2_mostMarks, 3, some .int, 1, 21)
def mX3_live : MI := (RX3, yX3_live, cX3_live, 9, none, 1, 23)
def mX3_begin : MI := (RX3, yX3_begin, cX3_begin, 3, none, 0, 0)
def mX3_undergo : MI := (RX3, yX3_undergo, cX3_undergo, 3, none, 0, 0)
def mX3_goRound : MI := (RX3, yX3_goRound, cX3_goRound, 4, none, 0, 0)
def mX3_legX : MI := (RX3, yX3_legX, cX3_legX, 1, some .int, 0, 0)
def mX3_legY : MI := (RX3, yX3_legY, cX3_legY, 1, some .int, 0, 0)
def mX3_isClosed : MI := (RX3, yX3_isClosed, cX3_isClosed, 1, some .boolean, 0, 0)
def mX3_meetsLegOf : MI := (RX3, yX3_meetsLegOf, cX3_meetsLegOf, 2, some .boolean, 1, 20)
def mX3_isAny : MI := (RX3, yX3_isAny, cX3_isAny, 3, some .boolean, 1, 28)
def mX3_against : MI := (RX3, yX3_against, cX3_against, 9, some .int, 0, 0)
def mX4_renew : MI := (RX4, yX4_renew, cX4_renew, 4, none, 0, 0)
def mX4_wrongWith : MI := (RX4, yX4_wrongWith, cX4_wrongWith, 3, some .int, 0, 0)
def mX4_hasItems : MI := (RX4, yX4_hasItems, cX4_hasItems, 3, some .boolean, 0, 0)
def mX4_lowestBits : MI := (RX4, yX4_lowestBits, cX4_lowestBits, 2, some .int, 0, 0)
def mX5_isFull : MI := (RX5, yX5_isFull, cX5_isFull, 1, some .boolean, 0, 0)
def mX5_note : MI := (RX5, yX5_note, cX5_note, 5, none, 1, 20)
def mX5_comeOut : MI := (RX5, yX5_comeOut, cX5_comeOut, 6, some .boolean, 2, 51)
def mX6_behind : MI := (RX6, yX6_behind, cX6_behind, 6, none, 2, 51)
def mX6_liveAgain : MI := (RX6, yX6_liveAgain, cX6_liveAgain, 7, none, 2, 51)
def mX6_closedPairs : MI := (RX6, yX6_closedPairs, cX6_closedPairs, 5, some .int, 2, 50)
def mX6_othersWith : MI := (RX6, yX6_othersWith, cX6_othersWith, 5, some .int, 2, 50)
def mX6_closedBits : MI := (RX6, yX6_closedBits, cX6_closedBits, 3, some .int, 1, 20)
def mX6_sighs : MI := (RX6, yX6_sighs, cX6_sighs, 3, some .int, 0, 0)
def mX6_firstMetBy : MI := (RX6, yX6_firstMetBy, cX6_firstMetBy, 3, some .int, 2, 41)
def mX7_type : MI := (RX7, yX7_type, cX7_type, 2, some .int, 3, 67)
def mX7_wipe : MI := (RX7, yX7_wipe, cX7_wipe, 2, some .int, 3, 67)
def mX7_undo : MI := (RX7, yX7_undo, cX7_undo, 1, some .int, 3, 67)
def mX7_fault : MI := (RX7, yX7_fault, cX7_fault, 1, some .int, 0, 0)
def mX7_couple : MI := (RX7, yX7_couple, cX7_couple, 3, some .int, 1, 21)
def mX7_event : MI := (RX7, yX7_event, cX7_event, 5, some .int, 3, 65)
def mX7_back : MI := (RX7, yX7_back, cX7_back, 1, some .int, 1, 22)
def mX7_read : MI := (RX7, yX7_read, cX7_read, 6, some .int, 3, 65)
def mX7_at : MI := (RX7, yX7_at, cX7_at, 4, some .int, 2, 51)
def mX7_place : MI := (RX7, yX7_place, cX7_place, 4, some .int, 2, 51)
def mX7_are : MI := (RX7, yX7_are, cX7_are, 4, some .int, 4, 97)
def mX7_pairs : MI := (RX7, yX7_pairs, cX7_pairs, 3, some .int, 4, 97)
def mX7_closed : MI := (RX7, yX7_closed, cX7_closed, 2, some .int, 4, 97)
def mX7_holes : MI := (RX7, yX7_holes, cX7_holes, 3, some .int, 4, 97)
def mX7_ringed : MI := (RX7, yX7_ringed, cX7_ringed, 3, some .int, 2, 51)
def mX7_meets : MI := (RX7, yX7_meets, cX7_meets, 5, some .int, 4, 97)
def mX7_open : MI := (RX7, yX7_open, cX7_open, 8, some .int, 4, 97)
def mX7_stand : MI := (RX7, yX7_stand, cX7_stand, 12, some .int, 4, 97)
def mX7_swap : MI := (RX7, yX7_swap, cX7_swap, 8, some .int, 4, 98)
def mX7_drop : MI := (RX7, yX7_drop, cX7_drop, 3, some .int, 5, 119)
def mX7_seen : MI := (RX7, yX7_seen, cX7_seen, 6, some .int, 2, 44)
def mX7_forget : MI := (RX7, yX7_forget, cX7_forget, 2, some .int, 0, 0)
def mX7_never : MI := (RX7, yX7_never, cX7_never, 3, some .int, 3, 76)
def mX7_was : MI := (RX7, yX7_was, cX7_was, 3, some .int, 4, 101)
def mX7_ask : MI := (RX7, yX7_ask, cX7_ask, 7, some .int, 4, 101)
def mX7_gossip : MI := (RX7, yX7_gossip, cX7_gossip, 10, some .long, 4, 102)
def mX7_ages : MI := (RX7, yX7_ages, cX7_ages, 4, some .int, 3, 76)
def mX7_sheet : MI := (RX7, yX7_sheet, cX7_sheet, 4, some .int, 2, 42)
def mX7_lose : MI := (RX7, yX7_lose, cX7_lose, 2, some .int, 2, 42)
def mX7_put : MI := (RX7, yX7_put, cX7_put, 6, some .int, 2, 42)
def mX7_get : MI := (RX7, yX7_get, cX7_get, 5, some .int, 2, 42)
def mX7_copy : MI := (RX7, yX7_copy, cX7_copy, 8, some .int, 2, 42)
def mX7_write : MI := (RX7, yX7_write, cX7_write, 6, some .int, 2, 51)
def mX7_count : MI := (RX7, yX7_count, cX7_count, 2, some .int, 5, 119)
def mX7_digest : MI := (RX7, yX7_digest, cX7_digest, 4, some .long, 6, 154)
def mX7_mix : MI := (RX7, yX7_mix, cX7_mix, 4, some .long, 0, 0)
def mX7_mixCouple : MI := (RX7, yX7_mixCouple, cX7_mixCouple, 7, some .long, 5, 128)
def mX7_mixOneDay : MI := (RX7, yX7_mixOneDay, cX7_mixOneDay, 8, some .long, 3, 74)
def mX7_mixPairs : MI := (RX7, yX7_mixPairs, cX7_mixPairs, 7, some .long, 5, 120)
def mX7_mixDays : MI := (RX7, yX7_mixDays, cX7_mixDays, 6, some .long, 5, 119)
def mX7_isWithin : MI := (RX7, yX7_isWithin, cX7_isWithin, 3, some .boolean, 0, 0)
def mX7_isDay : MI := (RX7, yX7_isDay, cX7_isDay, 1, some .boolean, 1, 22)
def mX7_isSheet : MI := (RX7, yX7_isSheet, cX7_isSheet, 1, some .boolean, 1, 22)
def mX7_isForm : MI := (RX7, yX7_isForm, cX7_isForm, 1, some .boolean, 1, 22)
def mX7_pick : MI := (RX7, yX7_pick, cX7_pick, 4, some .int, 0, 0)
def mX7_bitOf : MI := (RX7, yX7_bitOf, cX7_bitOf, 4, some .int, 0, 0)
def mX7_find : MI := (RX7, yX7_find, cX7_find, 2, some .int, 0, 0)
def mX7_comeTo : MI := (RX7, yX7_comeTo, cX7_comeTo, 2, none, 3, 76)
def mX7_hear : MI := (RX7, yX7_hear, cX7_hear, 2, none, 2, 46)
def mX7_hearByte : MI := (RX7, yX7_hearByte, cX7_hearByte, 5, some .boolean, 1, 22)
def mX7_talkedOnceSwapped : MI := (RX7, yX7_talkedOnceSwapped, cX7_talkedOnceSwapped, 3, some .int, 3, 76)
def mX7_isQuietWithout : MI := (RX7, yX7_isQuietWithout, cX7_isQuietWithout, 2, some .boolean, 3, 76)
def mX7_fewestToDrop : MI := (RX7, yX7_fewestToDrop, cX7_fewestToDrop, 3, some .int, 4, 97)
def mX7_valuesThatFit : MI := (RX7, yX7_valuesThatFit, cX7_valuesThatFit, 6, some .int, 3, 76)
def mX7_mostAlike : MI := (RX7, yX7_mostAlike, cX7_mostAlike, 5, some .int, 2, 61)
def mX7_waysTalked : MI := (RX7, yX7_waysTalked, cX7_waysTalked, 6, some .long, 3, 77)
def mX7_weight : MI := (RX7, yX7_weight, cX7_weight, 6, some .long, 0, 0)
def mX7_drawEvents : MI := (RX7, yX7_drawEvents, cX7_drawEvents, 8, none, 2, 45)
def mX7_nextLot : MI := (RX7, yX7_nextLot, cX7_nextLot, 1, some .int, 0, 0)
def mX7_lotOf : MI := (RX7, yX7_lotOf, cX7_lotOf, 2, some .int, 0, 0)
def mX8_in : MI := (RX8, yX8_in, cX8_in, 3, some .boolean, 0, 0)
def mX8_isIn : MI := (RX8, yX8_isIn, cX8_isIn, 2, some .boolean, 0, 0)
def mX8_no : MI := (RX8, yX8_no, cX8_no, 1, some .long, 0, 0)
def mX8_lowest : MI := (RX8, yX8_lowest, cX8_lowest, 11, some .long, 0, 0)
def mX8_isDay : MI := (RX8, yX8_isDay, cX8_isDay, 1, some .boolean, 1, 22)
def mX8_isEight : MI := (RX8, yX8_isEight, cX8_isEight, 1, some .boolean, 1, 22)
def mX8_type : MI := (RX8, yX8_type, cX8_type, 2, some .int, 1, 22)
def mX8_wipe : MI := (RX8, yX8_wipe, cX8_wipe, 2, some .int, 0, 0)
def mX8_undo : MI := (RX8, yX8_undo, cX8_undo, 1, some .int, 0, 0)
def mX8_byteAt : MI := (RX8, yX8_byteAt, cX8_byteAt, 2, some .int, 0, 0)
def mX8_sortAt : MI := (RX8, yX8_sortAt, cX8_sortAt, 3, some .int, 1, 21)
def mX8_readsCouple : MI := (RX8, yX8_readsCouple, cX8_readsCouple, 4, some .int, 2, 43)
def mX8_faultNow : MI := (RX8, yX8_faultNow, cX8_faultNow, 4, some .int, 3, 66)
def mX8_reads : MI := (RX8, yX8_reads, cX8_reads, 2, none, 4, 89)
def mX8_fault : MI := (RX8, yX8_fault, cX8_fault, 1, some .int, 4, 89)
def mX8_isCouple : MI := (RX8, yX8_isCouple, cX8_isCouple, 2, some .boolean, 5, 110)
def mX8_coupleOf : MI := (RX8, yX8_coupleOf, cX8_coupleOf, 3, some .int, 0, 0)
def mX8_couple : MI := (RX8, yX8_couple, cX8_couple, 3, some .int, 6, 131)
def mX8_event : MI := (RX8, yX8_event, cX8_event, 5, some .int, 2, 42)
def mX8_back : MI := (RX8, yX8_back, cX8_back, 1, some .int, 0, 0)
def mX8_read : MI := (RX8, yX8_read, cX8_read, 4, some .int, 3, 66)
def mX8_asTold : MI := (RX8, yX8_asTold, cX8_asTold, 2, none, 5, 110)
def mX8_legX : MI := (RX8, yX8_legX, cX8_legX, 3, some .int, 0, 0)
def mX8_legY : MI := (RX8, yX8_legY, cX8_legY, 3, some .int, 0, 0)
def mX8_changesOver : MI := (RX8, yX8_changesOver, cX8_changesOver, 4, none, 1, 22)
def mX8_befalls : MI := (RX8, yX8_befalls, cX8_befalls, 3, none, 2, 45)
def mX8_goesRound : MI := (RX8, yX8_goesRound, cX8_goesRound, 4, none, 1, 21)
def mX8_goesBy : MI := (RX8, yX8_goesBy, cX8_goesBy, 4, none, 3, 67)
def mX8_runs : MI := (RX8, yX8_runs, cX8_runs, 2, none, 4, 90)
def mX8_runsTold : MI := (RX8, yX8_runsTold, cX8_runsTold, 1, none, 6, 131)
def mX8_atOf : MI := (RX8, yX8_atOf, cX8_atOf, 5, some .int, 7, 151)
def mX8_at : MI := (RX8, yX8_at, cX8_at, 4, some .int, 8, 175)
def mX8_legXAt : MI := (RX8, yX8_legXAt, cX8_legXAt, 2, some .int, 1, 22)
def mX8_legYAt : MI := (RX8, yX8_legYAt, cX8_legYAt, 2, some .int, 1, 22)
def mX8_placeOf : MI := (RX8, yX8_placeOf, cX8_placeOf, 5, some .int, 7, 151)
def mX8_place : MI := (RX8, yX8_place, cX8_place, 4, some .int, 8, 175)
def mX8_areNow : MI := (RX8, yX8_areNow, cX8_areNow, 11, some .int, 0, 0)
def mX8_areOf : MI := (RX8, yX8_areOf, cX8_areOf, 4, some .int, 7, 151)
def mX8_are : MI := (RX8, yX8_are, cX8_are, 4, some .int, 8, 174)
def mX8_pairsNow : MI := (RX8, yX8_pairsNow, cX8_pairsNow, 9, some .int, 1, 30)
def mX8_pairsOf : MI := (RX8, yX8_pairsOf, cX8_pairsOf, 3, some .int, 7, 151)
def mX8_pairs : MI := (RX8, yX8_pairs, cX8_pairs, 3, some .int, 8, 173)
def mX8_closedNow : MI := (RX8, yX8_closedNow, cX8_closedNow, 4, some .int, 0, 0)
def mX8_closedOf : MI := (RX8, yX8_closedOf, cX8_closedOf, 2, some .int, 7, 151)
def mX8_closed : MI := (RX8, yX8_closed, cX8_closed, 2, some .int, 8, 172)
def mX8_isNew : MI := (RX8, yX8_isNew, cX8_isNew, 4, some .boolean, 0, 0)
def mX8_holesOf : MI := (RX8, yX8_holesOf, cX8_holesOf, 3, some .int, 7, 151)
def mX8_holes : MI := (RX8, yX8_holes, cX8_holes, 1, some .int, 8, 173)
def mX8_ringedOf : MI := (RX8, yX8_ringedOf, cX8_ringedOf, 4, some .int, 7, 151)
def mX8_ringed : MI := (RX8, yX8_ringed, cX8_ringed, 2, some .int, 8, 174)
def mX8_metOf : MI := (RX8, yX8_metOf, cX8_metOf, 7, some .int, 7, 151)
def mX8_meets : MI := (RX8, yX8_meets, cX8_meets, 2, some .int, 8, 177)
def mX8_othersNow : MI := (RX8, yX8_othersNow, cX8_othersNow, 7, some .int, 1, 30)
def mX8_openOf : MI := (RX8, yX8_openOf, cX8_openOf, 9, some .int, 6, 131)
def mX8_open : MI := (RX8, yX8_open, cX8_open, 4, some .int, 7, 159)
def mX8_standOf : MI := (RX8, yX8_standOf, cX8_standOf, 10, some .int, 6, 131)
def mX8_stand : MI := (RX8, yX8_stand, cX8_stand, 4, some .int, 7, 160)
def mX8_swaps : MI := (RX8, yX8_swaps, cX8_swaps, 4, none, 0, 0)
def mX8_swapOf : MI := (RX8, yX8_swapOf, cX8_swapOf, 7, some .int, 6, 131)
def mX8_swap : MI := (RX8, yX8_swap, cX8_swap, 2, some .int, 7, 157)
def mX8_isQuiet : MI := (RX8, yX8_isQuiet, cX8_isQuiet, 2, some .boolean, 5, 111)
def mX8_dropBy : MI := (RX8, yX8_dropBy, cX8_dropBy, 3, some .int, 6, 132)
def mX8_ofRow : MI := (RX8, yX8_ofRow, cX8_ofRow, 3, some .int, 0, 0)
def mX8_drop : MI := (RX8, yX8_drop, cX8_drop, 2, some .int, 7, 154)
def mX8_seen : MI := (RX8, yX8_seen, cX8_seen, 5, some .int, 2, 42)
def mX8_forget : MI := (RX8, yX8_forget, cX8_forget, 2, some .int, 0, 0)
def mX8_isSeen : MI := (RX8, yX8_isSeen, cX8_isSeen, 4, some .boolean, 5, 111)
def mX8_neverNow : MI := (RX8, yX8_neverNow, cX8_neverNow, 3, some .int, 6, 134)
def mX8_never : MI := (RX8, yX8_never, cX8_never, 1, some .int, 7, 156)
def mX8_wideBy : MI := (RX8, yX8_wideBy, cX8_wideBy, 6, some .int, 6, 134)
def mX8_sortsBy : MI := (RX8, yX8_sortsBy, cX8_sortsBy, 5, some .int, 6, 134)
def mX8_was : MI := (RX8, yX8_was, cX8_was, 3, some .int, 7, 159)
def mX8_askOf : MI := (RX8, yX8_askOf, cX8_askOf, 10, some .int, 7, 159)
def mX8_ask : MI := (RX8, yX8_ask, cX8_ask, 2, some .int, 8, 188)
def mX8_gossipOf : MI := (RX8, yX8_gossipOf, cX8_gossipOf, 10, some .long, 6, 131)
def mX8_gossip : MI := (RX8, yX8_gossip, cX8_gossip, 4, some .long, 7, 160)
def mX8_ones : MI := (RX8, yX8_ones, cX8_ones, 4, some .int, 1, 21)
def mX8_agesOf : MI := (RX8, yX8_agesOf, cX8_agesOf, 6, some .int, 6, 131)
def mX8_ages : MI := (RX8, yX8_ages, cX8_ages, 4, some .int, 7, 156)
def mX8_marks : MI := (RX8, yX8_marks, cX8_marks, 2, some .int, 0, 0)
def mX8_isSheet : MI := (RX8, yX8_isSheet, cX8_isSheet, 1, some .boolean, 1, 22)
def mX8_sheet : MI := (RX8, yX8_sheet, cX8_sheet, 5, some .int, 2, 42)
def mX8_lose : MI := (RX8, yX8_lose, cX8_lose, 2, some .int, 2, 42)
def mX8_lacks : MI := (RX8, yX8_lacks, cX8_lacks, 4, some .int, 1, 22)
def mX8_keep : MI := (RX8, yX8_keep, cX8_keep, 4, none, 0, 0)
def mX8_put : MI := (RX8, yX8_put, cX8_put, 6, some .int, 2, 45)
def mX8_get : MI := (RX8, yX8_get, cX8_get, 5, some .int, 2, 45)
def mX8_copy : MI := (RX8, yX8_copy, cX8_copy, 7, some .int, 2, 42)
def mX8_write : MI := (RX8, yX8_write, cX8_write, 4, some .int, 7, 151)
def mX8_sumOf : MI := (RX8, yX8_sumOf, cX8_sumOf, 4, some .int, 7, 151)
def mX8_count : MI := (RX8, yX8_count, cX8_count, 2, some .int, 8, 174)
def mX8_dayDigest : MI := (RX8, yX8_dayDigest, cX8_dayDigest, 8, some .long, 8, 175)
def mX8_coupleDigest : MI := (RX8, yX8_coupleDigest, cX8_coupleDigest, 7, some .long, 9, 202)
def mX8_digest : MI := (RX8, yX8_digest, cX8_digest, 5, some .long, 10, 228)
def mJ6_bitCount_0f7a4 : MI := (RJ6, yJ6_bitCount_0f7a4, cJ6_bitCount_0f7a4, 1, some .int, 0, 0)
def mL_law : MI := (RL, yL_law, cL_law, 4, some .boolean, 13, 506)
theorem ly0 : lays[0]? = some (.inr (7, [some 1, none, none, some 2, some 7, some 12, some 18, some 24, some 29, some 39, some 40, some 44, none])) := rfl
theorem ly1 : lays[1]? = some (.inl (0, 39, 0, 0)) := rfl
theorem ly2 : lays[2]? = some (.inr (0, [some 3, some 4, some 5, some 6, none])) := rfl
theorem ly3 : lays[3]? = some (.inl (0, 8, 0, 0)) := rfl
theorem ly4 : lays[4]? = some (.inl (0, 8, 0, 0)) := rfl
theorem ly5 : lays[5]? = some (.inl (0, 8, 0, 0)) := rfl
theorem ly6 : lays[6]? = some (.inl (0, 8, 0, 0)) := rfl
theorem ly7 : lays[7]? = some (.inr (0, [some 8, some 9, some 10, some 11, none])) := rfl
theorem ly8 : lays[8]? = some (.inl (0, 8, 0, 0)) := rfl
theorem ly9 : lays[9]? = some (.inl (0, 8, 0, 0)) := rfl
theorem ly10 : lays[10]? = some (.inl (0, 8, 0, 0)) := rfl
theorem ly11 : lays[11]? = some (.inl (0, 8, 0, 0)) := rfl
theorem ly12 : lays[12]? = some (.inr (1, [some 13, some 14, some 15, some 16, some 17, none])) := rfl
theorem ly13 : lays[13]? = some (.inl (0, 8, 0, 0)) := rfl
theorem ly14 : lays[14]? = some (.inl (0, 8, 0, 0)) := rfl
theorem ly15 : lays[15]? = some (.inl (0, 8, 0, 0)) := rfl
theorem ly16 : lays[16]? = some (.inl (0, 8, 0, 0)) := rfl
theorem ly17 : lays[17]? = some (.inl (0, 8, 0, 0)) := rfl
theorem ly18 : lays[18]? = some (.inr (1, [some 19, some 20, some 21, some 22, some 23, none])) := rfl
theorem ly19 : lays[19]? = some (.inl (0, 8, 0, 0)) := rfl
theorem ly20 : lays[20]? = some (.inl (0, 8, 0, 0)) := rfl
theorem ly21 : lays[21]? = some (.inl (0, 8, 0, 0)) := rfl
theorem ly22 : lays[22]? = some (.inl (0, 8, 0, 0)) := rfl
theorem ly23 : lays[23]? = some (.inl (0, 8, 0, 0)) := rfl
theorem ly24 : lays[24]? = some (.inr (5, [some 25, some 26, some 27, some 28, none])) := rfl
theorem ly25 : lays[25]? = some (.inl (0, 8, 0, 0)) := rfl
theorem ly26 : lays[26]? = some (.inl (0, 8, 0, 0)) := rfl
theorem ly27 : lays[27]? = some (.inl (0, 8, 0, 0)) := rfl
theorem ly28 : lays[28]? = some (.inl (0, 8, 0, 0)) := rfl
theorem ly29 : lays[29]? = some (.inr (6, [some 30, none])) := rfl
theorem ly30 : lays[30]? = some (.inl (2, 8, 31, 1)) := rfl
theorem ly31 : lays[31]? = some (.inr (3, [none, none, none, none, none, none, none, none])) := rfl
theorem ly32 : lays[32]? = some (.inr (3, [none, none, none, none, none, none, none, none])) := rfl
theorem ly33 : lays[33]? = some (.inr (3, [none, none, none, none, none, none, none, none])) := rfl
theorem ly34 : lays[34]? = some (.inr (3, [none, none, none, none, none, none, none, none])) := rfl
theorem ly35 : lays[35]? = some (.inr (3, [none, none, none, none, none, none, none, none])) := rfl
theorem ly36 : lays[36]? = some (.inr (3, [none, none, none, none, none, none, none, none])) := rfl
theorem ly37 : lays[37]? = some (.inr (3, [none, none, none, none, none, none, none, none])) := rfl
theorem ly38 : lays[38]? = some (.inr (3, [none, none, none, none, none, none, none, none])) := rfl
theorem ly39 : lays[39]? = some (.inr (3, [none, none, none, none, none, none, none, none])) := rfl
theorem ly40 : lays[40]? = some (.inr (2, [some 41, some 42, some 43, none])) := rfl
theorem ly41 : lays[41]? = some (.inl (0, 16, 0, 0)) := rfl
theorem ly42 : lays[42]? = some (.inl (0, 16, 0, 0)) := rfl
theorem ly43 : lays[43]? = some (.inl (0, 16, 0, 0)) := rfl
theorem ly44 : lays[44]? = some (.inl (3, 4, 45, 2)) := rfl
theorem ly45 : lays[45]? = some (.inr (4, [some 46, none, none, none])) := rfl
theorem ly46 : lays[46]? = some (.inl (0, 60, 0, 0)) := rfl
theorem ly47 : lays[47]? = some (.inr (4, [some 48, none, none, none])) := rfl
theorem ly48 : lays[48]? = some (.inl (0, 60, 0, 0)) := rfl
theorem ly49 : lays[49]? = some (.inr (4, [some 50, none, none, none])) := rfl
theorem ly50 : lays[50]? = some (.inl (0, 60, 0, 0)) := rfl
theorem ly51 : lays[51]? = some (.inr (4, [some 52, none, none, none])) := rfl
theorem ly52 : lays[52]? = some (.inl (0, 60, 0, 0)) := rfl
theorem ly53 : lays[53]? = some (.inr (8, [none, some 54, none, some 55, some 56, some 57, some 58, none, some 59, some 60, some 61, some 62, none, some 63, some 64, some 65, some 66, none, some 67, some 68, some 69, some 70, some 71, some 72, none, some 73, some 74, some 75, some 76, some 77, some 78, some 79, some 80, none, some 81, some 82, some 83, some 84, some 85, some 86, some 87, some 88, some 89, some 90, none])) := rfl
theorem ly54 : lays[54]? = some (.inl (0, 39, 0, 0)) := rfl
theorem ly55 : lays[55]? = some (.inl (0, 9, 0, 0)) := rfl
theorem ly56 : lays[56]? = some (.inl (0, 9, 0, 0)) := rfl
theorem ly57 : lays[57]? = some (.inl (0, 9, 0, 0)) := rfl
theorem ly58 : lays[58]? = some (.inl (0, 9, 0, 0)) := rfl
theorem ly59 : lays[59]? = some (.inl (0, 8, 0, 0)) := rfl
theorem ly60 : lays[60]? = some (.inl (0, 8, 0, 0)) := rfl
theorem ly61 : lays[61]? = some (.inl (0, 8, 0, 0)) := rfl
theorem ly62 : lays[62]? = some (.inl (0, 8, 0, 0)) := rfl
theorem ly63 : lays[63]? = some (.inl (0, 8, 0, 0)) := rfl
theorem ly64 : lays[64]? = some (.inl (0, 8, 0, 0)) := rfl
theorem ly65 : lays[65]? = some (.inl (0, 8, 0, 0)) := rfl
theorem ly66 : lays[66]? = some (.inl (0, 8, 0, 0)) := rfl
theorem ly67 : lays[67]? = some (.inl (0, 8, 0, 0)) := rfl
theorem ly68 : lays[68]? = some (.inl (0, 8, 0, 0)) := rfl
theorem ly69 : lays[69]? = some (.inl (0, 8, 0, 0)) := rfl
theorem ly70 : lays[70]? = some (.inl (0, 8, 0, 0)) := rfl
theorem ly71 : lays[71]? = some (.inl (0, 8, 0, 0)) := rfl
theorem ly72 : lays[72]? = some (.inl (0, 8, 0, 0)) := rfl
theorem ly73 : lays[73]? = some (.inl (0, 160, 0, 0)) := rfl
theorem ly74 : lays[74]? = some (.inl (0, 160, 0, 0)) := rfl
theorem ly75 : lays[75]? = some (.inl (0, 160, 0, 0)) := rfl
theorem ly76 : lays[76]? = some (.inl (0, 160, 0, 0)) := rfl
theorem ly77 : lays[77]? = some (.inl (0, 160, 0, 0)) := rfl
theorem ly78 : lays[78]? = some (.inl (0, 160, 0, 0)) := rfl
theorem ly79 : lays[79]? = some (.inl (0, 20, 0, 0)) := rfl
theorem ly80 : lays[80]? = some (.inl (0, 2, 0, 0)) := rfl
theorem ly81 : lays[81]? = some (.inl (0, 8, 0, 0)) := rfl
theorem ly82 : lays[82]? = some (.inl (0, 8, 0, 0)) := rfl
theorem ly83 : lays[83]? = some (.inl (0, 8, 0, 0)) := rfl
theorem ly84 : lays[84]? = some (.inl (0, 8, 0, 0)) := rfl
theorem ly85 : lays[85]? = some (.inl (0, 200, 0, 0)) := rfl
theorem ly86 : lays[86]? = some (.inl (1, 4, 0, 0)) := rfl
theorem ly87 : lays[87]? = some (.inl (0, 4, 0, 0)) := rfl
theorem ly88 : lays[88]? = some (.inl (0, 4, 0, 0)) := rfl
theorem ly89 : lays[89]? = some (.inl (0, 240, 0, 0)) := rfl
theorem ly90 : lays[90]? = some (.inl (0, 60, 0, 0)) := rfl
def IsA (c n : Nat) : Prop := lays[c]? = some (.inl (0, n, 0, 0))
def IsRing (c : Nat) : Prop := lays[c]? = some (.inr (3, [none, none, none, none, none, none, none, none]))
def IsCpl (c : Nat) : Prop := lays[c]? = some (.inr (0, [some (c + 1), some (c + 2), some (c + 3), some (c + 4), none])) ∧ IsA (c + 1) 8 ∧ IsA (c + 2) 8 ∧ IsA (c + 3) 8 ∧ IsA (c + 4) 8
def IsEvt (c : Nat) : Prop := lays[c]? = some (.inr (1, [some (c + 1), some (c + 2), some (c + 3), some (c + 4), some (c + 5), none])) ∧ IsA (c + 1) 8 ∧ IsA (c + 2) 8 ∧ IsA (c + 3) 8 ∧ IsA (c + 4) 8 ∧ IsA (c + 5) 8
def IsSheet (c : Nat) : Prop := lays[c]? = some (.inr (4, [some (c + 1), none, none, none])) ∧ IsA (c + 1) 60
theorem isCpl2 : IsCpl 2 := ⟨ly2, ly3, ly4, ly5, ly6⟩
theorem isCpl7 : IsCpl 7 := ⟨ly7, ly8, ly9, ly10, ly11⟩
theorem isEvt12 : IsEvt 12 := ⟨ly12, ly13, ly14, ly15, ly16, ly17⟩
theorem isEvt18 : IsEvt 18 := ⟨ly18, ly19, ly20, ly21, ly22, ly23⟩
theorem isRing39 : IsRing 39 := ly39
theorem isRingN : ∀ n, n < 8 → IsRing (31 + 1 * n) := by
  intro n h
  match n, h with
  | 0, _ => exact ly31
  | 1, _ => exact ly32
  | 2, _ => exact ly33
  | 3, _ => exact ly34
  | 4, _ => exact ly35
  | 5, _ => exact ly36
  | 6, _ => exact ly37
  | 7, _ => exact ly38
theorem isSheetN : ∀ n, n < 4 → IsSheet (45 + 2 * n) := by
  intro n h
  match n, h with
  | 0, _ => exact ⟨ly45, ly46⟩
  | 1, _ => exact ⟨ly47, ly48⟩
  | 2, _ => exact ⟨ly49, ly50⟩
  | 3, _ => exact ⟨ly51, ly52⟩
theorem vp_lt {i : Int32} {n : Nat} (h : vp_in i n) : i.toNatClampNeg < n := Nat.not_le.mp fun q => h (Or.inr q)
theorem rgC {i : Int32} (h : vp_in i 8) : IsRing (31 + 1 * i.toNatClampNeg) := isRingN _ (vp_lt h)
theorem shC {i : Int32} (h : vp_in i 4) : IsSheet (45 + 2 * i.toNatClampNeg) := isSheetN _ (vp_lt h)
theorem tb_all {ws : List Cond} (ps : List Nat) (hp : ws = ps.filterMap (fun i => lw_tbl[i]?)) (h : ws.all okw = true) : ∀ w ∈ ws, w ∈ tb := by
  intro w hw
  refine List.mem_filter.mpr ⟨?_, List.all_eq_true.mp h w hw⟩
  rw [hp] at hw
  obtain ⟨i, -, hi⟩ := List.mem_filterMap.mp hw
  exact List.mem_of_getElem? hi
set_option maxRecDepth 20000 in
theorem iu0 : ∀ w ∈ u_ws RX0 TX0 5, w ∈ tb := tb_all [111, 113, 115, 117, 119] (by decide +kernel) (by decide +kernel)
set_option maxRecDepth 20000 in
theorem iu1 : ∀ w ∈ u_ws RX1 TX1 6, w ∈ tb := tb_all [142, 144, 146, 148, 150, 152] (by decide +kernel) (by decide +kernel)
set_option maxRecDepth 20000 in
theorem iu2 : ∀ w ∈ u_ws RX2 TX2 4, w ∈ tb := tb_all [246, 248, 250, 252] (by decide +kernel) (by decide +kernel)
set_option maxRecDepth 20000 in
theorem iu3 : ∀ w ∈ u_ws RX3 TX3 8, w ∈ tb := tb_all [207, 209, 211, 213, 215, 217, 219, 221] (by decide +kernel) (by decide +kernel)
set_option maxRecDepth 20000 in
theorem iu4 : ∀ w ∈ u_ws RX4 TX4 4, w ∈ tb := tb_all [270, 272, 274, 276] (by decide +kernel) (by decide +kernel)
set_option maxRecDepth 20000 in
theorem iu5 : ∀ w ∈ u_ws RX5 TX5 5, w ∈ tb := tb_all [167, 169, 171, 173, 175] (by decide +kernel) (by decide +kernel)
set_option maxRecDepth 20000 in
theorem iu6 : ∀ w ∈ u_ws RX6 TX6 2, w ∈ tb := tb_all [228, 230] (by decide +kernel) (by decide +kernel)
set_option maxRecDepth 20000 in
theorem iu7 : ∀ w ∈ u_ws RX7 TX7 13, w ∈ tb := tb_all [292, 294, 296, 298, 300, 302, 304, 306, 308, 310, 312, 314, 316] (by decide +kernel) (by decide +kernel)
set_option maxRecDepth 20000 in
theorem iu8 : ∀ w ∈ u_ws RX8 TX8 45, w ∈ tb := tb_all [801, 803, 805, 807, 809, 811, 813, 815, 817, 819, 821, 823, 825, 827, 829, 831, 833, 835, 837, 839, 841, 843, 845, 847, 849, 851, 853, 855, 857, 859, 861, 863, 865, 867, 869, 871, 873, 875, 877, 879, 881, 883, 885, 887, 889] (by decide +kernel) (by decide +kernel)
theorem fl_X7_9 : FL RX7 9 7 0 := ⟨_, _, _, rfl, by decide, iu7, tb_in 279 (by decide +kernel) (by decide +kernel)⟩
theorem fl_X7_13 : FL RX7 13 7 2 := ⟨_, _, _, rfl, by decide, iu7, tb_in 281 (by decide +kernel) (by decide +kernel)⟩
theorem fp_X7_13 : FP RX7 13 7 2 .int := ⟨_, _, _, tyX7, rfl, by decide, iu7, tb_in 281 (by decide +kernel) (by decide +kernel), tyX7_ok, nmX7, rfl, by decide +kernel⟩
theorem fl_X7_20 : FL RX7 20 7 3 := ⟨_, _, _, rfl, by decide, iu7, tb_in 282 (by decide +kernel) (by decide +kernel)⟩
theorem fl_X7_24 : FL RX7 24 7 4 := ⟨_, _, _, rfl, by decide, iu7, tb_in 283 (by decide +kernel) (by decide +kernel)⟩
theorem fl_X7_30 : FL RX7 30 7 5 := ⟨_, _, _, rfl, by decide, iu7, tb_in 284 (by decide +kernel) (by decide +kernel)⟩
theorem fl_X7_34 : FL RX7 34 7 6 := ⟨_, _, _, rfl, by decide, iu7, tb_in 285 (by decide +kernel) (by decide +kernel)⟩
theorem fl_X7_40 : FL RX7 40 7 7 := ⟨_, _, _, rfl, by decide, iu7, tb_in 286 (by decide +kernel) (by decide +kernel)⟩
theorem fl_X7_47 : FL RX7 47 7 8 := ⟨_, _, _, rfl, by decide, iu7, tb_in 287 (by decide +kernel) (by decide +kernel)⟩
theorem fl_X7_54 : FL RX7 54 7 9 := ⟨_, _, _, rfl, by decide, iu7, tb_in 288 (by decide +kernel) (by decide +kernel)⟩
theorem fl_X7_61 : FL RX7 61 7 10 := ⟨_, _, _, rfl, by decide, iu7, tb_in 289 (by decide +kernel) (by decide +kernel)⟩
theorem fl_X7_67 : FL RX7 67 7 11 := ⟨_, _, _, rfl, by decide, iu7, tb_in 290 (by decide +kernel) (by decide +kernel)⟩
theorem fl_X7_76 : FL RX7 76 7 1 := ⟨_, _, _, rfl, by decide, iu7, tb_in 280 (by decide +kernel) (by decide +kernel)⟩
theorem fp_X7_76 : FP RX7 76 7 1 .int := ⟨_, _, _, tyX7, rfl, by decide, iu7, tb_in 280 (by decide +kernel) (by decide +kernel), tyX7_ok, nmX7, rfl, by decide +kernel⟩
theorem fl_X7_86 : FL RX7 86 0 0 := ⟨_, _, _, rfl, by decide, iu0, tb_in 98 (by decide +kernel) (by decide +kernel)⟩
theorem fl_X7_89 : FL RX7 89 0 1 := ⟨_, _, _, rfl, by decide, iu0, tb_in 101 (by decide +kernel) (by decide +kernel)⟩
theorem fl_X7_92 : FL RX7 92 0 2 := ⟨_, _, _, rfl, by decide, iu0, tb_in 104 (by decide +kernel) (by decide +kernel)⟩
theorem fl_X7_95 : FL RX7 95 0 3 := ⟨_, _, _, rfl, by decide, iu0, tb_in 107 (by decide +kernel) (by decide +kernel)⟩
theorem fl_X7_110 : FL RX7 110 1 5 := ⟨_, _, _, rfl, by decide, iu1, tb_in 141 (by decide +kernel) (by decide +kernel)⟩
theorem fp_X7_110 : FP RX7 110 1 5 .int := ⟨_, _, _, tyX1, rfl, by decide, iu1, tb_in 141 (by decide +kernel) (by decide +kernel), tyX1_ok, nmX1, rfl, by decide +kernel⟩
theorem fl_X7_119 : FL RX7 119 4 1 := ⟨_, _, _, rfl, by decide, iu4, tb_in 265 (by decide +kernel) (by decide +kernel)⟩
theorem fp_X7_119 : FP RX7 119 4 1 .boolean := ⟨_, _, _, tyX4, rfl, by decide, iu4, tb_in 265 (by decide +kernel) (by decide +kernel), tyX4_ok, nmX4, rfl, by decide +kernel⟩
theorem fl_X7_127 : FL RX7 127 4 3 := ⟨_, _, _, rfl, by decide, iu4, tb_in 269 (by decide +kernel) (by decide +kernel)⟩
theorem fp_X7_127 : FP RX7 127 4 3 .int := ⟨_, _, _, tyX4, rfl, by decide, iu4, tb_in 269 (by decide +kernel) (by decide +kernel), tyX4_ok, nmX4, rfl, by decide +kernel⟩
theorem fl_X7_128 : FL RX7 128 4 0 := ⟨_, _, _, rfl, by decide, iu4, tb_in 263 (by decide +kernel) (by decide +kernel)⟩
theorem fl_X7_142 : FL RX7 142 3 2 := ⟨_, _, _, rfl, by decide, iu3, tb_in 196 (by decide +kernel) (by decide +kernel)⟩
theorem fp_X7_142 : FP RX7 142 3 2 .int := ⟨_, _, _, tyX3, rfl, by decide, iu3, tb_in 196 (by decide +kernel) (by decide +kernel), tyX3_ok, nmX3, rfl, by decide +kernel⟩
theorem fl_X7_144 : FL RX7 144 3 4 := ⟨_, _, _, rfl, by decide, iu3, tb_in 199 (by decide +kernel) (by decide +kernel)⟩
theorem fp_X7_144 : FP RX7 144 3 4 .int := ⟨_, _, _, tyX3, rfl, by decide, iu3, tb_in 199 (by decide +kernel) (by decide +kernel), tyX3_ok, nmX3, rfl, by decide +kernel⟩
theorem fl_X7_147 : FL RX7 147 3 5 := ⟨_, _, _, rfl, by decide, iu3, tb_in 201 (by decide +kernel) (by decide +kernel)⟩
theorem fp_X7_147 : FP RX7 147 3 5 .int := ⟨_, _, _, tyX3, rfl, by decide, iu3, tb_in 201 (by decide +kernel) (by decide +kernel), tyX3_ok, nmX3, rfl, by decide +kernel⟩
theorem fl_X7_150 : FL RX7 150 3 7 := ⟨_, _, _, rfl, by decide, iu3, tb_in 206 (by decide +kernel) (by decide +kernel)⟩
theorem fp_X7_150 : FP RX7 150 3 7 .boolean := ⟨_, _, _, tyX3, rfl, by decide, iu3, tb_in 206 (by decide +kernel) (by decide +kernel), tyX3_ok, nmX3, rfl, by decide +kernel⟩
theorem fl_X7_153 : FL RX7 153 3 6 := ⟨_, _, _, rfl, by decide, iu3, tb_in 204 (by decide +kernel) (by decide +kernel)⟩
theorem fp_X7_153 : FP RX7 153 3 6 .int := ⟨_, _, _, tyX3, rfl, by decide, iu3, tb_in 204 (by decide +kernel) (by decide +kernel), tyX3_ok, nmX3, rfl, by decide +kernel⟩
theorem fl_X7_157 : FL RX7 157 3 0 := ⟨_, _, _, rfl, by decide, iu3, tb_in 192 (by decide +kernel) (by decide +kernel)⟩
theorem fp_X7_157 : FP RX7 157 3 0 .int := ⟨_, _, _, tyX3, rfl, by decide, iu3, tb_in 192 (by decide +kernel) (by decide +kernel), tyX3_ok, nmX3, rfl, by decide +kernel⟩
theorem fl_X7_159 : FL RX7 159 3 1 := ⟨_, _, _, rfl, by decide, iu3, tb_in 194 (by decide +kernel) (by decide +kernel)⟩
theorem fp_X7_159 : FP RX7 159 3 1 .int := ⟨_, _, _, tyX3, rfl, by decide, iu3, tb_in 194 (by decide +kernel) (by decide +kernel), tyX3_ok, nmX3, rfl, by decide +kernel⟩
theorem fl_X7_171 : FL RX7 171 6 0 := ⟨_, _, _, rfl, by decide, iu6, tb_in 225 (by decide +kernel) (by decide +kernel)⟩
theorem fl_X7_188 : FL RX7 188 6 1 := ⟨_, _, _, rfl, by decide, iu6, tb_in 227 (by decide +kernel) (by decide +kernel)⟩
theorem fp_X7_188 : FP RX7 188 6 1 .int := ⟨_, _, _, tyX6, rfl, by decide, iu6, tb_in 227 (by decide +kernel) (by decide +kernel), tyX6_ok, nmX6, rfl, by decide +kernel⟩
theorem fl_X7_193 : FL RX7 193 2 3 := ⟨_, _, _, rfl, by decide, iu2, tb_in 245 (by decide +kernel) (by decide +kernel)⟩
theorem fp_X7_193 : FP RX7 193 2 3 .int := ⟨_, _, _, tyX2, rfl, by decide, iu2, tb_in 245 (by decide +kernel) (by decide +kernel), tyX2_ok, nmX2, rfl, by decide +kernel⟩
theorem fl_X7_212 : FL RX7 212 0 4 := ⟨_, _, _, rfl, by decide, iu0, tb_in 110 (by decide +kernel) (by decide +kernel)⟩
theorem fp_X7_212 : FP RX7 212 0 4 .int := ⟨_, _, _, tyX0, rfl, by decide, iu0, tb_in 110 (by decide +kernel) (by decide +kernel), tyX0_ok, nmX0, rfl, by decide +kernel⟩
theorem fl_X7_231 : FL RX7 231 5 4 := ⟨_, _, _, rfl, by decide, iu5, tb_in 166 (by decide +kernel) (by decide +kernel)⟩
theorem fp_X7_231 : FP RX7 231 5 4 .int := ⟨_, _, _, tyX5, rfl, by decide, iu5, tb_in 166 (by decide +kernel) (by decide +kernel), tyX5_ok, nmX5, rfl, by decide +kernel⟩
theorem fl_X7_269 : FL RX7 269 4 2 := ⟨_, _, _, rfl, by decide, iu4, tb_in 267 (by decide +kernel) (by decide +kernel)⟩
theorem fp_X7_269 : FP RX7 269 4 2 .int := ⟨_, _, _, tyX4, rfl, by decide, iu4, tb_in 267 (by decide +kernel) (by decide +kernel), tyX4_ok, nmX4, rfl, by decide +kernel⟩
theorem fl_X7_295 : FL RX7 295 7 12 := ⟨_, _, _, rfl, by decide, iu7, tb_in 291 (by decide +kernel) (by decide +kernel)⟩
theorem fp_X7_295 : FP RX7 295 7 12 .int := ⟨_, _, _, tyX7, rfl, by decide, iu7, tb_in 291 (by decide +kernel) (by decide +kernel), tyX7_ok, nmX7, rfl, by decide +kernel⟩
theorem fl_X0_9 : FL RX0 9 0 0 := ⟨_, _, _, rfl, by decide, iu0, tb_in 96 (by decide +kernel) (by decide +kernel)⟩
theorem fl_X0_15 : FL RX0 15 0 1 := ⟨_, _, _, rfl, by decide, iu0, tb_in 99 (by decide +kernel) (by decide +kernel)⟩
theorem fl_X0_18 : FL RX0 18 0 2 := ⟨_, _, _, rfl, by decide, iu0, tb_in 102 (by decide +kernel) (by decide +kernel)⟩
theorem fl_X0_21 : FL RX0 21 0 3 := ⟨_, _, _, rfl, by decide, iu0, tb_in 105 (by decide +kernel) (by decide +kernel)⟩
theorem fl_X0_24 : FL RX0 24 0 4 := ⟨_, _, _, rfl, by decide, iu0, tb_in 109 (by decide +kernel) (by decide +kernel)⟩
theorem fp_X0_24 : FP RX0 24 0 4 .int := ⟨_, _, _, tyX0, rfl, by decide, iu0, tb_in 109 (by decide +kernel) (by decide +kernel), tyX0_ok, nmX0, rfl, by decide +kernel⟩
theorem fl_X1_9 : FL RX1 9 1 0 := ⟨_, _, _, rfl, by decide, iu1, tb_in 129 (by decide +kernel) (by decide +kernel)⟩
theorem fl_X1_15 : FL RX1 15 1 1 := ⟨_, _, _, rfl, by decide, iu1, tb_in 131 (by decide +kernel) (by decide +kernel)⟩
theorem fl_X1_18 : FL RX1 18 1 2 := ⟨_, _, _, rfl, by decide, iu1, tb_in 133 (by decide +kernel) (by decide +kernel)⟩
theorem fl_X1_21 : FL RX1 21 1 3 := ⟨_, _, _, rfl, by decide, iu1, tb_in 135 (by decide +kernel) (by decide +kernel)⟩
theorem fl_X1_24 : FL RX1 24 1 4 := ⟨_, _, _, rfl, by decide, iu1, tb_in 137 (by decide +kernel) (by decide +kernel)⟩
theorem fl_X1_35 : FL RX1 35 1 5 := ⟨_, _, _, rfl, by decide, iu1, tb_in 140 (by decide +kernel) (by decide +kernel)⟩
theorem fp_X1_35 : FP RX1 35 1 5 .int := ⟨_, _, _, tyX1, rfl, by decide, iu1, tb_in 140 (by decide +kernel) (by decide +kernel), tyX1_ok, nmX1, rfl, by decide +kernel⟩
theorem fl_X2_11 : FL RX2 11 2 0 := ⟨_, _, _, rfl, by decide, iu2, tb_in 241 (by decide +kernel) (by decide +kernel)⟩
theorem fl_X2_15 : FL RX2 15 2 1 := ⟨_, _, _, rfl, by decide, iu2, tb_in 242 (by decide +kernel) (by decide +kernel)⟩
theorem fl_X2_18 : FL RX2 18 2 2 := ⟨_, _, _, rfl, by decide, iu2, tb_in 243 (by decide +kernel) (by decide +kernel)⟩
theorem fl_X2_21 : FL RX2 21 2 3 := ⟨_, _, _, rfl, by decide, iu2, tb_in 244 (by decide +kernel) (by decide +kernel)⟩
theorem fp_X2_21 : FP RX2 21 2 3 .int := ⟨_, _, _, tyX2, rfl, by decide, iu2, tb_in 244 (by decide +kernel) (by decide +kernel), tyX2_ok, nmX2, rfl, by decide +kernel⟩
theorem fl_X3_15 : FL RX3 15 1 5 := ⟨_, _, _, rfl, by decide, iu1, tb_in 139 (by decide +kernel) (by decide +kernel)⟩
theorem fp_X3_15 : FP RX3 15 1 5 .int := ⟨_, _, _, tyX1, rfl, by decide, iu1, tb_in 139 (by decide +kernel) (by decide +kernel), tyX1_ok, nmX1, rfl, by decide +kernel⟩
theorem fl_X3_21 : FL RX3 21 1 4 := ⟨_, _, _, rfl, by decide, iu1, tb_in 138 (by decide +kernel) (by decide +kernel)⟩
theorem fl_X3_25 : FL RX3 25 1 1 := ⟨_, _, _, rfl, by decide, iu1, tb_in 132 (by decide +kernel) (by decide +kernel)⟩
theorem fl_X3_28 : FL RX3 28 1 2 := ⟨_, _, _, rfl, by decide, iu1, tb_in 134 (by decide +kernel) (by decide +kernel)⟩
theorem fl_X3_35 : FL RX3 35 1 0 := ⟨_, _, _, rfl, by decide, iu1, tb_in 130 (by decide +kernel) (by decide +kernel)⟩
theorem fl_X3_38 : FL RX3 38 1 3 := ⟨_, _, _, rfl, by decide, iu1, tb_in 136 (by decide +kernel) (by decide +kernel)⟩
theorem fl_X3_44 : FL RX3 44 0 0 := ⟨_, _, _, rfl, by decide, iu0, tb_in 97 (by decide +kernel) (by decide +kernel)⟩
theorem fl_X3_49 : FL RX3 49 3 0 := ⟨_, _, _, rfl, by decide, iu3, tb_in 191 (by decide +kernel) (by decide +kernel)⟩
theorem fp_X3_49 : FP RX3 49 3 0 .int := ⟨_, _, _, tyX3, rfl, by decide, iu3, tb_in 191 (by decide +kernel) (by decide +kernel), tyX3_ok, nmX3, rfl, by decide +kernel⟩
theorem fl_X3_51 : FL RX3 51 0 1 := ⟨_, _, _, rfl, by decide, iu0, tb_in 100 (by decide +kernel) (by decide +kernel)⟩
theorem fl_X3_54 : FL RX3 54 3 1 := ⟨_, _, _, rfl, by decide, iu3, tb_in 193 (by decide +kernel) (by decide +kernel)⟩
theorem fp_X3_54 : FP RX3 54 3 1 .int := ⟨_, _, _, tyX3, rfl, by decide, iu3, tb_in 193 (by decide +kernel) (by decide +kernel), tyX3_ok, nmX3, rfl, by decide +kernel⟩
theorem fl_X3_56 : FL RX3 56 0 2 := ⟨_, _, _, rfl, by decide, iu0, tb_in 103 (by decide +kernel) (by decide +kernel)⟩
theorem fl_X3_59 : FL RX3 59 3 2 := ⟨_, _, _, rfl, by decide, iu3, tb_in 195 (by decide +kernel) (by decide +kernel)⟩
theorem fp_X3_59 : FP RX3 59 3 2 .int := ⟨_, _, _, tyX3, rfl, by decide, iu3, tb_in 195 (by decide +kernel) (by decide +kernel), tyX3_ok, nmX3, rfl, by decide +kernel⟩
theorem fl_X3_61 : FL RX3 61 0 3 := ⟨_, _, _, rfl, by decide, iu0, tb_in 106 (by decide +kernel) (by decide +kernel)⟩
theorem fl_X3_64 : FL RX3 64 3 3 := ⟨_, _, _, rfl, by decide, iu3, tb_in 197 (by decide +kernel) (by decide +kernel)⟩
theorem fp_X3_64 : FP RX3 64 3 3 .int := ⟨_, _, _, tyX3, rfl, by decide, iu3, tb_in 197 (by decide +kernel) (by decide +kernel), tyX3_ok, nmX3, rfl, by decide +kernel⟩
theorem fl_X3_66 : FL RX3 66 3 4 := ⟨_, _, _, rfl, by decide, iu3, tb_in 198 (by decide +kernel) (by decide +kernel)⟩
theorem fp_X3_66 : FP RX3 66 3 4 .int := ⟨_, _, _, tyX3, rfl, by decide, iu3, tb_in 198 (by decide +kernel) (by decide +kernel), tyX3_ok, nmX3, rfl, by decide +kernel⟩
theorem fl_X3_69 : FL RX3 69 3 5 := ⟨_, _, _, rfl, by decide, iu3, tb_in 200 (by decide +kernel) (by decide +kernel)⟩
theorem fp_X3_69 : FP RX3 69 3 5 .int := ⟨_, _, _, tyX3, rfl, by decide, iu3, tb_in 200 (by decide +kernel) (by decide +kernel), tyX3_ok, nmX3, rfl, by decide +kernel⟩
theorem fl_X3_72 : FL RX3 72 3 6 := ⟨_, _, _, rfl, by decide, iu3, tb_in 202 (by decide +kernel) (by decide +kernel)⟩
theorem fp_X3_72 : FP RX3 72 3 6 .int := ⟨_, _, _, tyX3, rfl, by decide, iu3, tb_in 202 (by decide +kernel) (by decide +kernel), tyX3_ok, nmX3, rfl, by decide +kernel⟩
theorem fl_X3_75 : FL RX3 75 3 7 := ⟨_, _, _, rfl, by decide, iu3, tb_in 205 (by decide +kernel) (by decide +kernel)⟩
theorem fp_X3_75 : FP RX3 75 3 7 .boolean := ⟨_, _, _, tyX3, rfl, by decide, iu3, tb_in 205 (by decide +kernel) (by decide +kernel), tyX3_ok, nmX3, rfl, by decide +kernel⟩
theorem fl_X4_9 : FL RX4 9 4 0 := ⟨_, _, _, rfl, by decide, iu4, tb_in 262 (by decide +kernel) (by decide +kernel)⟩
theorem fl_X4_15 : FL RX4 15 4 1 := ⟨_, _, _, rfl, by decide, iu4, tb_in 264 (by decide +kernel) (by decide +kernel)⟩
theorem fp_X4_15 : FP RX4 15 4 1 .boolean := ⟨_, _, _, tyX4, rfl, by decide, iu4, tb_in 264 (by decide +kernel) (by decide +kernel), tyX4_ok, nmX4, rfl, by decide +kernel⟩
theorem fl_X4_19 : FL RX4 19 4 2 := ⟨_, _, _, rfl, by decide, iu4, tb_in 266 (by decide +kernel) (by decide +kernel)⟩
theorem fp_X4_19 : FP RX4 19 4 2 .int := ⟨_, _, _, tyX4, rfl, by decide, iu4, tb_in 266 (by decide +kernel) (by decide +kernel), tyX4_ok, nmX4, rfl, by decide +kernel⟩
theorem fl_X4_23 : FL RX4 23 4 3 := ⟨_, _, _, rfl, by decide, iu4, tb_in 268 (by decide +kernel) (by decide +kernel)⟩
theorem fp_X4_23 : FP RX4 23 4 3 .int := ⟨_, _, _, tyX4, rfl, by decide, iu4, tb_in 268 (by decide +kernel) (by decide +kernel), tyX4_ok, nmX4, rfl, by decide +kernel⟩
theorem fl_X5_9 : FL RX5 9 5 0 := ⟨_, _, _, rfl, by decide, iu5, tb_in 161 (by decide +kernel) (by decide +kernel)⟩
theorem fl_X5_15 : FL RX5 15 5 1 := ⟨_, _, _, rfl, by decide, iu5, tb_in 162 (by decide +kernel) (by decide +kernel)⟩
theorem fl_X5_18 : FL RX5 18 5 2 := ⟨_, _, _, rfl, by decide, iu5, tb_in 163 (by decide +kernel) (by decide +kernel)⟩
theorem fl_X5_21 : FL RX5 21 5 3 := ⟨_, _, _, rfl, by decide, iu5, tb_in 164 (by decide +kernel) (by decide +kernel)⟩
theorem fl_X5_24 : FL RX5 24 5 4 := ⟨_, _, _, rfl, by decide, iu5, tb_in 165 (by decide +kernel) (by decide +kernel)⟩
theorem fp_X5_24 : FP RX5 24 5 4 .int := ⟨_, _, _, tyX5, rfl, by decide, iu5, tb_in 165 (by decide +kernel) (by decide +kernel), tyX5_ok, nmX5, rfl, by decide +kernel⟩
theorem fl_X6_11 : FL RX6 11 6 0 := ⟨_, _, _, rfl, by decide, iu6, tb_in 224 (by decide +kernel) (by decide +kernel)⟩
theorem fl_X6_18 : FL RX6 18 0 4 := ⟨_, _, _, rfl, by decide, iu0, tb_in 108 (by decide +kernel) (by decide +kernel)⟩
theorem fp_X6_18 : FP RX6 18 0 4 .int := ⟨_, _, _, tyX0, rfl, by decide, iu0, tb_in 108 (by decide +kernel) (by decide +kernel), tyX0_ok, nmX0, rfl, by decide +kernel⟩
theorem fl_X6_24 : FL RX6 24 6 1 := ⟨_, _, _, rfl, by decide, iu6, tb_in 226 (by decide +kernel) (by decide +kernel)⟩
theorem fp_X6_24 : FP RX6 24 6 1 .int := ⟨_, _, _, tyX6, rfl, by decide, iu6, tb_in 226 (by decide +kernel) (by decide +kernel), tyX6_ok, nmX6, rfl, by decide +kernel⟩
theorem fl_X6_43 : FL RX6 43 3 6 := ⟨_, _, _, rfl, by decide, iu3, tb_in 203 (by decide +kernel) (by decide +kernel)⟩
theorem fp_X6_43 : FP RX6 43 3 6 .int := ⟨_, _, _, tyX3, rfl, by decide, iu3, tb_in 203 (by decide +kernel) (by decide +kernel), tyX3_ok, nmX3, rfl, by decide +kernel⟩
theorem fl_X8_7 : FL RX8 7 8 1 := ⟨_, _, _, rfl, by decide, iu8, tb_in 757 (by decide +kernel) (by decide +kernel)⟩
theorem fl_X8_13 : FL RX8 13 8 3 := ⟨_, _, _, rfl, by decide, iu8, tb_in 759 (by decide +kernel) (by decide +kernel)⟩
theorem fl_X8_16 : FL RX8 16 8 4 := ⟨_, _, _, rfl, by decide, iu8, tb_in 760 (by decide +kernel) (by decide +kernel)⟩
theorem fl_X8_19 : FL RX8 19 8 5 := ⟨_, _, _, rfl, by decide, iu8, tb_in 761 (by decide +kernel) (by decide +kernel)⟩
theorem fl_X8_22 : FL RX8 22 8 6 := ⟨_, _, _, rfl, by decide, iu8, tb_in 762 (by decide +kernel) (by decide +kernel)⟩
theorem fl_X8_25 : FL RX8 25 8 8 := ⟨_, _, _, rfl, by decide, iu8, tb_in 764 (by decide +kernel) (by decide +kernel)⟩
theorem fl_X8_28 : FL RX8 28 8 9 := ⟨_, _, _, rfl, by decide, iu8, tb_in 765 (by decide +kernel) (by decide +kernel)⟩
theorem fl_X8_31 : FL RX8 31 8 10 := ⟨_, _, _, rfl, by decide, iu8, tb_in 766 (by decide +kernel) (by decide +kernel)⟩
theorem fl_X8_34 : FL RX8 34 8 11 := ⟨_, _, _, rfl, by decide, iu8, tb_in 767 (by decide +kernel) (by decide +kernel)⟩
theorem fl_X8_37 : FL RX8 37 8 13 := ⟨_, _, _, rfl, by decide, iu8, tb_in 769 (by decide +kernel) (by decide +kernel)⟩
theorem fl_X8_40 : FL RX8 40 8 14 := ⟨_, _, _, rfl, by decide, iu8, tb_in 770 (by decide +kernel) (by decide +kernel)⟩
theorem fl_X8_43 : FL RX8 43 8 15 := ⟨_, _, _, rfl, by decide, iu8, tb_in 771 (by decide +kernel) (by decide +kernel)⟩
theorem fl_X8_46 : FL RX8 46 8 16 := ⟨_, _, _, rfl, by decide, iu8, tb_in 772 (by decide +kernel) (by decide +kernel)⟩
theorem fl_X8_49 : FL RX8 49 8 18 := ⟨_, _, _, rfl, by decide, iu8, tb_in 774 (by decide +kernel) (by decide +kernel)⟩
theorem fl_X8_52 : FL RX8 52 8 19 := ⟨_, _, _, rfl, by decide, iu8, tb_in 775 (by decide +kernel) (by decide +kernel)⟩
theorem fl_X8_55 : FL RX8 55 8 20 := ⟨_, _, _, rfl, by decide, iu8, tb_in 776 (by decide +kernel) (by decide +kernel)⟩
theorem fl_X8_58 : FL RX8 58 8 21 := ⟨_, _, _, rfl, by decide, iu8, tb_in 777 (by decide +kernel) (by decide +kernel)⟩
theorem fl_X8_61 : FL RX8 61 8 22 := ⟨_, _, _, rfl, by decide, iu8, tb_in 778 (by decide +kernel) (by decide +kernel)⟩
theorem fl_X8_64 : FL RX8 64 8 23 := ⟨_, _, _, rfl, by decide, iu8, tb_in 779 (by decide +kernel) (by decide +kernel)⟩
theorem fl_X8_67 : FL RX8 67 8 25 := ⟨_, _, _, rfl, by decide, iu8, tb_in 781 (by decide +kernel) (by decide +kernel)⟩
theorem fl_X8_70 : FL RX8 70 8 26 := ⟨_, _, _, rfl, by decide, iu8, tb_in 782 (by decide +kernel) (by decide +kernel)⟩
theorem fl_X8_73 : FL RX8 73 8 27 := ⟨_, _, _, rfl, by decide, iu8, tb_in 783 (by decide +kernel) (by decide +kernel)⟩
theorem fl_X8_76 : FL RX8 76 8 28 := ⟨_, _, _, rfl, by decide, iu8, tb_in 784 (by decide +kernel) (by decide +kernel)⟩
theorem fl_X8_79 : FL RX8 79 8 29 := ⟨_, _, _, rfl, by decide, iu8, tb_in 785 (by decide +kernel) (by decide +kernel)⟩
theorem fl_X8_82 : FL RX8 82 8 30 := ⟨_, _, _, rfl, by decide, iu8, tb_in 786 (by decide +kernel) (by decide +kernel)⟩
theorem fl_X8_85 : FL RX8 85 8 31 := ⟨_, _, _, rfl, by decide, iu8, tb_in 787 (by decide +kernel) (by decide +kernel)⟩
theorem fl_X8_88 : FL RX8 88 8 32 := ⟨_, _, _, rfl, by decide, iu8, tb_in 788 (by decide +kernel) (by decide +kernel)⟩
theorem fl_X8_91 : FL RX8 91 8 34 := ⟨_, _, _, rfl, by decide, iu8, tb_in 790 (by decide +kernel) (by decide +kernel)⟩
theorem fl_X8_94 : FL RX8 94 8 35 := ⟨_, _, _, rfl, by decide, iu8, tb_in 791 (by decide +kernel) (by decide +kernel)⟩
theorem fl_X8_97 : FL RX8 97 8 36 := ⟨_, _, _, rfl, by decide, iu8, tb_in 792 (by decide +kernel) (by decide +kernel)⟩
theorem fl_X8_100 : FL RX8 100 8 37 := ⟨_, _, _, rfl, by decide, iu8, tb_in 793 (by decide +kernel) (by decide +kernel)⟩
theorem fl_X8_103 : FL RX8 103 8 38 := ⟨_, _, _, rfl, by decide, iu8, tb_in 794 (by decide +kernel) (by decide +kernel)⟩
theorem fl_X8_106 : FL RX8 106 8 39 := ⟨_, _, _, rfl, by decide, iu8, tb_in 795 (by decide +kernel) (by decide +kernel)⟩
theorem fl_X8_110 : FL RX8 110 8 40 := ⟨_, _, _, rfl, by decide, iu8, tb_in 796 (by decide +kernel) (by decide +kernel)⟩
theorem fl_X8_113 : FL RX8 113 8 41 := ⟨_, _, _, rfl, by decide, iu8, tb_in 797 (by decide +kernel) (by decide +kernel)⟩
theorem fl_X8_116 : FL RX8 116 8 42 := ⟨_, _, _, rfl, by decide, iu8, tb_in 798 (by decide +kernel) (by decide +kernel)⟩
theorem fl_X8_119 : FL RX8 119 8 43 := ⟨_, _, _, rfl, by decide, iu8, tb_in 799 (by decide +kernel) (by decide +kernel)⟩
theorem fl_X8_128 : FL RX8 128 8 0 := ⟨_, _, _, rfl, by decide, iu8, tb_in 756 (by decide +kernel) (by decide +kernel)⟩
theorem fp_X8_128 : FP RX8 128 8 0 .int := ⟨_, _, _, tyX8, rfl, by decide, iu8, tb_in 756 (by decide +kernel) (by decide +kernel), tyX8_ok, nmX8, rfl, by decide +kernel⟩
theorem fl_X8_139 : FL RX8 139 8 2 := ⟨_, _, _, rfl, by decide, iu8, tb_in 758 (by decide +kernel) (by decide +kernel)⟩
theorem fp_X8_139 : FP RX8 139 8 2 .int := ⟨_, _, _, tyX8, rfl, by decide, iu8, tb_in 758 (by decide +kernel) (by decide +kernel), tyX8_ok, nmX8, rfl, by decide +kernel⟩
theorem fl_X8_166 : FL RX8 166 8 7 := ⟨_, _, _, rfl, by decide, iu8, tb_in 763 (by decide +kernel) (by decide +kernel)⟩
theorem fp_X8_166 : FP RX8 166 8 7 .int := ⟨_, _, _, tyX8, rfl, by decide, iu8, tb_in 763 (by decide +kernel) (by decide +kernel), tyX8_ok, nmX8, rfl, by decide +kernel⟩
theorem fl_X8_179 : FL RX8 179 8 12 := ⟨_, _, _, rfl, by decide, iu8, tb_in 768 (by decide +kernel) (by decide +kernel)⟩
theorem fp_X8_179 : FP RX8 179 8 12 .int := ⟨_, _, _, tyX8, rfl, by decide, iu8, tb_in 768 (by decide +kernel) (by decide +kernel), tyX8_ok, nmX8, rfl, by decide +kernel⟩
theorem fl_X8_182 : FL RX8 182 8 17 := ⟨_, _, _, rfl, by decide, iu8, tb_in 773 (by decide +kernel) (by decide +kernel)⟩
theorem fp_X8_182 : FP RX8 182 8 17 .int := ⟨_, _, _, tyX8, rfl, by decide, iu8, tb_in 773 (by decide +kernel) (by decide +kernel), tyX8_ok, nmX8, rfl, by decide +kernel⟩
theorem fl_X8_196 : FL RX8 196 8 24 := ⟨_, _, _, rfl, by decide, iu8, tb_in 780 (by decide +kernel) (by decide +kernel)⟩
theorem fp_X8_196 : FP RX8 196 8 24 .int := ⟨_, _, _, tyX8, rfl, by decide, iu8, tb_in 780 (by decide +kernel) (by decide +kernel), tyX8_ok, nmX8, rfl, by decide +kernel⟩
theorem fl_X8_290 : FL RX8 290 8 33 := ⟨_, _, _, rfl, by decide, iu8, tb_in 789 (by decide +kernel) (by decide +kernel)⟩
theorem fp_X8_290 : FP RX8 290 8 33 .int := ⟨_, _, _, tyX8, rfl, by decide, iu8, tb_in 789 (by decide +kernel) (by decide +kernel), tyX8_ok, nmX8, rfl, by decide +kernel⟩
theorem fl_X8_328 : FL RX8 328 8 44 := ⟨_, _, _, rfl, by decide, iu8, tb_in 800 (by decide +kernel) (by decide +kernel)⟩
theorem fp_X8_328 : FP RX8 328 8 44 .int := ⟨_, _, _, tyX8, rfl, by decide, iu8, tb_in 800 (by decide +kernel) (by decide +kernel), tyX8_ok, nmX8, rfl, by decide +kernel⟩
theorem mv_X0_has : MV mX0_has 1 := ⟨⟨tb_in 353 (by decide +kernel) (by decide +kernel), tb_in 71 (by decide +kernel) (by decide +kernel), ⟨by decide +kernel, by decide +kernel⟩, by decide +kernel⟩, tb_in 351 (by decide +kernel) (by decide +kernel), tb_in 352 (by decide +kernel) (by decide +kernel)⟩
theorem mv_X0_setTo : MV mX0_setTo 1 := ⟨⟨tb_in 518 (by decide +kernel) (by decide +kernel), tb_in 71 (by decide +kernel) (by decide +kernel), ⟨by decide +kernel, by decide +kernel⟩, by decide +kernel⟩, tb_in 516 (by decide +kernel) (by decide +kernel), tb_in 517 (by decide +kernel) (by decide +kernel)⟩
theorem mv_X0_swapSpreads : MV mX0_swapSpreads 2 := ⟨⟨tb_in 541 (by decide +kernel) (by decide +kernel), tb_in 71 (by decide +kernel) (by decide +kernel), ⟨by decide +kernel, by decide +kernel⟩, by decide +kernel⟩, tb_in 539 (by decide +kernel) (by decide +kernel), tb_in 540 (by decide +kernel) (by decide +kernel)⟩
theorem ms_X1_mayBe : MS mX1_mayBe 4 := ⟨⟨tb_in 360 (by decide +kernel) (by decide +kernel), tb_in 72 (by decide +kernel) (by decide +kernel), ⟨by decide +kernel, by decide +kernel⟩, by decide +kernel⟩, tb_in 359 (by decide +kernel) (by decide +kernel)⟩
theorem mv_X1_isFull : MV mX1_isFull 0 := ⟨⟨tb_in 368 (by decide +kernel) (by decide +kernel), tb_in 72 (by decide +kernel) (by decide +kernel), ⟨by decide +kernel, by decide +kernel⟩, by decide +kernel⟩, tb_in 366 (by decide +kernel) (by decide +kernel), tb_in 367 (by decide +kernel) (by decide +kernel)⟩
theorem mv_X1_all : MV mX1_all 0 := ⟨⟨tb_in 401 (by decide +kernel) (by decide +kernel), tb_in 72 (by decide +kernel) (by decide +kernel), ⟨by decide +kernel, by decide +kernel⟩, by decide +kernel⟩, tb_in 399 (by decide +kernel) (by decide +kernel), tb_in 400 (by decide +kernel) (by decide +kernel)⟩
theorem mv_X1_tell : MV mX1_tell 4 := ⟨⟨tb_in 372 (by decide +kernel) (by decide +kernel), tb_in 72 (by decide +kernel) (by decide +kernel), ⟨by decide +kernel, by decide +kernel⟩, by decide +kernel⟩, tb_in 370 (by decide +kernel) (by decide +kernel), tb_in 371 (by decide +kernel) (by decide +kernel)⟩
theorem mv_X1_untell : MV mX1_untell 0 := ⟨⟨tb_in 381 (by decide +kernel) (by decide +kernel), tb_in 72 (by decide +kernel) (by decide +kernel), ⟨by decide +kernel, by decide +kernel⟩, by decide +kernel⟩, tb_in 379 (by decide +kernel) (by decide +kernel), tb_in 380 (by decide +kernel) (by decide +kernel)⟩
theorem mv_X1_touch : MV mX1_touch 2 := ⟨⟨tb_in 631 (by decide +kernel) (by decide +kernel), tb_in 72 (by decide +kernel) (by decide +kernel), ⟨by decide +kernel, by decide +kernel⟩, by decide +kernel⟩, tb_in 629 (by decide +kernel) (by decide +kernel), tb_in 630 (by decide +kernel) (by decide +kernel)⟩
theorem mv_X2_clear : MV mX2_clear 0 := ⟨⟨tb_in 484 (by decide +kernel) (by decide +kernel), tb_in 76 (by decide +kernel) (by decide +kernel), ⟨by decide +kernel, by decide +kernel⟩, by decide +kernel⟩, tb_in 482 (by decide +kernel) (by decide +kernel), tb_in 483 (by decide +kernel) (by decide +kernel)⟩
theorem mv_X2_mark : MV mX2_mark 2 := ⟨⟨tb_in 488 (by decide +kernel) (by decide +kernel), tb_in 76 (by decide +kernel) (by decide +kernel), ⟨by decide +kernel, by decide +kernel⟩, by decide +kernel⟩, tb_in 486 (by decide +kernel) (by decide +kernel), tb_in 487 (by decide +kernel) (by decide +kernel)⟩
theorem mv_X2_mostMarks : MV mX2_mostMarks 0 := ⟨⟨tb_in 611 (by decide +kernel) (by decide +kernel), tb_in 76 (by decide +kernel) (by decide +kernel), ⟨by decide +kernel, by decide +kernel⟩, by decide +kernel⟩, tb_in 609 (by decide +kernel) (by decide +kernel), tb_in 610 (by decide +kernel) (by decide +kernel)⟩
theorem mv_X3_live : MV mX3_live 5 := ⟨⟨tb_in 405 (by decide +kernel) (by decide +kernel), tb_in 75 (by decide +kernel) (by decide +kernel), ⟨by decide +kernel, by decide +kernel⟩, by decide +kernel⟩, tb_in 403 (by decide +kernel) (by decide +kernel), tb_in 404 (by decide +kernel) (by decide +kernel)⟩
theorem mv_X3_begin : MV mX3_begin 2 := ⟨⟨tb_in 409 (by decide +kernel) (by decide +kernel), tb_in 75 (by decide +kernel) (by decide +kernel), ⟨by decide +kernel, by decide +kernel⟩, by decide +kernel⟩, tb_in 408 (by decide +kernel) (by decide +kernel), tb_in 3 (by decide +kernel) (by decide +kernel)⟩
theorem mv_X3_undergo : MV mX3_undergo 2 := ⟨⟨tb_in 417 (by decide +kernel) (by decide +kernel), tb_in 75 (by decide +kernel) (by decide +kernel), ⟨by decide +kernel, by decide +kernel⟩, by decide +kernel⟩, tb_in 416 (by decide +kernel) (by decide +kernel), tb_in 5 (by decide +kernel) (by decide +kernel)⟩
theorem mv_X3_goRound : MV mX3_goRound 2 := ⟨⟨tb_in 413 (by decide +kernel) (by decide +kernel), tb_in 75 (by decide +kernel) (by decide +kernel), ⟨by decide +kernel, by decide +kernel⟩, by decide +kernel⟩, tb_in 412 (by decide +kernel) (by decide +kernel), tb_in 4 (by decide +kernel) (by decide +kernel)⟩
theorem mv_X3_legX : MV mX3_legX 0 := ⟨⟨tb_in 430 (by decide +kernel) (by decide +kernel), tb_in 75 (by decide +kernel) (by decide +kernel), ⟨by decide +kernel, by decide +kernel⟩, by decide +kernel⟩, tb_in 428 (by decide +kernel) (by decide +kernel), tb_in 429 (by decide +kernel) (by decide +kernel)⟩
theorem mv_X3_legY : MV mX3_legY 0 := ⟨⟨tb_in 434 (by decide +kernel) (by decide +kernel), tb_in 75 (by decide +kernel) (by decide +kernel), ⟨by decide +kernel, by decide +kernel⟩, by decide +kernel⟩, tb_in 432 (by decide +kernel) (by decide +kernel), tb_in 433 (by decide +kernel) (by decide +kernel)⟩
theorem mv_X3_isClosed : MV mX3_isClosed 0 := ⟨⟨tb_in 463 (by decide +kernel) (by decide +kernel), tb_in 75 (by decide +kernel) (by decide +kernel), ⟨by decide +kernel, by decide +kernel⟩, by decide +kernel⟩, tb_in 461 (by decide +kernel) (by decide +kernel), tb_in 462 (by decide +kernel) (by decide +kernel)⟩
theorem mv_X3_meetsLegOf : MV mX3_meetsLegOf 1 := ⟨⟨tb_in 505 (by decide +kernel) (by decide +kernel), tb_in 75 (by decide +kernel) (by decide +kernel), ⟨by decide +kernel, by decide +kernel⟩, by decide +kernel⟩, tb_in 503 (by decide +kernel) (by decide +kernel), tb_in 504 (by decide +kernel) (by decide +kernel)⟩
theorem mv_X3_isAny : MV mX3_isAny 2 := ⟨⟨tb_in 467 (by decide +kernel) (by decide +kernel), tb_in 75 (by decide +kernel) (by decide +kernel), ⟨by decide +kernel, by decide +kernel⟩, by decide +kernel⟩, tb_in 465 (by decide +kernel) (by decide +kernel), tb_in 466 (by decide +kernel) (by decide +kernel)⟩
theorem mv_X3_against : MV mX3_against 1 := ⟨⟨tb_in 451 (by decide +kernel) (by decide +kernel), tb_in 75 (by decide +kernel) (by decide +kernel), ⟨by decide +kernel, by decide +kernel⟩, by decide +kernel⟩, tb_in 449 (by decide +kernel) (by decide +kernel), tb_in 450 (by decide +kernel) (by decide +kernel)⟩
theorem mv_X4_renew : MV mX4_renew 2 := ⟨⟨tb_in 661 (by decide +kernel) (by decide +kernel), tb_in 77 (by decide +kernel) (by decide +kernel), ⟨by decide +kernel, by decide +kernel⟩, by decide +kernel⟩, tb_in 659 (by decide +kernel) (by decide +kernel), tb_in 660 (by decide +kernel) (by decide +kernel)⟩
theorem mv_X4_wrongWith : MV mX4_wrongWith 2 := ⟨⟨tb_in 673 (by decide +kernel) (by decide +kernel), tb_in 77 (by decide +kernel) (by decide +kernel), ⟨by decide +kernel, by decide +kernel⟩, by decide +kernel⟩, tb_in 671 (by decide +kernel) (by decide +kernel), tb_in 672 (by decide +kernel) (by decide +kernel)⟩
theorem mv_X4_hasItems : MV mX4_hasItems 2 := ⟨⟨tb_in 688 (by decide +kernel) (by decide +kernel), tb_in 77 (by decide +kernel) (by decide +kernel), ⟨by decide +kernel, by decide +kernel⟩, by decide +kernel⟩, tb_in 686 (by decide +kernel) (by decide +kernel), tb_in 687 (by decide +kernel) (by decide +kernel)⟩
theorem ms_X4_lowestBits : MS mX4_lowestBits 2 := ⟨⟨tb_in 676 (by decide +kernel) (by decide +kernel), tb_in 77 (by decide +kernel) (by decide +kernel), ⟨by decide +kernel, by decide +kernel⟩, by decide +kernel⟩, tb_in 675 (by decide +kernel) (by decide +kernel)⟩
theorem mv_X5_isFull : MV mX5_isFull 0 := ⟨⟨tb_in 570 (by decide +kernel) (by decide +kernel), tb_in 73 (by decide +kernel) (by decide +kernel), ⟨by decide +kernel, by decide +kernel⟩, by decide +kernel⟩, tb_in 568 (by decide +kernel) (by decide +kernel), tb_in 569 (by decide +kernel) (by decide +kernel)⟩
theorem mv_X5_note : MV mX5_note 4 := ⟨⟨tb_in 574 (by decide +kernel) (by decide +kernel), tb_in 73 (by decide +kernel) (by decide +kernel), ⟨by decide +kernel, by decide +kernel⟩, by decide +kernel⟩, tb_in 572 (by decide +kernel) (by decide +kernel), tb_in 573 (by decide +kernel) (by decide +kernel)⟩
theorem mv_X5_comeOut : MV mX5_comeOut 4 := ⟨⟨tb_in 587 (by decide +kernel) (by decide +kernel), tb_in 73 (by decide +kernel) (by decide +kernel), ⟨by decide +kernel, by decide +kernel⟩, by decide +kernel⟩, tb_in 585 (by decide +kernel) (by decide +kernel), tb_in 586 (by decide +kernel) (by decide +kernel)⟩
theorem mv_X6_behind : MV mX6_behind 4 := ⟨⟨tb_in 446 (by decide +kernel) (by decide +kernel), tb_in 74 (by decide +kernel) (by decide +kernel), ⟨by decide +kernel, by decide +kernel⟩, by decide +kernel⟩, tb_in 444 (by decide +kernel) (by decide +kernel), tb_in 445 (by decide +kernel) (by decide +kernel)⟩
theorem mv_X6_liveAgain : MV mX6_liveAgain 5 := ⟨⟨tb_in 627 (by decide +kernel) (by decide +kernel), tb_in 74 (by decide +kernel) (by decide +kernel), ⟨by decide +kernel, by decide +kernel⟩, by decide +kernel⟩, tb_in 625 (by decide +kernel) (by decide +kernel), tb_in 626 (by decide +kernel) (by decide +kernel)⟩
theorem mv_X6_closedPairs : MV mX6_closedPairs 1 := ⟨⟨tb_in 459 (by decide +kernel) (by decide +kernel), tb_in 74 (by decide +kernel) (by decide +kernel), ⟨by decide +kernel, by decide +kernel⟩, by decide +kernel⟩, tb_in 457 (by decide +kernel) (by decide +kernel), tb_in 458 (by decide +kernel) (by decide +kernel)⟩
theorem mv_X6_othersWith : MV mX6_othersWith 2 := ⟨⟨tb_in 525 (by decide +kernel) (by decide +kernel), tb_in 74 (by decide +kernel) (by decide +kernel), ⟨by decide +kernel, by decide +kernel⟩, by decide +kernel⟩, tb_in 523 (by decide +kernel) (by decide +kernel), tb_in 524 (by decide +kernel) (by decide +kernel)⟩
theorem mv_X6_closedBits : MV mX6_closedBits 0 := ⟨⟨tb_in 476 (by decide +kernel) (by decide +kernel), tb_in 74 (by decide +kernel) (by decide +kernel), ⟨by decide +kernel, by decide +kernel⟩, by decide +kernel⟩, tb_in 474 (by decide +kernel) (by decide +kernel), tb_in 475 (by decide +kernel) (by decide +kernel)⟩
theorem mv_X6_sighs : MV mX6_sighs 0 := ⟨⟨tb_in 706 (by decide +kernel) (by decide +kernel), tb_in 74 (by decide +kernel) (by decide +kernel), ⟨by decide +kernel, by decide +kernel⟩, by decide +kernel⟩, tb_in 704 (by decide +kernel) (by decide +kernel), tb_in 705 (by decide +kernel) (by decide +kernel)⟩
theorem mv_X6_firstMetBy : MV mX6_firstMetBy 1 := ⟨⟨tb_in 501 (by decide +kernel) (by decide +kernel), tb_in 74 (by decide +kernel) (by decide +kernel), ⟨by decide +kernel, by decide +kernel⟩, by decide +kernel⟩, tb_in 499 (by decide +kernel) (by decide +kernel), tb_in 500 (by decide +kernel) (by decide +kernel)⟩
theorem mv_X7_type : MV mX7_type 1 := ⟨⟨tb_in 322 (by decide +kernel) (by decide +kernel), tb_in 70 (by decide +kernel) (by decide +kernel), ⟨by decide +kernel, by decide +kernel⟩, by decide +kernel⟩, tb_in 320 (by decide +kernel) (by decide +kernel), tb_in 321 (by decide +kernel) (by decide +kernel)⟩
theorem mv_X7_wipe : MV mX7_wipe 0 := ⟨⟨tb_in 337 (by decide +kernel) (by decide +kernel), tb_in 70 (by decide +kernel) (by decide +kernel), ⟨by decide +kernel, by decide +kernel⟩, by decide +kernel⟩, tb_in 335 (by decide +kernel) (by decide +kernel), tb_in 336 (by decide +kernel) (by decide +kernel)⟩
theorem mv_X7_undo : MV mX7_undo 0 := ⟨⟨tb_in 341 (by decide +kernel) (by decide +kernel), tb_in 70 (by decide +kernel) (by decide +kernel), ⟨by decide +kernel, by decide +kernel⟩, by decide +kernel⟩, tb_in 339 (by decide +kernel) (by decide +kernel), tb_in 340 (by decide +kernel) (by decide +kernel)⟩
theorem mv_X7_fault : MV mX7_fault 0 := ⟨⟨tb_in 345 (by decide +kernel) (by decide +kernel), tb_in 70 (by decide +kernel) (by decide +kernel), ⟨by decide +kernel, by decide +kernel⟩, by decide +kernel⟩, tb_in 343 (by decide +kernel) (by decide +kernel), tb_in 344 (by decide +kernel) (by decide +kernel)⟩
theorem mv_X7_couple : MV mX7_couple 2 := ⟨⟨tb_in 349 (by decide +kernel) (by decide +kernel), tb_in 70 (by decide +kernel) (by decide +kernel), ⟨by decide +kernel, by decide +kernel⟩, by decide +kernel⟩, tb_in 347 (by decide +kernel) (by decide +kernel), tb_in 348 (by decide +kernel) (by decide +kernel)⟩
theorem mv_X7_event : MV mX7_event 4 := ⟨⟨tb_in 357 (by decide +kernel) (by decide +kernel), tb_in 70 (by decide +kernel) (by decide +kernel), ⟨by decide +kernel, by decide +kernel⟩, by decide +kernel⟩, tb_in 355 (by decide +kernel) (by decide +kernel), tb_in 356 (by decide +kernel) (by decide +kernel)⟩
theorem mv_X7_back : MV mX7_back 0 := ⟨⟨tb_in 377 (by decide +kernel) (by decide +kernel), tb_in 70 (by decide +kernel) (by decide +kernel), ⟨by decide +kernel, by decide +kernel⟩, by decide +kernel⟩, tb_in 375 (by decide +kernel) (by decide +kernel), tb_in 376 (by decide +kernel) (by decide +kernel)⟩
theorem mv_X7_read : MV mX7_read 1 := ⟨⟨tb_in 385 (by decide +kernel) (by decide +kernel), tb_in 70 (by decide +kernel) (by decide +kernel), ⟨by decide +kernel, by decide +kernel⟩, by decide +kernel⟩, tb_in 383 (by decide +kernel) (by decide +kernel), tb_in 384 (by decide +kernel) (by decide +kernel)⟩
theorem mv_X7_at : MV mX7_at 3 := ⟨⟨tb_in 396 (by decide +kernel) (by decide +kernel), tb_in 70 (by decide +kernel) (by decide +kernel), ⟨by decide +kernel, by decide +kernel⟩, by decide +kernel⟩, tb_in 394 (by decide +kernel) (by decide +kernel), tb_in 395 (by decide +kernel) (by decide +kernel)⟩
theorem mv_X7_place : MV mX7_place 3 := ⟨⟨tb_in 425 (by decide +kernel) (by decide +kernel), tb_in 70 (by decide +kernel) (by decide +kernel), ⟨by decide +kernel, by decide +kernel⟩, by decide +kernel⟩, tb_in 423 (by decide +kernel) (by decide +kernel), tb_in 424 (by decide +kernel) (by decide +kernel)⟩
theorem mv_X7_are : MV mX7_are 3 := ⟨⟨tb_in 438 (by decide +kernel) (by decide +kernel), tb_in 70 (by decide +kernel) (by decide +kernel), ⟨by decide +kernel, by decide +kernel⟩, by decide +kernel⟩, tb_in 436 (by decide +kernel) (by decide +kernel), tb_in 437 (by decide +kernel) (by decide +kernel)⟩
theorem mv_X7_pairs : MV mX7_pairs 2 := ⟨⟨tb_in 455 (by decide +kernel) (by decide +kernel), tb_in 70 (by decide +kernel) (by decide +kernel), ⟨by decide +kernel, by decide +kernel⟩, by decide +kernel⟩, tb_in 453 (by decide +kernel) (by decide +kernel), tb_in 454 (by decide +kernel) (by decide +kernel)⟩
theorem mv_X7_closed : MV mX7_closed 1 := ⟨⟨tb_in 472 (by decide +kernel) (by decide +kernel), tb_in 70 (by decide +kernel) (by decide +kernel), ⟨by decide +kernel, by decide +kernel⟩, by decide +kernel⟩, tb_in 470 (by decide +kernel) (by decide +kernel), tb_in 471 (by decide +kernel) (by decide +kernel)⟩
theorem mv_X7_holes : MV mX7_holes 0 := ⟨⟨tb_in 480 (by decide +kernel) (by decide +kernel), tb_in 70 (by decide +kernel) (by decide +kernel), ⟨by decide +kernel, by decide +kernel⟩, by decide +kernel⟩, tb_in 478 (by decide +kernel) (by decide +kernel), tb_in 479 (by decide +kernel) (by decide +kernel)⟩
theorem mv_X7_ringed : MV mX7_ringed 1 := ⟨⟨tb_in 492 (by decide +kernel) (by decide +kernel), tb_in 70 (by decide +kernel) (by decide +kernel), ⟨by decide +kernel, by decide +kernel⟩, by decide +kernel⟩, tb_in 490 (by decide +kernel) (by decide +kernel), tb_in 491 (by decide +kernel) (by decide +kernel)⟩
theorem mv_X7_meets : MV mX7_meets 1 := ⟨⟨tb_in 497 (by decide +kernel) (by decide +kernel), tb_in 70 (by decide +kernel) (by decide +kernel), ⟨by decide +kernel, by decide +kernel⟩, by decide +kernel⟩, tb_in 495 (by decide +kernel) (by decide +kernel), tb_in 496 (by decide +kernel) (by decide +kernel)⟩
theorem mv_X7_open : MV mX7_open 3 := ⟨⟨tb_in 514 (by decide +kernel) (by decide +kernel), tb_in 70 (by decide +kernel) (by decide +kernel), ⟨by decide +kernel, by decide +kernel⟩, by decide +kernel⟩, tb_in 512 (by decide +kernel) (by decide +kernel), tb_in 513 (by decide +kernel) (by decide +kernel)⟩
theorem mv_X7_stand : MV mX7_stand 3 := ⟨⟨tb_in 529 (by decide +kernel) (by decide +kernel), tb_in 70 (by decide +kernel) (by decide +kernel), ⟨by decide +kernel, by decide +kernel⟩, by decide +kernel⟩, tb_in 527 (by decide +kernel) (by decide +kernel), tb_in 528 (by decide +kernel) (by decide +kernel)⟩
theorem mv_X7_swap : MV mX7_swap 1 := ⟨⟨tb_in 533 (by decide +kernel) (by decide +kernel), tb_in 70 (by decide +kernel) (by decide +kernel), ⟨by decide +kernel, by decide +kernel⟩, by decide +kernel⟩, tb_in 531 (by decide +kernel) (by decide +kernel), tb_in 532 (by decide +kernel) (by decide +kernel)⟩
theorem mv_X7_drop : MV mX7_drop 1 := ⟨⟨tb_in 545 (by decide +kernel) (by decide +kernel), tb_in 70 (by decide +kernel) (by decide +kernel), ⟨by decide +kernel, by decide +kernel⟩, by decide +kernel⟩, tb_in 543 (by decide +kernel) (by decide +kernel), tb_in 544 (by decide +kernel) (by decide +kernel)⟩
theorem mv_X7_seen : MV mX7_seen 4 := ⟨⟨tb_in 566 (by decide +kernel) (by decide +kernel), tb_in 70 (by decide +kernel) (by decide +kernel), ⟨by decide +kernel, by decide +kernel⟩, by decide +kernel⟩, tb_in 564 (by decide +kernel) (by decide +kernel), tb_in 565 (by decide +kernel) (by decide +kernel)⟩
theorem mv_X7_forget : MV mX7_forget 0 := ⟨⟨tb_in 579 (by decide +kernel) (by decide +kernel), tb_in 70 (by decide +kernel) (by decide +kernel), ⟨by decide +kernel, by decide +kernel⟩, by decide +kernel⟩, tb_in 577 (by decide +kernel) (by decide +kernel), tb_in 578 (by decide +kernel) (by decide +kernel)⟩
theorem mv_X7_never : MV mX7_never 0 := ⟨⟨tb_in 583 (by decide +kernel) (by decide +kernel), tb_in 70 (by decide +kernel) (by decide +kernel), ⟨by decide +kernel, by decide +kernel⟩, by decide +kernel⟩, tb_in 581 (by decide +kernel) (by decide +kernel), tb_in 582 (by decide +kernel) (by decide +kernel)⟩
theorem mv_X7_was : MV mX7_was 2 := ⟨⟨tb_in 595 (by decide +kernel) (by decide +kernel), tb_in 70 (by decide +kernel) (by decide +kernel), ⟨by decide +kernel, by decide +kernel⟩, by decide +kernel⟩, tb_in 593 (by decide +kernel) (by decide +kernel), tb_in 594 (by decide +kernel) (by decide +kernel)⟩
theorem mv_X7_ask : MV mX7_ask 1 := ⟨⟨tb_in 603 (by decide +kernel) (by decide +kernel), tb_in 70 (by decide +kernel) (by decide +kernel), ⟨by decide +kernel, by decide +kernel⟩, by decide +kernel⟩, tb_in 601 (by decide +kernel) (by decide +kernel), tb_in 602 (by decide +kernel) (by decide +kernel)⟩
theorem mv_X7_gossip : MV mX7_gossip 3 := ⟨⟨tb_in 618 (by decide +kernel) (by decide +kernel), tb_in 70 (by decide +kernel) (by decide +kernel), ⟨by decide +kernel, by decide +kernel⟩, by decide +kernel⟩, tb_in 616 (by decide +kernel) (by decide +kernel), tb_in 617 (by decide +kernel) (by decide +kernel)⟩
theorem mv_X7_ages : MV mX7_ages 3 := ⟨⟨tb_in 639 (by decide +kernel) (by decide +kernel), tb_in 70 (by decide +kernel) (by decide +kernel), ⟨by decide +kernel, by decide +kernel⟩, by decide +kernel⟩, tb_in 637 (by decide +kernel) (by decide +kernel), tb_in 638 (by decide +kernel) (by decide +kernel)⟩
theorem mv_X7_sheet : MV mX7_sheet 3 := ⟨⟨tb_in 654 (by decide +kernel) (by decide +kernel), tb_in 70 (by decide +kernel) (by decide +kernel), ⟨by decide +kernel, by decide +kernel⟩, by decide +kernel⟩, tb_in 652 (by decide +kernel) (by decide +kernel), tb_in 653 (by decide +kernel) (by decide +kernel)⟩
theorem mv_X7_lose : MV mX7_lose 1 := ⟨⟨tb_in 665 (by decide +kernel) (by decide +kernel), tb_in 70 (by decide +kernel) (by decide +kernel), ⟨by decide +kernel, by decide +kernel⟩, by decide +kernel⟩, tb_in 663 (by decide +kernel) (by decide +kernel), tb_in 664 (by decide +kernel) (by decide +kernel)⟩
theorem mv_X7_put : MV mX7_put 4 := ⟨⟨tb_in 669 (by decide +kernel) (by decide +kernel), tb_in 70 (by decide +kernel) (by decide +kernel), ⟨by decide +kernel, by decide +kernel⟩, by decide +kernel⟩, tb_in 667 (by decide +kernel) (by decide +kernel), tb_in 668 (by decide +kernel) (by decide +kernel)⟩
theorem mv_X7_get : MV mX7_get 3 := ⟨⟨tb_in 680 (by decide +kernel) (by decide +kernel), tb_in 70 (by decide +kernel) (by decide +kernel), ⟨by decide +kernel, by decide +kernel⟩, by decide +kernel⟩, tb_in 678 (by decide +kernel) (by decide +kernel), tb_in 679 (by decide +kernel) (by decide +kernel)⟩
theorem mv_X7_copy : MV mX7_copy 5 := ⟨⟨tb_in 684 (by decide +kernel) (by decide +kernel), tb_in 70 (by decide +kernel) (by decide +kernel), ⟨by decide +kernel, by decide +kernel⟩, by decide +kernel⟩, tb_in 682 (by decide +kernel) (by decide +kernel), tb_in 683 (by decide +kernel) (by decide +kernel)⟩
theorem mv_X7_write : MV mX7_write 2 := ⟨⟨tb_in 693 (by decide +kernel) (by decide +kernel), tb_in 70 (by decide +kernel) (by decide +kernel), ⟨by decide +kernel, by decide +kernel⟩, by decide +kernel⟩, tb_in 691 (by decide +kernel) (by decide +kernel), tb_in 692 (by decide +kernel) (by decide +kernel)⟩
theorem mv_X7_count : MV mX7_count 1 := ⟨⟨tb_in 700 (by decide +kernel) (by decide +kernel), tb_in 70 (by decide +kernel) (by decide +kernel), ⟨by decide +kernel, by decide +kernel⟩, by decide +kernel⟩, tb_in 698 (by decide +kernel) (by decide +kernel), tb_in 699 (by decide +kernel) (by decide +kernel)⟩
theorem mv_X7_digest : MV mX7_digest 0 := ⟨⟨tb_in 710 (by decide +kernel) (by decide +kernel), tb_in 70 (by decide +kernel) (by decide +kernel), ⟨by decide +kernel, by decide +kernel⟩, by decide +kernel⟩, tb_in 708 (by decide +kernel) (by decide +kernel), tb_in 709 (by decide +kernel) (by decide +kernel)⟩
theorem ms_X7_mix : MS mX7_mix 2 := ⟨⟨tb_in 715 (by decide +kernel) (by decide +kernel), tb_in 70 (by decide +kernel) (by decide +kernel), ⟨by decide +kernel, by decide +kernel⟩, by decide +kernel⟩, tb_in 714 (by decide +kernel) (by decide +kernel)⟩
theorem mv_X7_mixCouple : MV mX7_mixCouple 2 := ⟨⟨tb_in 721 (by decide +kernel) (by decide +kernel), tb_in 70 (by decide +kernel) (by decide +kernel), ⟨by decide +kernel, by decide +kernel⟩, by decide +kernel⟩, tb_in 720 (by decide +kernel) (by decide +kernel), tb_in 15 (by decide +kernel) (by decide +kernel)⟩
theorem mv_X7_mixOneDay : MV mX7_mixOneDay 3 := ⟨⟨tb_in 726 (by decide +kernel) (by decide +kernel), tb_in 70 (by decide +kernel) (by decide +kernel), ⟨by decide +kernel, by decide +kernel⟩, by decide +kernel⟩, tb_in 725 (by decide +kernel) (by decide +kernel), tb_in 16 (by decide +kernel) (by decide +kernel)⟩
theorem mv_X7_mixPairs : MV mX7_mixPairs 1 := ⟨⟨tb_in 737 (by decide +kernel) (by decide +kernel), tb_in 70 (by decide +kernel) (by decide +kernel), ⟨by decide +kernel, by decide +kernel⟩, by decide +kernel⟩, tb_in 736 (by decide +kernel) (by decide +kernel), tb_in 17 (by decide +kernel) (by decide +kernel)⟩
theorem mv_X7_mixDays : MV mX7_mixDays 1 := ⟨⟨tb_in 742 (by decide +kernel) (by decide +kernel), tb_in 70 (by decide +kernel) (by decide +kernel), ⟨by decide +kernel, by decide +kernel⟩, by decide +kernel⟩, tb_in 741 (by decide +kernel) (by decide +kernel), tb_in 18 (by decide +kernel) (by decide +kernel)⟩
theorem ms_X7_isWithin : MS mX7_isWithin 3 := ⟨⟨tb_in 325 (by decide +kernel) (by decide +kernel), tb_in 70 (by decide +kernel) (by decide +kernel), ⟨by decide +kernel, by decide +kernel⟩, by decide +kernel⟩, tb_in 324 (by decide +kernel) (by decide +kernel)⟩
theorem ms_X7_isDay : MS mX7_isDay 1 := ⟨⟨tb_in 364 (by decide +kernel) (by decide +kernel), tb_in 70 (by decide +kernel) (by decide +kernel), ⟨by decide +kernel, by decide +kernel⟩, by decide +kernel⟩, tb_in 363 (by decide +kernel) (by decide +kernel)⟩
theorem ms_X7_isSheet : MS mX7_isSheet 1 := ⟨⟨tb_in 388 (by decide +kernel) (by decide +kernel), tb_in 70 (by decide +kernel) (by decide +kernel), ⟨by decide +kernel, by decide +kernel⟩, by decide +kernel⟩, tb_in 387 (by decide +kernel) (by decide +kernel)⟩
theorem ms_X7_isForm : MS mX7_isForm 1 := ⟨⟨tb_in 657 (by decide +kernel) (by decide +kernel), tb_in 70 (by decide +kernel) (by decide +kernel), ⟨by decide +kernel, by decide +kernel⟩, by decide +kernel⟩, tb_in 656 (by decide +kernel) (by decide +kernel)⟩
theorem ms_X7_pick : MS mX7_pick 4 := ⟨⟨tb_in 510 (by decide +kernel) (by decide +kernel), tb_in 70 (by decide +kernel) (by decide +kernel), ⟨by decide +kernel, by decide +kernel⟩, by decide +kernel⟩, tb_in 509 (by decide +kernel) (by decide +kernel)⟩
theorem ms_X7_bitOf : MS mX7_bitOf 2 := ⟨⟨tb_in 562 (by decide +kernel) (by decide +kernel), tb_in 70 (by decide +kernel) (by decide +kernel), ⟨by decide +kernel, by decide +kernel⟩, by decide +kernel⟩, tb_in 561 (by decide +kernel) (by decide +kernel)⟩
theorem mv_X7_find : MV mX7_find 1 := ⟨⟨tb_in 392 (by decide +kernel) (by decide +kernel), tb_in 70 (by decide +kernel) (by decide +kernel), ⟨by decide +kernel, by decide +kernel⟩, by decide +kernel⟩, tb_in 391 (by decide +kernel) (by decide +kernel), tb_in 2 (by decide +kernel) (by decide +kernel)⟩
theorem mv_X7_comeTo : MV mX7_comeTo 1 := ⟨⟨tb_in 442 (by decide +kernel) (by decide +kernel), tb_in 70 (by decide +kernel) (by decide +kernel), ⟨by decide +kernel, by decide +kernel⟩, by decide +kernel⟩, tb_in 441 (by decide +kernel) (by decide +kernel), tb_in 6 (by decide +kernel) (by decide +kernel)⟩
theorem mv_X7_hear : MV mX7_hear 0 := ⟨⟨tb_in 329 (by decide +kernel) (by decide +kernel), tb_in 70 (by decide +kernel) (by decide +kernel), ⟨by decide +kernel, by decide +kernel⟩, by decide +kernel⟩, tb_in 328 (by decide +kernel) (by decide +kernel), tb_in 0 (by decide +kernel) (by decide +kernel)⟩
theorem mv_X7_hearByte : MV mX7_hearByte 3 := ⟨⟨tb_in 333 (by decide +kernel) (by decide +kernel), tb_in 70 (by decide +kernel) (by decide +kernel), ⟨by decide +kernel, by decide +kernel⟩, by decide +kernel⟩, tb_in 332 (by decide +kernel) (by decide +kernel), tb_in 1 (by decide +kernel) (by decide +kernel)⟩
theorem mv_X7_talkedOnceSwapped : MV mX7_talkedOnceSwapped 2 := ⟨⟨tb_in 537 (by decide +kernel) (by decide +kernel), tb_in 70 (by decide +kernel) (by decide +kernel), ⟨by decide +kernel, by decide +kernel⟩, by decide +kernel⟩, tb_in 536 (by decide +kernel) (by decide +kernel), tb_in 7 (by decide +kernel) (by decide +kernel)⟩
theorem mv_X7_isQuietWithout : MV mX7_isQuietWithout 1 := ⟨⟨tb_in 553 (by decide +kernel) (by decide +kernel), tb_in 70 (by decide +kernel) (by decide +kernel), ⟨by decide +kernel, by decide +kernel⟩, by decide +kernel⟩, tb_in 552 (by decide +kernel) (by decide +kernel), tb_in 9 (by decide +kernel) (by decide +kernel)⟩
theorem mv_X7_fewestToDrop : MV mX7_fewestToDrop 0 := ⟨⟨tb_in 549 (by decide +kernel) (by decide +kernel), tb_in 70 (by decide +kernel) (by decide +kernel), ⟨by decide +kernel, by decide +kernel⟩, by decide +kernel⟩, tb_in 548 (by decide +kernel) (by decide +kernel), tb_in 8 (by decide +kernel) (by decide +kernel)⟩
theorem mv_X7_valuesThatFit : MV mX7_valuesThatFit 3 := ⟨⟨tb_in 599 (by decide +kernel) (by decide +kernel), tb_in 70 (by decide +kernel) (by decide +kernel), ⟨by decide +kernel, by decide +kernel⟩, by decide +kernel⟩, tb_in 598 (by decide +kernel) (by decide +kernel), tb_in 10 (by decide +kernel) (by decide +kernel)⟩
theorem mv_X7_mostAlike : MV mX7_mostAlike 3 := ⟨⟨tb_in 607 (by decide +kernel) (by decide +kernel), tb_in 70 (by decide +kernel) (by decide +kernel), ⟨by decide +kernel, by decide +kernel⟩, by decide +kernel⟩, tb_in 606 (by decide +kernel) (by decide +kernel), tb_in 11 (by decide +kernel) (by decide +kernel)⟩
theorem mv_X7_waysTalked : MV mX7_waysTalked 2 := ⟨⟨tb_in 623 (by decide +kernel) (by decide +kernel), tb_in 70 (by decide +kernel) (by decide +kernel), ⟨by decide +kernel, by decide +kernel⟩, by decide +kernel⟩, tb_in 622 (by decide +kernel) (by decide +kernel), tb_in 12 (by decide +kernel) (by decide +kernel)⟩
theorem mv_X7_weight : MV mX7_weight 2 := ⟨⟨tb_in 635 (by decide +kernel) (by decide +kernel), tb_in 70 (by decide +kernel) (by decide +kernel), ⟨by decide +kernel, by decide +kernel⟩, by decide +kernel⟩, tb_in 634 (by decide +kernel) (by decide +kernel), tb_in 13 (by decide +kernel) (by decide +kernel)⟩
theorem mv_X7_drawEvents : MV mX7_drawEvents 2 := ⟨⟨tb_in 643 (by decide +kernel) (by decide +kernel), tb_in 70 (by decide +kernel) (by decide +kernel), ⟨by decide +kernel, by decide +kernel⟩, by decide +kernel⟩, tb_in 642 (by decide +kernel) (by decide +kernel), tb_in 14 (by decide +kernel) (by decide +kernel)⟩
theorem ms_X7_nextLot : MS mX7_nextLot 1 := ⟨⟨tb_in 646 (by decide +kernel) (by decide +kernel), tb_in 70 (by decide +kernel) (by decide +kernel), ⟨by decide +kernel, by decide +kernel⟩, by decide +kernel⟩, tb_in 645 (by decide +kernel) (by decide +kernel)⟩
theorem ms_X7_lotOf : MS mX7_lotOf 2 := ⟨⟨tb_in 650 (by decide +kernel) (by decide +kernel), tb_in 70 (by decide +kernel) (by decide +kernel), ⟨by decide +kernel, by decide +kernel⟩, by decide +kernel⟩, tb_in 649 (by decide +kernel) (by decide +kernel)⟩
theorem ms_X8_in : MS mX8_in 3 := ⟨⟨tb_in 899 (by decide +kernel) (by decide +kernel), tb_in 78 (by decide +kernel) (by decide +kernel), ⟨by decide +kernel, by decide +kernel⟩, by decide +kernel⟩, tb_in 898 (by decide +kernel) (by decide +kernel)⟩
theorem ms_X8_isIn : MS mX8_isIn 2 := ⟨⟨tb_in 996 (by decide +kernel) (by decide +kernel), tb_in 78 (by decide +kernel) (by decide +kernel), ⟨by decide +kernel, by decide +kernel⟩, by decide +kernel⟩, tb_in 995 (by decide +kernel) (by decide +kernel)⟩
theorem ms_X8_no : MS mX8_no 1 := ⟨⟨tb_in 1197 (by decide +kernel) (by decide +kernel), tb_in 78 (by decide +kernel) (by decide +kernel), ⟨by decide +kernel, by decide +kernel⟩, by decide +kernel⟩, tb_in 1196 (by decide +kernel) (by decide +kernel)⟩
theorem ms_X8_lowest : MS mX8_lowest 3 := ⟨⟨tb_in 1194 (by decide +kernel) (by decide +kernel), tb_in 78 (by decide +kernel) (by decide +kernel), ⟨by decide +kernel, by decide +kernel⟩, by decide +kernel⟩, tb_in 1193 (by decide +kernel) (by decide +kernel)⟩
theorem ms_X8_isDay : MS mX8_isDay 1 := ⟨⟨tb_in 950 (by decide +kernel) (by decide +kernel), tb_in 78 (by decide +kernel) (by decide +kernel), ⟨by decide +kernel, by decide +kernel⟩, by decide +kernel⟩, tb_in 949 (by decide +kernel) (by decide +kernel)⟩
theorem ms_X8_isEight : MS mX8_isEight 1 := ⟨⟨tb_in 953 (by decide +kernel) (by decide +kernel), tb_in 78 (by decide +kernel) (by decide +kernel), ⟨by decide +kernel, by decide +kernel⟩, by decide +kernel⟩, tb_in 952 (by decide +kernel) (by decide +kernel)⟩
theorem mv_X8_type : MV mX8_type 1 := ⟨⟨tb_in 896 (by decide +kernel) (by decide +kernel), tb_in 78 (by decide +kernel) (by decide +kernel), ⟨by decide +kernel, by decide +kernel⟩, by decide +kernel⟩, tb_in 894 (by decide +kernel) (by decide +kernel), tb_in 895 (by decide +kernel) (by decide +kernel)⟩
theorem mv_X8_wipe : MV mX8_wipe 0 := ⟨⟨tb_in 903 (by decide +kernel) (by decide +kernel), tb_in 78 (by decide +kernel) (by decide +kernel), ⟨by decide +kernel, by decide +kernel⟩, by decide +kernel⟩, tb_in 901 (by decide +kernel) (by decide +kernel), tb_in 902 (by decide +kernel) (by decide +kernel)⟩
theorem mv_X8_undo : MV mX8_undo 0 := ⟨⟨tb_in 907 (by decide +kernel) (by decide +kernel), tb_in 78 (by decide +kernel) (by decide +kernel), ⟨by decide +kernel, by decide +kernel⟩, by decide +kernel⟩, tb_in 905 (by decide +kernel) (by decide +kernel), tb_in 906 (by decide +kernel) (by decide +kernel)⟩
theorem mv_X8_byteAt : MV mX8_byteAt 1 := ⟨⟨tb_in 923 (by decide +kernel) (by decide +kernel), tb_in 78 (by decide +kernel) (by decide +kernel), ⟨by decide +kernel, by decide +kernel⟩, by decide +kernel⟩, tb_in 922 (by decide +kernel) (by decide +kernel), tb_in 21 (by decide +kernel) (by decide +kernel)⟩
theorem mv_X8_sortAt : MV mX8_sortAt 1 := ⟨⟨tb_in 927 (by decide +kernel) (by decide +kernel), tb_in 78 (by decide +kernel) (by decide +kernel), ⟨by decide +kernel, by decide +kernel⟩, by decide +kernel⟩, tb_in 926 (by decide +kernel) (by decide +kernel), tb_in 22 (by decide +kernel) (by decide +kernel)⟩
theorem mv_X8_readsCouple : MV mX8_readsCouple 2 := ⟨⟨tb_in 919 (by decide +kernel) (by decide +kernel), tb_in 78 (by decide +kernel) (by decide +kernel), ⟨by decide +kernel, by decide +kernel⟩, by decide +kernel⟩, tb_in 918 (by decide +kernel) (by decide +kernel), tb_in 20 (by decide +kernel) (by decide +kernel)⟩
theorem mv_X8_faultNow : MV mX8_faultNow 0 := ⟨⟨tb_in 915 (by decide +kernel) (by decide +kernel), tb_in 78 (by decide +kernel) (by decide +kernel), ⟨by decide +kernel, by decide +kernel⟩, by decide +kernel⟩, tb_in 914 (by decide +kernel) (by decide +kernel), tb_in 19 (by decide +kernel) (by decide +kernel)⟩
theorem mv_X8_reads : MV mX8_reads 0 := ⟨⟨tb_in 939 (by decide +kernel) (by decide +kernel), tb_in 78 (by decide +kernel) (by decide +kernel), ⟨by decide +kernel, by decide +kernel⟩, by decide +kernel⟩, tb_in 938 (by decide +kernel) (by decide +kernel), tb_in 24 (by decide +kernel) (by decide +kernel)⟩
theorem mv_X8_fault : MV mX8_fault 0 := ⟨⟨tb_in 911 (by decide +kernel) (by decide +kernel), tb_in 78 (by decide +kernel) (by decide +kernel), ⟨by decide +kernel, by decide +kernel⟩, by decide +kernel⟩, tb_in 909 (by decide +kernel) (by decide +kernel), tb_in 910 (by decide +kernel) (by decide +kernel)⟩
theorem mv_X8_isCouple : MV mX8_isCouple 1 := ⟨⟨tb_in 935 (by decide +kernel) (by decide +kernel), tb_in 78 (by decide +kernel) (by decide +kernel), ⟨by decide +kernel, by decide +kernel⟩, by decide +kernel⟩, tb_in 934 (by decide +kernel) (by decide +kernel), tb_in 23 (by decide +kernel) (by decide +kernel)⟩
theorem mv_X8_coupleOf : MV mX8_coupleOf 2 := ⟨⟨tb_in 943 (by decide +kernel) (by decide +kernel), tb_in 78 (by decide +kernel) (by decide +kernel), ⟨by decide +kernel, by decide +kernel⟩, by decide +kernel⟩, tb_in 942 (by decide +kernel) (by decide +kernel), tb_in 25 (by decide +kernel) (by decide +kernel)⟩
theorem mv_X8_couple : MV mX8_couple 2 := ⟨⟨tb_in 931 (by decide +kernel) (by decide +kernel), tb_in 78 (by decide +kernel) (by decide +kernel), ⟨by decide +kernel, by decide +kernel⟩, by decide +kernel⟩, tb_in 929 (by decide +kernel) (by decide +kernel), tb_in 930 (by decide +kernel) (by decide +kernel)⟩
theorem mv_X8_event : MV mX8_event 4 := ⟨⟨tb_in 947 (by decide +kernel) (by decide +kernel), tb_in 78 (by decide +kernel) (by decide +kernel), ⟨by decide +kernel, by decide +kernel⟩, by decide +kernel⟩, tb_in 945 (by decide +kernel) (by decide +kernel), tb_in 946 (by decide +kernel) (by decide +kernel)⟩
theorem mv_X8_back : MV mX8_back 0 := ⟨⟨tb_in 957 (by decide +kernel) (by decide +kernel), tb_in 78 (by decide +kernel) (by decide +kernel), ⟨by decide +kernel, by decide +kernel⟩, by decide +kernel⟩, tb_in 955 (by decide +kernel) (by decide +kernel), tb_in 956 (by decide +kernel) (by decide +kernel)⟩
theorem mv_X8_read : MV mX8_read 1 := ⟨⟨tb_in 961 (by decide +kernel) (by decide +kernel), tb_in 78 (by decide +kernel) (by decide +kernel), ⟨by decide +kernel, by decide +kernel⟩, by decide +kernel⟩, tb_in 959 (by decide +kernel) (by decide +kernel), tb_in 960 (by decide +kernel) (by decide +kernel)⟩
theorem mv_X8_asTold : MV mX8_asTold 0 := ⟨⟨tb_in 985 (by decide +kernel) (by decide +kernel), tb_in 78 (by decide +kernel) (by decide +kernel), ⟨by decide +kernel, by decide +kernel⟩, by decide +kernel⟩, tb_in 984 (by decide +kernel) (by decide +kernel), tb_in 29 (by decide +kernel) (by decide +kernel)⟩
theorem ms_X8_legX : MS mX8_legX 3 := ⟨⟨tb_in 1007 (by decide +kernel) (by decide +kernel), tb_in 78 (by decide +kernel) (by decide +kernel), ⟨by decide +kernel, by decide +kernel⟩, by decide +kernel⟩, tb_in 1006 (by decide +kernel) (by decide +kernel)⟩
theorem ms_X8_legY : MS mX8_legY 3 := ⟨⟨tb_in 1010 (by decide +kernel) (by decide +kernel), tb_in 78 (by decide +kernel) (by decide +kernel), ⟨by decide +kernel, by decide +kernel⟩, by decide +kernel⟩, tb_in 1009 (by decide +kernel) (by decide +kernel)⟩
theorem mv_X8_changesOver : MV mX8_changesOver 1 := ⟨⟨tb_in 1004 (by decide +kernel) (by decide +kernel), tb_in 78 (by decide +kernel) (by decide +kernel), ⟨by decide +kernel, by decide +kernel⟩, by decide +kernel⟩, tb_in 1003 (by decide +kernel) (by decide +kernel), tb_in 33 (by decide +kernel) (by decide +kernel)⟩
theorem mv_X8_befalls : MV mX8_befalls 1 := ⟨⟨tb_in 1000 (by decide +kernel) (by decide +kernel), tb_in 78 (by decide +kernel) (by decide +kernel), ⟨by decide +kernel, by decide +kernel⟩, by decide +kernel⟩, tb_in 999 (by decide +kernel) (by decide +kernel), tb_in 32 (by decide +kernel) (by decide +kernel)⟩
theorem mv_X8_goesRound : MV mX8_goesRound 2 := ⟨⟨tb_in 1014 (by decide +kernel) (by decide +kernel), tb_in 78 (by decide +kernel) (by decide +kernel), ⟨by decide +kernel, by decide +kernel⟩, by decide +kernel⟩, tb_in 1013 (by decide +kernel) (by decide +kernel), tb_in 34 (by decide +kernel) (by decide +kernel)⟩
theorem mv_X8_goesBy : MV mX8_goesBy 1 := ⟨⟨tb_in 993 (by decide +kernel) (by decide +kernel), tb_in 78 (by decide +kernel) (by decide +kernel), ⟨by decide +kernel, by decide +kernel⟩, by decide +kernel⟩, tb_in 992 (by decide +kernel) (by decide +kernel), tb_in 31 (by decide +kernel) (by decide +kernel)⟩
theorem mv_X8_runs : MV mX8_runs 0 := ⟨⟨tb_in 989 (by decide +kernel) (by decide +kernel), tb_in 78 (by decide +kernel) (by decide +kernel), ⟨by decide +kernel, by decide +kernel⟩, by decide +kernel⟩, tb_in 988 (by decide +kernel) (by decide +kernel), tb_in 30 (by decide +kernel) (by decide +kernel)⟩
theorem mv_X8_runsTold : MV mX8_runsTold 0 := ⟨⟨tb_in 981 (by decide +kernel) (by decide +kernel), tb_in 78 (by decide +kernel) (by decide +kernel), ⟨by decide +kernel, by decide +kernel⟩, by decide +kernel⟩, tb_in 980 (by decide +kernel) (by decide +kernel), tb_in 28 (by decide +kernel) (by decide +kernel)⟩
theorem mv_X8_atOf : MV mX8_atOf 3 := ⟨⟨tb_in 977 (by decide +kernel) (by decide +kernel), tb_in 78 (by decide +kernel) (by decide +kernel), ⟨by decide +kernel, by decide +kernel⟩, by decide +kernel⟩, tb_in 976 (by decide +kernel) (by decide +kernel), tb_in 27 (by decide +kernel) (by decide +kernel)⟩
theorem mv_X8_at : MV mX8_at 3 := ⟨⟨tb_in 973 (by decide +kernel) (by decide +kernel), tb_in 78 (by decide +kernel) (by decide +kernel), ⟨by decide +kernel, by decide +kernel⟩, by decide +kernel⟩, tb_in 971 (by decide +kernel) (by decide +kernel), tb_in 972 (by decide +kernel) (by decide +kernel)⟩
theorem mv_X8_legXAt : MV mX8_legXAt 1 := ⟨⟨tb_in 1026 (by decide +kernel) (by decide +kernel), tb_in 78 (by decide +kernel) (by decide +kernel), ⟨by decide +kernel, by decide +kernel⟩, by decide +kernel⟩, tb_in 1025 (by decide +kernel) (by decide +kernel), tb_in 36 (by decide +kernel) (by decide +kernel)⟩
theorem mv_X8_legYAt : MV mX8_legYAt 1 := ⟨⟨tb_in 1030 (by decide +kernel) (by decide +kernel), tb_in 78 (by decide +kernel) (by decide +kernel), ⟨by decide +kernel, by decide +kernel⟩, by decide +kernel⟩, tb_in 1029 (by decide +kernel) (by decide +kernel), tb_in 37 (by decide +kernel) (by decide +kernel)⟩
theorem mv_X8_placeOf : MV mX8_placeOf 3 := ⟨⟨tb_in 1022 (by decide +kernel) (by decide +kernel), tb_in 78 (by decide +kernel) (by decide +kernel), ⟨by decide +kernel, by decide +kernel⟩, by decide +kernel⟩, tb_in 1021 (by decide +kernel) (by decide +kernel), tb_in 35 (by decide +kernel) (by decide +kernel)⟩
theorem mv_X8_place : MV mX8_place 3 := ⟨⟨tb_in 1018 (by decide +kernel) (by decide +kernel), tb_in 78 (by decide +kernel) (by decide +kernel), ⟨by decide +kernel, by decide +kernel⟩, by decide +kernel⟩, tb_in 1016 (by decide +kernel) (by decide +kernel), tb_in 1017 (by decide +kernel) (by decide +kernel)⟩
theorem mv_X8_areNow : MV mX8_areNow 3 := ⟨⟨tb_in 1043 (by decide +kernel) (by decide +kernel), tb_in 78 (by decide +kernel) (by decide +kernel), ⟨by decide +kernel, by decide +kernel⟩, by decide +kernel⟩, tb_in 1042 (by decide +kernel) (by decide +kernel), tb_in 39 (by decide +kernel) (by decide +kernel)⟩
theorem mv_X8_areOf : MV mX8_areOf 3 := ⟨⟨tb_in 1039 (by decide +kernel) (by decide +kernel), tb_in 78 (by decide +kernel) (by decide +kernel), ⟨by decide +kernel, by decide +kernel⟩, by decide +kernel⟩, tb_in 1038 (by decide +kernel) (by decide +kernel), tb_in 38 (by decide +kernel) (by decide +kernel)⟩
theorem mv_X8_are : MV mX8_are 3 := ⟨⟨tb_in 1035 (by decide +kernel) (by decide +kernel), tb_in 78 (by decide +kernel) (by decide +kernel), ⟨by decide +kernel, by decide +kernel⟩, by decide +kernel⟩, tb_in 1033 (by decide +kernel) (by decide +kernel), tb_in 1034 (by decide +kernel) (by decide +kernel)⟩
theorem mv_X8_pairsNow : MV mX8_pairsNow 2 := ⟨⟨tb_in 1055 (by decide +kernel) (by decide +kernel), tb_in 78 (by decide +kernel) (by decide +kernel), ⟨by decide +kernel, by decide +kernel⟩, by decide +kernel⟩, tb_in 1054 (by decide +kernel) (by decide +kernel), tb_in 41 (by decide +kernel) (by decide +kernel)⟩
theorem mv_X8_pairsOf : MV mX8_pairsOf 2 := ⟨⟨tb_in 1051 (by decide +kernel) (by decide +kernel), tb_in 78 (by decide +kernel) (by decide +kernel), ⟨by decide +kernel, by decide +kernel⟩, by decide +kernel⟩, tb_in 1050 (by decide +kernel) (by decide +kernel), tb_in 40 (by decide +kernel) (by decide +kernel)⟩
theorem mv_X8_pairs : MV mX8_pairs 2 := ⟨⟨tb_in 1047 (by decide +kernel) (by decide +kernel), tb_in 78 (by decide +kernel) (by decide +kernel), ⟨by decide +kernel, by decide +kernel⟩, by decide +kernel⟩, tb_in 1045 (by decide +kernel) (by decide +kernel), tb_in 1046 (by decide +kernel) (by decide +kernel)⟩
theorem mv_X8_closedNow : MV mX8_closedNow 1 := ⟨⟨tb_in 1067 (by decide +kernel) (by decide +kernel), tb_in 78 (by decide +kernel) (by decide +kernel), ⟨by decide +kernel, by decide +kernel⟩, by decide +kernel⟩, tb_in 1066 (by decide +kernel) (by decide +kernel), tb_in 43 (by decide +kernel) (by decide +kernel)⟩
theorem mv_X8_closedOf : MV mX8_closedOf 1 := ⟨⟨tb_in 1063 (by decide +kernel) (by decide +kernel), tb_in 78 (by decide +kernel) (by decide +kernel), ⟨by decide +kernel, by decide +kernel⟩, by decide +kernel⟩, tb_in 1062 (by decide +kernel) (by decide +kernel), tb_in 42 (by decide +kernel) (by decide +kernel)⟩
theorem mv_X8_closed : MV mX8_closed 1 := ⟨⟨tb_in 1059 (by decide +kernel) (by decide +kernel), tb_in 78 (by decide +kernel) (by decide +kernel), ⟨by decide +kernel, by decide +kernel⟩, by decide +kernel⟩, tb_in 1057 (by decide +kernel) (by decide +kernel), tb_in 1058 (by decide +kernel) (by decide +kernel)⟩
theorem mv_X8_isNew : MV mX8_isNew 1 := ⟨⟨tb_in 1079 (by decide +kernel) (by decide +kernel), tb_in 78 (by decide +kernel) (by decide +kernel), ⟨by decide +kernel, by decide +kernel⟩, by decide +kernel⟩, tb_in 1078 (by decide +kernel) (by decide +kernel), tb_in 45 (by decide +kernel) (by decide +kernel)⟩
theorem mv_X8_holesOf : MV mX8_holesOf 0 := ⟨⟨tb_in 1075 (by decide +kernel) (by decide +kernel), tb_in 78 (by decide +kernel) (by decide +kernel), ⟨by decide +kernel, by decide +kernel⟩, by decide +kernel⟩, tb_in 1074 (by decide +kernel) (by decide +kernel), tb_in 44 (by decide +kernel) (by decide +kernel)⟩
theorem mv_X8_holes : MV mX8_holes 0 := ⟨⟨tb_in 1071 (by decide +kernel) (by decide +kernel), tb_in 78 (by decide +kernel) (by decide +kernel), ⟨by decide +kernel, by decide +kernel⟩, by decide +kernel⟩, tb_in 1069 (by decide +kernel) (by decide +kernel), tb_in 1070 (by decide +kernel) (by decide +kernel)⟩
theorem mv_X8_ringedOf : MV mX8_ringedOf 1 := ⟨⟨tb_in 1087 (by decide +kernel) (by decide +kernel), tb_in 78 (by decide +kernel) (by decide +kernel), ⟨by decide +kernel, by decide +kernel⟩, by decide +kernel⟩, tb_in 1086 (by decide +kernel) (by decide +kernel), tb_in 46 (by decide +kernel) (by decide +kernel)⟩
theorem mv_X8_ringed : MV mX8_ringed 1 := ⟨⟨tb_in 1083 (by decide +kernel) (by decide +kernel), tb_in 78 (by decide +kernel) (by decide +kernel), ⟨by decide +kernel, by decide +kernel⟩, by decide +kernel⟩, tb_in 1081 (by decide +kernel) (by decide +kernel), tb_in 1082 (by decide +kernel) (by decide +kernel)⟩
theorem mv_X8_metOf : MV mX8_metOf 1 := ⟨⟨tb_in 1095 (by decide +kernel) (by decide +kernel), tb_in 78 (by decide +kernel) (by decide +kernel), ⟨by decide +kernel, by decide +kernel⟩, by decide +kernel⟩, tb_in 1094 (by decide +kernel) (by decide +kernel), tb_in 47 (by decide +kernel) (by decide +kernel)⟩
theorem mv_X8_meets : MV mX8_meets 1 := ⟨⟨tb_in 1091 (by decide +kernel) (by decide +kernel), tb_in 78 (by decide +kernel) (by decide +kernel), ⟨by decide +kernel, by decide +kernel⟩, by decide +kernel⟩, tb_in 1089 (by decide +kernel) (by decide +kernel), tb_in 1090 (by decide +kernel) (by decide +kernel)⟩
theorem mv_X8_othersNow : MV mX8_othersNow 3 := ⟨⟨tb_in 1107 (by decide +kernel) (by decide +kernel), tb_in 78 (by decide +kernel) (by decide +kernel), ⟨by decide +kernel, by decide +kernel⟩, by decide +kernel⟩, tb_in 1106 (by decide +kernel) (by decide +kernel), tb_in 49 (by decide +kernel) (by decide +kernel)⟩
theorem mv_X8_openOf : MV mX8_openOf 3 := ⟨⟨tb_in 1103 (by decide +kernel) (by decide +kernel), tb_in 78 (by decide +kernel) (by decide +kernel), ⟨by decide +kernel, by decide +kernel⟩, by decide +kernel⟩, tb_in 1102 (by decide +kernel) (by decide +kernel), tb_in 48 (by decide +kernel) (by decide +kernel)⟩
theorem mv_X8_open : MV mX8_open 3 := ⟨⟨tb_in 1099 (by decide +kernel) (by decide +kernel), tb_in 78 (by decide +kernel) (by decide +kernel), ⟨by decide +kernel, by decide +kernel⟩, by decide +kernel⟩, tb_in 1097 (by decide +kernel) (by decide +kernel), tb_in 1098 (by decide +kernel) (by decide +kernel)⟩
theorem mv_X8_standOf : MV mX8_standOf 3 := ⟨⟨tb_in 1115 (by decide +kernel) (by decide +kernel), tb_in 78 (by decide +kernel) (by decide +kernel), ⟨by decide +kernel, by decide +kernel⟩, by decide +kernel⟩, tb_in 1114 (by decide +kernel) (by decide +kernel), tb_in 50 (by decide +kernel) (by decide +kernel)⟩
theorem mv_X8_stand : MV mX8_stand 3 := ⟨⟨tb_in 1111 (by decide +kernel) (by decide +kernel), tb_in 78 (by decide +kernel) (by decide +kernel), ⟨by decide +kernel, by decide +kernel⟩, by decide +kernel⟩, tb_in 1109 (by decide +kernel) (by decide +kernel), tb_in 1110 (by decide +kernel) (by decide +kernel)⟩
theorem mv_X8_swaps : MV mX8_swaps 2 := ⟨⟨tb_in 1127 (by decide +kernel) (by decide +kernel), tb_in 78 (by decide +kernel) (by decide +kernel), ⟨by decide +kernel, by decide +kernel⟩, by decide +kernel⟩, tb_in 1126 (by decide +kernel) (by decide +kernel), tb_in 52 (by decide +kernel) (by decide +kernel)⟩
theorem mv_X8_swapOf : MV mX8_swapOf 1 := ⟨⟨tb_in 1123 (by decide +kernel) (by decide +kernel), tb_in 78 (by decide +kernel) (by decide +kernel), ⟨by decide +kernel, by decide +kernel⟩, by decide +kernel⟩, tb_in 1122 (by decide +kernel) (by decide +kernel), tb_in 51 (by decide +kernel) (by decide +kernel)⟩
theorem mv_X8_swap : MV mX8_swap 1 := ⟨⟨tb_in 1119 (by decide +kernel) (by decide +kernel), tb_in 78 (by decide +kernel) (by decide +kernel), ⟨by decide +kernel, by decide +kernel⟩, by decide +kernel⟩, tb_in 1117 (by decide +kernel) (by decide +kernel), tb_in 1118 (by decide +kernel) (by decide +kernel)⟩
theorem mv_X8_isQuiet : MV mX8_isQuiet 1 := ⟨⟨tb_in 1139 (by decide +kernel) (by decide +kernel), tb_in 78 (by decide +kernel) (by decide +kernel), ⟨by decide +kernel, by decide +kernel⟩, by decide +kernel⟩, tb_in 1138 (by decide +kernel) (by decide +kernel), tb_in 54 (by decide +kernel) (by decide +kernel)⟩
theorem mv_X8_dropBy : MV mX8_dropBy 0 := ⟨⟨tb_in 1135 (by decide +kernel) (by decide +kernel), tb_in 78 (by decide +kernel) (by decide +kernel), ⟨by decide +kernel, by decide +kernel⟩, by decide +kernel⟩, tb_in 1134 (by decide +kernel) (by decide +kernel), tb_in 53 (by decide +kernel) (by decide +kernel)⟩
theorem mv_X8_ofRow : MV mX8_ofRow 2 := ⟨⟨tb_in 1143 (by decide +kernel) (by decide +kernel), tb_in 78 (by decide +kernel) (by decide +kernel), ⟨by decide +kernel, by decide +kernel⟩, by decide +kernel⟩, tb_in 1142 (by decide +kernel) (by decide +kernel), tb_in 55 (by decide +kernel) (by decide +kernel)⟩
theorem mv_X8_drop : MV mX8_drop 1 := ⟨⟨tb_in 1131 (by decide +kernel) (by decide +kernel), tb_in 78 (by decide +kernel) (by decide +kernel), ⟨by decide +kernel, by decide +kernel⟩, by decide +kernel⟩, tb_in 1129 (by decide +kernel) (by decide +kernel), tb_in 1130 (by decide +kernel) (by decide +kernel)⟩
theorem mv_X8_seen : MV mX8_seen 4 := ⟨⟨tb_in 1147 (by decide +kernel) (by decide +kernel), tb_in 78 (by decide +kernel) (by decide +kernel), ⟨by decide +kernel, by decide +kernel⟩, by decide +kernel⟩, tb_in 1145 (by decide +kernel) (by decide +kernel), tb_in 1146 (by decide +kernel) (by decide +kernel)⟩
theorem mv_X8_forget : MV mX8_forget 0 := ⟨⟨tb_in 1151 (by decide +kernel) (by decide +kernel), tb_in 78 (by decide +kernel) (by decide +kernel), ⟨by decide +kernel, by decide +kernel⟩, by decide +kernel⟩, tb_in 1149 (by decide +kernel) (by decide +kernel), tb_in 1150 (by decide +kernel) (by decide +kernel)⟩
theorem mv_X8_isSeen : MV mX8_isSeen 0 := ⟨⟨tb_in 1163 (by decide +kernel) (by decide +kernel), tb_in 78 (by decide +kernel) (by decide +kernel), ⟨by decide +kernel, by decide +kernel⟩, by decide +kernel⟩, tb_in 1162 (by decide +kernel) (by decide +kernel), tb_in 57 (by decide +kernel) (by decide +kernel)⟩
theorem mv_X8_neverNow : MV mX8_neverNow 0 := ⟨⟨tb_in 1159 (by decide +kernel) (by decide +kernel), tb_in 78 (by decide +kernel) (by decide +kernel), ⟨by decide +kernel, by decide +kernel⟩, by decide +kernel⟩, tb_in 1158 (by decide +kernel) (by decide +kernel), tb_in 56 (by decide +kernel) (by decide +kernel)⟩
theorem mv_X8_never : MV mX8_never 0 := ⟨⟨tb_in 1155 (by decide +kernel) (by decide +kernel), tb_in 78 (by decide +kernel) (by decide +kernel), ⟨by decide +kernel, by decide +kernel⟩, by decide +kernel⟩, tb_in 1153 (by decide +kernel) (by decide +kernel), tb_in 1154 (by decide +kernel) (by decide +kernel)⟩
theorem mv_X8_wideBy : MV mX8_wideBy 1 := ⟨⟨tb_in 1171 (by decide +kernel) (by decide +kernel), tb_in 78 (by decide +kernel) (by decide +kernel), ⟨by decide +kernel, by decide +kernel⟩, by decide +kernel⟩, tb_in 1170 (by decide +kernel) (by decide +kernel), tb_in 58 (by decide +kernel) (by decide +kernel)⟩
theorem mv_X8_sortsBy : MV mX8_sortsBy 1 := ⟨⟨tb_in 1175 (by decide +kernel) (by decide +kernel), tb_in 78 (by decide +kernel) (by decide +kernel), ⟨by decide +kernel, by decide +kernel⟩, by decide +kernel⟩, tb_in 1174 (by decide +kernel) (by decide +kernel), tb_in 59 (by decide +kernel) (by decide +kernel)⟩
theorem mv_X8_was : MV mX8_was 2 := ⟨⟨tb_in 1167 (by decide +kernel) (by decide +kernel), tb_in 78 (by decide +kernel) (by decide +kernel), ⟨by decide +kernel, by decide +kernel⟩, by decide +kernel⟩, tb_in 1165 (by decide +kernel) (by decide +kernel), tb_in 1166 (by decide +kernel) (by decide +kernel)⟩
theorem mv_X8_askOf : MV mX8_askOf 1 := ⟨⟨tb_in 1183 (by decide +kernel) (by decide +kernel), tb_in 78 (by decide +kernel) (by decide +kernel), ⟨by decide +kernel, by decide +kernel⟩, by decide +kernel⟩, tb_in 1182 (by decide +kernel) (by decide +kernel), tb_in 60 (by decide +kernel) (by decide +kernel)⟩
theorem mv_X8_ask : MV mX8_ask 1 := ⟨⟨tb_in 1179 (by decide +kernel) (by decide +kernel), tb_in 78 (by decide +kernel) (by decide +kernel), ⟨by decide +kernel, by decide +kernel⟩, by decide +kernel⟩, tb_in 1177 (by decide +kernel) (by decide +kernel), tb_in 1178 (by decide +kernel) (by decide +kernel)⟩
theorem mv_X8_gossipOf : MV mX8_gossipOf 3 := ⟨⟨tb_in 1191 (by decide +kernel) (by decide +kernel), tb_in 78 (by decide +kernel) (by decide +kernel), ⟨by decide +kernel, by decide +kernel⟩, by decide +kernel⟩, tb_in 1190 (by decide +kernel) (by decide +kernel), tb_in 61 (by decide +kernel) (by decide +kernel)⟩
theorem mv_X8_gossip : MV mX8_gossip 3 := ⟨⟨tb_in 1187 (by decide +kernel) (by decide +kernel), tb_in 78 (by decide +kernel) (by decide +kernel), ⟨by decide +kernel, by decide +kernel⟩, by decide +kernel⟩, tb_in 1185 (by decide +kernel) (by decide +kernel), tb_in 1186 (by decide +kernel) (by decide +kernel)⟩
theorem mv_X8_ones : MV mX8_ones 1 := ⟨⟨tb_in 1211 (by decide +kernel) (by decide +kernel), tb_in 78 (by decide +kernel) (by decide +kernel), ⟨by decide +kernel, by decide +kernel⟩, by decide +kernel⟩, tb_in 1210 (by decide +kernel) (by decide +kernel), tb_in 63 (by decide +kernel) (by decide +kernel)⟩
theorem mv_X8_agesOf : MV mX8_agesOf 3 := ⟨⟨tb_in 1206 (by decide +kernel) (by decide +kernel), tb_in 78 (by decide +kernel) (by decide +kernel), ⟨by decide +kernel, by decide +kernel⟩, by decide +kernel⟩, tb_in 1205 (by decide +kernel) (by decide +kernel), tb_in 62 (by decide +kernel) (by decide +kernel)⟩
theorem mv_X8_ages : MV mX8_ages 3 := ⟨⟨tb_in 1202 (by decide +kernel) (by decide +kernel), tb_in 78 (by decide +kernel) (by decide +kernel), ⟨by decide +kernel, by decide +kernel⟩, by decide +kernel⟩, tb_in 1200 (by decide +kernel) (by decide +kernel), tb_in 1201 (by decide +kernel) (by decide +kernel)⟩
theorem mv_X8_marks : MV mX8_marks 1 := ⟨⟨tb_in 968 (by decide +kernel) (by decide +kernel), tb_in 78 (by decide +kernel) (by decide +kernel), ⟨by decide +kernel, by decide +kernel⟩, by decide +kernel⟩, tb_in 967 (by decide +kernel) (by decide +kernel), tb_in 26 (by decide +kernel) (by decide +kernel)⟩
theorem ms_X8_isSheet : MS mX8_isSheet 1 := ⟨⟨tb_in 964 (by decide +kernel) (by decide +kernel), tb_in 78 (by decide +kernel) (by decide +kernel), ⟨by decide +kernel, by decide +kernel⟩, by decide +kernel⟩, tb_in 963 (by decide +kernel) (by decide +kernel)⟩
theorem mv_X8_sheet : MV mX8_sheet 3 := ⟨⟨tb_in 1215 (by decide +kernel) (by decide +kernel), tb_in 78 (by decide +kernel) (by decide +kernel), ⟨by decide +kernel, by decide +kernel⟩, by decide +kernel⟩, tb_in 1213 (by decide +kernel) (by decide +kernel), tb_in 1214 (by decide +kernel) (by decide +kernel)⟩
theorem mv_X8_lose : MV mX8_lose 1 := ⟨⟨tb_in 1219 (by decide +kernel) (by decide +kernel), tb_in 78 (by decide +kernel) (by decide +kernel), ⟨by decide +kernel, by decide +kernel⟩, by decide +kernel⟩, tb_in 1217 (by decide +kernel) (by decide +kernel), tb_in 1218 (by decide +kernel) (by decide +kernel)⟩
theorem mv_X8_lacks : MV mX8_lacks 3 := ⟨⟨tb_in 1227 (by decide +kernel) (by decide +kernel), tb_in 78 (by decide +kernel) (by decide +kernel), ⟨by decide +kernel, by decide +kernel⟩, by decide +kernel⟩, tb_in 1226 (by decide +kernel) (by decide +kernel), tb_in 64 (by decide +kernel) (by decide +kernel)⟩
theorem mv_X8_keep : MV mX8_keep 3 := ⟨⟨tb_in 1231 (by decide +kernel) (by decide +kernel), tb_in 78 (by decide +kernel) (by decide +kernel), ⟨by decide +kernel, by decide +kernel⟩, by decide +kernel⟩, tb_in 1230 (by decide +kernel) (by decide +kernel), tb_in 65 (by decide +kernel) (by decide +kernel)⟩
theorem mv_X8_put : MV mX8_put 4 := ⟨⟨tb_in 1223 (by decide +kernel) (by decide +kernel), tb_in 78 (by decide +kernel) (by decide +kernel), ⟨by decide +kernel, by decide +kernel⟩, by decide +kernel⟩, tb_in 1221 (by decide +kernel) (by decide +kernel), tb_in 1222 (by decide +kernel) (by decide +kernel)⟩
theorem mv_X8_get : MV mX8_get 3 := ⟨⟨tb_in 1235 (by decide +kernel) (by decide +kernel), tb_in 78 (by decide +kernel) (by decide +kernel), ⟨by decide +kernel, by decide +kernel⟩, by decide +kernel⟩, tb_in 1233 (by decide +kernel) (by decide +kernel), tb_in 1234 (by decide +kernel) (by decide +kernel)⟩
theorem mv_X8_copy : MV mX8_copy 5 := ⟨⟨tb_in 1239 (by decide +kernel) (by decide +kernel), tb_in 78 (by decide +kernel) (by decide +kernel), ⟨by decide +kernel, by decide +kernel⟩, by decide +kernel⟩, tb_in 1237 (by decide +kernel) (by decide +kernel), tb_in 1238 (by decide +kernel) (by decide +kernel)⟩
theorem mv_X8_write : MV mX8_write 2 := ⟨⟨tb_in 1243 (by decide +kernel) (by decide +kernel), tb_in 78 (by decide +kernel) (by decide +kernel), ⟨by decide +kernel, by decide +kernel⟩, by decide +kernel⟩, tb_in 1241 (by decide +kernel) (by decide +kernel), tb_in 1242 (by decide +kernel) (by decide +kernel)⟩
theorem mv_X8_sumOf : MV mX8_sumOf 1 := ⟨⟨tb_in 1251 (by decide +kernel) (by decide +kernel), tb_in 78 (by decide +kernel) (by decide +kernel), ⟨by decide +kernel, by decide +kernel⟩, by decide +kernel⟩, tb_in 1250 (by decide +kernel) (by decide +kernel), tb_in 66 (by decide +kernel) (by decide +kernel)⟩
theorem mv_X8_count : MV mX8_count 1 := ⟨⟨tb_in 1247 (by decide +kernel) (by decide +kernel), tb_in 78 (by decide +kernel) (by decide +kernel), ⟨by decide +kernel, by decide +kernel⟩, by decide +kernel⟩, tb_in 1245 (by decide +kernel) (by decide +kernel), tb_in 1246 (by decide +kernel) (by decide +kernel)⟩
theorem mv_X8_dayDigest : MV mX8_dayDigest 3 := ⟨⟨tb_in 1266 (by decide +kernel) (by decide +kernel), tb_in 78 (by decide +kernel) (by decide +kernel), ⟨by decide +kernel, by decide +kernel⟩, by decide +kernel⟩, tb_in 1265 (by decide +kernel) (by decide +kernel), tb_in 68 (by decide +kernel) (by decide +kernel)⟩
theorem mv_X8_coupleDigest : MV mX8_coupleDigest 2 := ⟨⟨tb_in 1262 (by decide +kernel) (by decide +kernel), tb_in 78 (by decide +kernel) (by decide +kernel), ⟨by decide +kernel, by decide +kernel⟩, by decide +kernel⟩, tb_in 1261 (by decide +kernel) (by decide +kernel), tb_in 67 (by decide +kernel) (by decide +kernel)⟩
theorem mv_X8_digest : MV mX8_digest 0 := ⟨⟨tb_in 1255 (by decide +kernel) (by decide +kernel), tb_in 78 (by decide +kernel) (by decide +kernel), ⟨by decide +kernel, by decide +kernel⟩, by decide +kernel⟩, tb_in 1253 (by decide +kernel) (by decide +kernel), tb_in 1254 (by decide +kernel) (by decide +kernel)⟩
theorem ms_J6_bitCount_0f7a4 : MS mJ6_bitCount_0f7a4 1 := ⟨⟨tb_in 556 (by decide +kernel) (by decide +kernel), tb_in 80 (by decide +kernel) (by decide +kernel), ⟨by decide +kernel, by decide +kernel⟩, by decide +kernel⟩, tb_in 555 (by decide +kernel) (by decide +kernel)⟩
theorem ml_X7_72 : Cond.methodLink RX7 72 yX7_isWithin ∈ tb := tb_in 323 (by decide +kernel) (by decide +kernel)
theorem ml_X7_79 : Cond.methodLink RX7 79 yX7_hear ∈ tb := tb_in 326 (by decide +kernel) (by decide +kernel)
theorem ml_X7_82 : Cond.methodLink RX7 82 yX0_has ∈ tb := tb_in 350 (by decide +kernel) (by decide +kernel)
theorem ml_X7_98 : Cond.methodLink RX7 98 yX1_mayBe ∈ tb := tb_in 358 (by decide +kernel) (by decide +kernel)
theorem ml_X7_102 : Cond.methodLink RX7 102 yX1_isFull ∈ tb := tb_in 365 (by decide +kernel) (by decide +kernel)
theorem ml_X7_106 : Cond.methodLink RX7 106 yX1_tell ∈ tb := tb_in 369 (by decide +kernel) (by decide +kernel)
theorem ml_X7_113 : Cond.methodLink RX7 113 yX1_untell ∈ tb := tb_in 378 (by decide +kernel) (by decide +kernel)
theorem ml_X7_116 : Cond.methodLink RX7 116 yX7_isSheet ∈ tb := tb_in 386 (by decide +kernel) (by decide +kernel)
theorem ml_X7_123 : Cond.methodLink RX7 123 yX7_find ∈ tb := tb_in 389 (by decide +kernel) (by decide +kernel)
theorem ml_X7_131 : Cond.methodLink RX7 131 yX7_isDay ∈ tb := tb_in 397 (by decide +kernel) (by decide +kernel)
theorem ml_X7_134 : Cond.methodLink RX7 134 yX1_all ∈ tb := tb_in 398 (by decide +kernel) (by decide +kernel)
theorem ml_X7_138 : Cond.methodLink RX7 138 yX3_live ∈ tb := tb_in 402 (by decide +kernel) (by decide +kernel)
theorem ml_X7_161 : Cond.methodLink RX7 161 yX3_legX ∈ tb := tb_in 427 (by decide +kernel) (by decide +kernel)
theorem ml_X7_164 : Cond.methodLink RX7 164 yX3_legY ∈ tb := tb_in 431 (by decide +kernel) (by decide +kernel)
theorem ml_X7_167 : Cond.methodLink RX7 167 yX7_comeTo ∈ tb := tb_in 439 (by decide +kernel) (by decide +kernel)
theorem ml_X7_175 : Cond.methodLink RX7 175 yX3_against ∈ tb := tb_in 448 (by decide +kernel) (by decide +kernel)
theorem ml_X7_179 : Cond.methodLink RX7 179 yX6_closedPairs ∈ tb := tb_in 456 (by decide +kernel) (by decide +kernel)
theorem ml_X7_182 : Cond.methodLink RX7 182 yX6_closedBits ∈ tb := tb_in 473 (by decide +kernel) (by decide +kernel)
theorem ml_X7_185 : Cond.methodLink RX7 185 yX2_clear ∈ tb := tb_in 481 (by decide +kernel) (by decide +kernel)
theorem ml_X7_189 : Cond.methodLink RX7 189 yX2_mark ∈ tb := tb_in 485 (by decide +kernel) (by decide +kernel)
theorem ml_X7_194 : Cond.methodLink RX7 194 yX3_isClosed ∈ tb := tb_in 493 (by decide +kernel) (by decide +kernel)
theorem ml_X7_197 : Cond.methodLink RX7 197 yX6_firstMetBy ∈ tb := tb_in 498 (by decide +kernel) (by decide +kernel)
theorem ml_X7_200 : Cond.methodLink RX7 200 yX7_pick ∈ tb := tb_in 508 (by decide +kernel) (by decide +kernel)
theorem ml_X7_204 : Cond.methodLink RX7 204 yX0_setTo ∈ tb := tb_in 515 (by decide +kernel) (by decide +kernel)
theorem ml_X7_208 : Cond.methodLink RX7 208 yX6_othersWith ∈ tb := tb_in 522 (by decide +kernel) (by decide +kernel)
theorem ml_X7_213 : Cond.methodLink RX7 213 yX7_talkedOnceSwapped ∈ tb := tb_in 534 (by decide +kernel) (by decide +kernel)
theorem ml_X7_216 : Cond.methodLink RX7 216 yX7_fewestToDrop ∈ tb := tb_in 546 (by decide +kernel) (by decide +kernel)
theorem ml_X7_219 : Cond.methodLink RX7 219 yJ6_bitCount_0f7a4 ∈ tb := tb_in 554 (by decide +kernel) (by decide +kernel)
theorem ml_X7_224 : Cond.methodLink RX7 224 yX7_bitOf ∈ tb := tb_in 560 (by decide +kernel) (by decide +kernel)
theorem ml_X7_227 : Cond.methodLink RX7 227 yX5_isFull ∈ tb := tb_in 567 (by decide +kernel) (by decide +kernel)
theorem ml_X7_228 : Cond.methodLink RX7 228 yX5_note ∈ tb := tb_in 571 (by decide +kernel) (by decide +kernel)
theorem ml_X7_232 : Cond.methodLink RX7 232 yX5_comeOut ∈ tb := tb_in 584 (by decide +kernel) (by decide +kernel)
theorem ml_X7_236 : Cond.methodLink RX7 236 yX7_valuesThatFit ∈ tb := tb_in 596 (by decide +kernel) (by decide +kernel)
theorem ml_X7_240 : Cond.methodLink RX7 240 yX7_mostAlike ∈ tb := tb_in 604 (by decide +kernel) (by decide +kernel)
theorem ml_X7_246 : Cond.methodLink RX7 246 yX7_waysTalked ∈ tb := tb_in 620 (by decide +kernel) (by decide +kernel)
theorem ml_X7_250 : Cond.methodLink RX7 250 yX7_drawEvents ∈ tb := tb_in 640 (by decide +kernel) (by decide +kernel)
theorem ml_X7_253 : Cond.methodLink RX7 253 yX6_behind ∈ tb := tb_in 443 (by decide +kernel) (by decide +kernel)
theorem ml_X7_257 : Cond.methodLink RX7 257 yX7_isForm ∈ tb := tb_in 655 (by decide +kernel) (by decide +kernel)
theorem ml_X7_260 : Cond.methodLink RX7 260 yX4_renew ∈ tb := tb_in 658 (by decide +kernel) (by decide +kernel)
theorem ml_X7_263 : Cond.methodLink RX7 263 yX4_wrongWith ∈ tb := tb_in 670 (by decide +kernel) (by decide +kernel)
theorem ml_X7_266 : Cond.methodLink RX7 266 yX4_lowestBits ∈ tb := tb_in 674 (by decide +kernel) (by decide +kernel)
theorem ml_X7_272 : Cond.methodLink RX7 272 yX4_hasItems ∈ tb := tb_in 685 (by decide +kernel) (by decide +kernel)
theorem ml_X7_276 : Cond.methodLink RX7 276 arraycopyName ∈ tb := tb_in 689 (by decide +kernel) (by decide +kernel)
theorem ml_X7_282 : Cond.methodLink RX7 282 Lib.Math.min.name ∈ tb := tb_in 694 (by decide +kernel) (by decide +kernel)
theorem ml_X7_287 : Cond.methodLink RX7 287 yX7_pairs ∈ tb := tb_in 701 (by decide +kernel) (by decide +kernel)
theorem ml_X7_290 : Cond.methodLink RX7 290 yX7_closed ∈ tb := tb_in 702 (by decide +kernel) (by decide +kernel)
theorem ml_X7_293 : Cond.methodLink RX7 293 yX6_sighs ∈ tb := tb_in 703 (by decide +kernel) (by decide +kernel)
theorem ml_X7_300 : Cond.methodLink RX7 300 yX7_count ∈ tb := tb_in 712 (by decide +kernel) (by decide +kernel)
theorem ml_X7_303 : Cond.methodLink RX7 303 yX7_mix ∈ tb := tb_in 713 (by decide +kernel) (by decide +kernel)
theorem ml_X7_307 : Cond.methodLink RX7 307 yX7_fault ∈ tb := tb_in 717 (by decide +kernel) (by decide +kernel)
theorem ml_X7_310 : Cond.methodLink RX7 310 yX7_mixCouple ∈ tb := tb_in 718 (by decide +kernel) (by decide +kernel)
theorem ml_X7_314 : Cond.methodLink RX7 314 yX7_mixPairs ∈ tb := tb_in 734 (by decide +kernel) (by decide +kernel)
theorem ml_X7_318 : Cond.methodLink RX7 318 yX7_mixDays ∈ tb := tb_in 739 (by decide +kernel) (by decide +kernel)
theorem ml_X7_321 : Cond.methodLink RX7 321 yX7_holes ∈ tb := tb_in 743 (by decide +kernel) (by decide +kernel)
theorem ml_X7_324 : Cond.methodLink RX7 324 yX7_meets ∈ tb := tb_in 744 (by decide +kernel) (by decide +kernel)
theorem ml_X7_327 : Cond.methodLink RX7 327 yX7_swap ∈ tb := tb_in 745 (by decide +kernel) (by decide +kernel)
theorem ml_X7_330 : Cond.methodLink RX7 330 yX7_drop ∈ tb := tb_in 746 (by decide +kernel) (by decide +kernel)
theorem ml_X7_333 : Cond.methodLink RX7 333 yX7_never ∈ tb := tb_in 747 (by decide +kernel) (by decide +kernel)
theorem ml_X7_336 : Cond.methodLink RX7 336 yX7_gossip ∈ tb := tb_in 748 (by decide +kernel) (by decide +kernel)
theorem ml_X7_340 : Cond.methodLink RX7 340 yX7_ages ∈ tb := tb_in 749 (by decide +kernel) (by decide +kernel)
theorem ml_X7_345 : Cond.methodLink RX7 345 yX7_couple ∈ tb := tb_in 722 (by decide +kernel) (by decide +kernel)
theorem ml_X7_348 : Cond.methodLink RX7 348 yX7_mixOneDay ∈ tb := tb_in 723 (by decide +kernel) (by decide +kernel)
theorem ml_X7_352 : Cond.methodLink RX7 352 yX7_ringed ∈ tb := tb_in 729 (by decide +kernel) (by decide +kernel)
theorem ml_X7_355 : Cond.methodLink RX7 355 yX7_open ∈ tb := tb_in 730 (by decide +kernel) (by decide +kernel)
theorem ml_X7_358 : Cond.methodLink RX7 358 yX7_stand ∈ tb := tb_in 731 (by decide +kernel) (by decide +kernel)
theorem ml_X7_361 : Cond.methodLink RX7 361 yX7_was ∈ tb := tb_in 732 (by decide +kernel) (by decide +kernel)
theorem ml_X7_364 : Cond.methodLink RX7 364 yX7_ask ∈ tb := tb_in 733 (by decide +kernel) (by decide +kernel)
theorem ml_X7_367 : Cond.methodLink RX7 367 yX7_at ∈ tb := tb_in 727 (by decide +kernel) (by decide +kernel)
theorem ml_X7_370 : Cond.methodLink RX7 370 yX7_place ∈ tb := tb_in 728 (by decide +kernel) (by decide +kernel)
theorem ml_X7_373 : Cond.methodLink RX7 373 yX7_are ∈ tb := tb_in 738 (by decide +kernel) (by decide +kernel)
theorem ml_X7_376 : Cond.methodLink RX7 376 yX7_hearByte ∈ tb := tb_in 330 (by decide +kernel) (by decide +kernel)
theorem ml_X7_379 : Cond.methodLink RX7 379 yX0_swapSpreads ∈ tb := tb_in 538 (by decide +kernel) (by decide +kernel)
theorem ml_X7_382 : Cond.methodLink RX7 382 yX7_isQuietWithout ∈ tb := tb_in 550 (by decide +kernel) (by decide +kernel)
theorem ml_X7_385 : Cond.methodLink RX7 385 yX2_mostMarks ∈ tb := tb_in 608 (by decide +kernel) (by decide +kernel)
theorem ml_X7_388 : Cond.methodLink RX7 388 yX6_liveAgain ∈ tb := tb_in 624 (by decide +kernel) (by decide +kernel)
theorem ml_X7_391 : Cond.methodLink RX7 391 yX7_weight ∈ tb := tb_in 632 (by decide +kernel) (by decide +kernel)
theorem ml_X7_394 : Cond.methodLink RX7 394 yX7_nextLot ∈ tb := tb_in 644 (by decide +kernel) (by decide +kernel)
theorem ml_X7_397 : Cond.methodLink RX7 397 yX7_lotOf ∈ tb := tb_in 648 (by decide +kernel) (by decide +kernel)
theorem ml_X0_28 : Cond.methodLink RX0 28 arraycopyName ∈ tb := tb_in 519 (by decide +kernel) (by decide +kernel)
theorem ml_X1_39 : Cond.methodLink RX1 39 yX1_isFull ∈ tb := tb_in 373 (by decide +kernel) (by decide +kernel)
theorem ml_X2_25 : Cond.methodLink RX2 25 Lib.Math.max.name ∈ tb := tb_in 612 (by decide +kernel) (by decide +kernel)
theorem ml_X3_9 : Cond.methodLink RX3 9 yX3_begin ∈ tb := tb_in 406 (by decide +kernel) (by decide +kernel)
theorem ml_X3_31 : Cond.methodLink RX3 31 yX3_goRound ∈ tb := tb_in 410 (by decide +kernel) (by decide +kernel)
theorem ml_X3_41 : Cond.methodLink RX3 41 yX3_undergo ∈ tb := tb_in 414 (by decide +kernel) (by decide +kernel)
theorem ml_X3_85 : Cond.methodLink RX3 85 yX3_legX ∈ tb := tb_in 506 (by decide +kernel) (by decide +kernel)
theorem ml_X3_89 : Cond.methodLink RX3 89 yX3_legY ∈ tb := tb_in 507 (by decide +kernel) (by decide +kernel)
theorem ml_X3_92 : Cond.methodLink RX3 92 yX3_against ∈ tb := tb_in 468 (by decide +kernel) (by decide +kernel)
theorem ml_X5_28 : Cond.methodLink RX5 28 yX5_isFull ∈ tb := tb_in 575 (by decide +kernel) (by decide +kernel)
theorem ml_X5_32 : Cond.methodLink RX5 32 yX0_has ∈ tb := tb_in 588 (by decide +kernel) (by decide +kernel)
theorem ml_X5_38 : Cond.methodLink RX5 38 yX3_live ∈ tb := tb_in 589 (by decide +kernel) (by decide +kernel)
theorem ml_X5_44 : Cond.methodLink RX5 44 yX3_legX ∈ tb := tb_in 590 (by decide +kernel) (by decide +kernel)
theorem ml_X5_48 : Cond.methodLink RX5 48 yX3_legY ∈ tb := tb_in 591 (by decide +kernel) (by decide +kernel)
theorem ml_X6_25 : Cond.methodLink RX6 25 yX3_live ∈ tb := tb_in 447 (by decide +kernel) (by decide +kernel)
theorem ml_X6_29 : Cond.methodLink RX6 29 yX1_touch ∈ tb := tb_in 628 (by decide +kernel) (by decide +kernel)
theorem ml_X6_35 : Cond.methodLink RX6 35 yX3_isClosed ∈ tb := tb_in 460 (by decide +kernel) (by decide +kernel)
theorem ml_X6_39 : Cond.methodLink RX6 39 yX3_isAny ∈ tb := tb_in 464 (by decide +kernel) (by decide +kernel)
theorem ml_X6_46 : Cond.methodLink RX6 46 yX3_meetsLegOf ∈ tb := tb_in 502 (by decide +kernel) (by decide +kernel)
theorem ml_L_13 : Cond.methodLink RL 13 yX7_type ∈ tb := tb_in 319 (by decide +kernel) (by decide +kernel)
theorem ml_L_17 : Cond.methodLink RL 17 yX8_type ∈ tb := tb_in 893 (by decide +kernel) (by decide +kernel)
theorem ml_L_18 : Cond.methodLink RL 18 yX7_wipe ∈ tb := tb_in 334 (by decide +kernel) (by decide +kernel)
theorem ml_L_22 : Cond.methodLink RL 22 yX8_wipe ∈ tb := tb_in 900 (by decide +kernel) (by decide +kernel)
theorem ml_L_23 : Cond.methodLink RL 23 yX7_undo ∈ tb := tb_in 338 (by decide +kernel) (by decide +kernel)
theorem ml_L_26 : Cond.methodLink RL 26 yX8_undo ∈ tb := tb_in 904 (by decide +kernel) (by decide +kernel)
theorem ml_L_27 : Cond.methodLink RL 27 yX7_fault ∈ tb := tb_in 342 (by decide +kernel) (by decide +kernel)
theorem ml_L_30 : Cond.methodLink RL 30 yX8_fault ∈ tb := tb_in 908 (by decide +kernel) (by decide +kernel)
theorem ml_L_31 : Cond.methodLink RL 31 yX7_couple ∈ tb := tb_in 346 (by decide +kernel) (by decide +kernel)
theorem ml_L_35 : Cond.methodLink RL 35 yX8_couple ∈ tb := tb_in 928 (by decide +kernel) (by decide +kernel)
theorem ml_L_36 : Cond.methodLink RL 36 yX7_event ∈ tb := tb_in 354 (by decide +kernel) (by decide +kernel)
theorem ml_L_40 : Cond.methodLink RL 40 yX8_event ∈ tb := tb_in 944 (by decide +kernel) (by decide +kernel)
theorem ml_L_41 : Cond.methodLink RL 41 yX7_back ∈ tb := tb_in 374 (by decide +kernel) (by decide +kernel)
theorem ml_L_44 : Cond.methodLink RL 44 yX8_back ∈ tb := tb_in 954 (by decide +kernel) (by decide +kernel)
theorem ml_L_45 : Cond.methodLink RL 45 yX7_read ∈ tb := tb_in 382 (by decide +kernel) (by decide +kernel)
theorem ml_L_48 : Cond.methodLink RL 48 yX8_read ∈ tb := tb_in 958 (by decide +kernel) (by decide +kernel)
theorem ml_L_49 : Cond.methodLink RL 49 yX7_at ∈ tb := tb_in 393 (by decide +kernel) (by decide +kernel)
theorem ml_L_53 : Cond.methodLink RL 53 yX8_at ∈ tb := tb_in 970 (by decide +kernel) (by decide +kernel)
theorem ml_L_54 : Cond.methodLink RL 54 yX7_place ∈ tb := tb_in 422 (by decide +kernel) (by decide +kernel)
theorem ml_L_57 : Cond.methodLink RL 57 yX8_place ∈ tb := tb_in 1015 (by decide +kernel) (by decide +kernel)
theorem ml_L_58 : Cond.methodLink RL 58 yX7_are ∈ tb := tb_in 435 (by decide +kernel) (by decide +kernel)
theorem ml_L_61 : Cond.methodLink RL 61 yX8_are ∈ tb := tb_in 1032 (by decide +kernel) (by decide +kernel)
theorem ml_L_62 : Cond.methodLink RL 62 yX7_pairs ∈ tb := tb_in 452 (by decide +kernel) (by decide +kernel)
theorem ml_L_65 : Cond.methodLink RL 65 yX8_pairs ∈ tb := tb_in 1044 (by decide +kernel) (by decide +kernel)
theorem ml_L_66 : Cond.methodLink RL 66 yX7_closed ∈ tb := tb_in 469 (by decide +kernel) (by decide +kernel)
theorem ml_L_69 : Cond.methodLink RL 69 yX8_closed ∈ tb := tb_in 1056 (by decide +kernel) (by decide +kernel)
theorem ml_L_70 : Cond.methodLink RL 70 yX7_holes ∈ tb := tb_in 477 (by decide +kernel) (by decide +kernel)
theorem ml_L_73 : Cond.methodLink RL 73 yX8_holes ∈ tb := tb_in 1068 (by decide +kernel) (by decide +kernel)
theorem ml_L_74 : Cond.methodLink RL 74 yX7_ringed ∈ tb := tb_in 489 (by decide +kernel) (by decide +kernel)
theorem ml_L_77 : Cond.methodLink RL 77 yX8_ringed ∈ tb := tb_in 1080 (by decide +kernel) (by decide +kernel)
theorem ml_L_78 : Cond.methodLink RL 78 yX7_meets ∈ tb := tb_in 494 (by decide +kernel) (by decide +kernel)
theorem ml_L_81 : Cond.methodLink RL 81 yX8_meets ∈ tb := tb_in 1088 (by decide +kernel) (by decide +kernel)
theorem ml_L_82 : Cond.methodLink RL 82 yX7_open ∈ tb := tb_in 511 (by decide +kernel) (by decide +kernel)
theorem ml_L_85 : Cond.methodLink RL 85 yX8_open ∈ tb := tb_in 1096 (by decide +kernel) (by decide +kernel)
theorem ml_L_86 : Cond.methodLink RL 86 yX7_stand ∈ tb := tb_in 526 (by decide +kernel) (by decide +kernel)
theorem ml_L_89 : Cond.methodLink RL 89 yX8_stand ∈ tb := tb_in 1108 (by decide +kernel) (by decide +kernel)
theorem ml_L_90 : Cond.methodLink RL 90 yX7_swap ∈ tb := tb_in 530 (by decide +kernel) (by decide +kernel)
theorem ml_L_93 : Cond.methodLink RL 93 yX8_swap ∈ tb := tb_in 1116 (by decide +kernel) (by decide +kernel)
theorem ml_L_94 : Cond.methodLink RL 94 yX7_drop ∈ tb := tb_in 542 (by decide +kernel) (by decide +kernel)
theorem ml_L_97 : Cond.methodLink RL 97 yX8_drop ∈ tb := tb_in 1128 (by decide +kernel) (by decide +kernel)
theorem ml_L_98 : Cond.methodLink RL 98 yX7_seen ∈ tb := tb_in 563 (by decide +kernel) (by decide +kernel)
theorem ml_L_101 : Cond.methodLink RL 101 yX8_seen ∈ tb := tb_in 1144 (by decide +kernel) (by decide +kernel)
theorem ml_L_102 : Cond.methodLink RL 102 yX7_forget ∈ tb := tb_in 576 (by decide +kernel) (by decide +kernel)
theorem ml_L_105 : Cond.methodLink RL 105 yX8_forget ∈ tb := tb_in 1148 (by decide +kernel) (by decide +kernel)
theorem ml_L_106 : Cond.methodLink RL 106 yX7_never ∈ tb := tb_in 580 (by decide +kernel) (by decide +kernel)
theorem ml_L_109 : Cond.methodLink RL 109 yX8_never ∈ tb := tb_in 1152 (by decide +kernel) (by decide +kernel)
theorem ml_L_110 : Cond.methodLink RL 110 yX7_was ∈ tb := tb_in 592 (by decide +kernel) (by decide +kernel)
theorem ml_L_113 : Cond.methodLink RL 113 yX8_was ∈ tb := tb_in 1164 (by decide +kernel) (by decide +kernel)
theorem ml_L_114 : Cond.methodLink RL 114 yX7_ask ∈ tb := tb_in 600 (by decide +kernel) (by decide +kernel)
theorem ml_L_117 : Cond.methodLink RL 117 yX8_ask ∈ tb := tb_in 1176 (by decide +kernel) (by decide +kernel)
theorem ml_L_118 : Cond.methodLink RL 118 yX7_gossip ∈ tb := tb_in 615 (by decide +kernel) (by decide +kernel)
theorem ml_L_122 : Cond.methodLink RL 122 yX8_gossip ∈ tb := tb_in 1184 (by decide +kernel) (by decide +kernel)
theorem ml_L_123 : Cond.methodLink RL 123 yX7_ages ∈ tb := tb_in 636 (by decide +kernel) (by decide +kernel)
theorem ml_L_126 : Cond.methodLink RL 126 yX8_ages ∈ tb := tb_in 1199 (by decide +kernel) (by decide +kernel)
theorem ml_L_127 : Cond.methodLink RL 127 yX7_sheet ∈ tb := tb_in 651 (by decide +kernel) (by decide +kernel)
theorem ml_L_130 : Cond.methodLink RL 130 yX8_sheet ∈ tb := tb_in 1212 (by decide +kernel) (by decide +kernel)
theorem ml_L_131 : Cond.methodLink RL 131 yX7_lose ∈ tb := tb_in 662 (by decide +kernel) (by decide +kernel)
theorem ml_L_134 : Cond.methodLink RL 134 yX8_lose ∈ tb := tb_in 1216 (by decide +kernel) (by decide +kernel)
theorem ml_L_135 : Cond.methodLink RL 135 yX7_put ∈ tb := tb_in 666 (by decide +kernel) (by decide +kernel)
theorem ml_L_138 : Cond.methodLink RL 138 yX8_put ∈ tb := tb_in 1220 (by decide +kernel) (by decide +kernel)
theorem ml_L_139 : Cond.methodLink RL 139 yX7_get ∈ tb := tb_in 677 (by decide +kernel) (by decide +kernel)
theorem ml_L_142 : Cond.methodLink RL 142 yX8_get ∈ tb := tb_in 1232 (by decide +kernel) (by decide +kernel)
theorem ml_L_143 : Cond.methodLink RL 143 yX7_copy ∈ tb := tb_in 681 (by decide +kernel) (by decide +kernel)
theorem ml_L_147 : Cond.methodLink RL 147 yX8_copy ∈ tb := tb_in 1236 (by decide +kernel) (by decide +kernel)
theorem ml_L_148 : Cond.methodLink RL 148 yX7_write ∈ tb := tb_in 690 (by decide +kernel) (by decide +kernel)
theorem ml_L_151 : Cond.methodLink RL 151 yX8_write ∈ tb := tb_in 1240 (by decide +kernel) (by decide +kernel)
theorem ml_L_152 : Cond.methodLink RL 152 yX7_count ∈ tb := tb_in 697 (by decide +kernel) (by decide +kernel)
theorem ml_L_155 : Cond.methodLink RL 155 yX8_count ∈ tb := tb_in 1244 (by decide +kernel) (by decide +kernel)
theorem ml_L_156 : Cond.methodLink RL 156 yX7_digest ∈ tb := tb_in 707 (by decide +kernel) (by decide +kernel)
theorem ml_L_160 : Cond.methodLink RL 160 yX8_digest ∈ tb := tb_in 1252 (by decide +kernel) (by decide +kernel)
theorem ml_X8_124 : Cond.methodLink RX8 124 yX8_in ∈ tb := tb_in 897 (by decide +kernel) (by decide +kernel)
theorem ml_X8_132 : Cond.methodLink RX8 132 yX8_byteAt ∈ tb := tb_in 920 (by decide +kernel) (by decide +kernel)
theorem ml_X8_136 : Cond.methodLink RX8 136 yX8_sortAt ∈ tb := tb_in 924 (by decide +kernel) (by decide +kernel)
theorem ml_X8_142 : Cond.methodLink RX8 142 yX8_readsCouple ∈ tb := tb_in 916 (by decide +kernel) (by decide +kernel)
theorem ml_X8_146 : Cond.methodLink RX8 146 yX8_faultNow ∈ tb := tb_in 912 (by decide +kernel) (by decide +kernel)
theorem ml_X8_150 : Cond.methodLink RX8 150 yX8_reads ∈ tb := tb_in 936 (by decide +kernel) (by decide +kernel)
theorem ml_X8_153 : Cond.methodLink RX8 153 yX8_isCouple ∈ tb := tb_in 932 (by decide +kernel) (by decide +kernel)
theorem ml_X8_157 : Cond.methodLink RX8 157 yX8_coupleOf ∈ tb := tb_in 940 (by decide +kernel) (by decide +kernel)
theorem ml_X8_160 : Cond.methodLink RX8 160 yX8_isDay ∈ tb := tb_in 948 (by decide +kernel) (by decide +kernel)
theorem ml_X8_163 : Cond.methodLink RX8 163 yX8_isEight ∈ tb := tb_in 951 (by decide +kernel) (by decide +kernel)
theorem ml_X8_169 : Cond.methodLink RX8 169 yX8_isSheet ∈ tb := tb_in 962 (by decide +kernel) (by decide +kernel)
theorem ml_X8_172 : Cond.methodLink RX8 172 yX8_marks ∈ tb := tb_in 965 (by decide +kernel) (by decide +kernel)
theorem ml_X8_175 : Cond.methodLink RX8 175 yX8_event ∈ tb := tb_in 969 (by decide +kernel) (by decide +kernel)
theorem ml_X8_185 : Cond.methodLink RX8 185 yX8_legX ∈ tb := tb_in 1005 (by decide +kernel) (by decide +kernel)
theorem ml_X8_189 : Cond.methodLink RX8 189 yX8_legY ∈ tb := tb_in 1008 (by decide +kernel) (by decide +kernel)
theorem ml_X8_192 : Cond.methodLink RX8 192 yX8_changesOver ∈ tb := tb_in 1001 (by decide +kernel) (by decide +kernel)
theorem ml_X8_199 : Cond.methodLink RX8 199 yX8_isIn ∈ tb := tb_in 994 (by decide +kernel) (by decide +kernel)
theorem ml_X8_203 : Cond.methodLink RX8 203 yX8_befalls ∈ tb := tb_in 997 (by decide +kernel) (by decide +kernel)
theorem ml_X8_206 : Cond.methodLink RX8 206 yX8_goesRound ∈ tb := tb_in 1011 (by decide +kernel) (by decide +kernel)
theorem ml_X8_210 : Cond.methodLink RX8 210 yX8_goesBy ∈ tb := tb_in 990 (by decide +kernel) (by decide +kernel)
theorem ml_X8_213 : Cond.methodLink RX8 213 yX8_asTold ∈ tb := tb_in 982 (by decide +kernel) (by decide +kernel)
theorem ml_X8_216 : Cond.methodLink RX8 216 yX8_runs ∈ tb := tb_in 986 (by decide +kernel) (by decide +kernel)
theorem ml_X8_219 : Cond.methodLink RX8 219 yX8_runsTold ∈ tb := tb_in 978 (by decide +kernel) (by decide +kernel)
theorem ml_X8_222 : Cond.methodLink RX8 222 yX8_atOf ∈ tb := tb_in 974 (by decide +kernel) (by decide +kernel)
theorem ml_X8_225 : Cond.methodLink RX8 225 yX8_legXAt ∈ tb := tb_in 1023 (by decide +kernel) (by decide +kernel)
theorem ml_X8_228 : Cond.methodLink RX8 228 yX8_legYAt ∈ tb := tb_in 1027 (by decide +kernel) (by decide +kernel)
theorem ml_X8_231 : Cond.methodLink RX8 231 yX8_placeOf ∈ tb := tb_in 1019 (by decide +kernel) (by decide +kernel)
theorem ml_X8_235 : Cond.methodLink RX8 235 yX8_areNow ∈ tb := tb_in 1040 (by decide +kernel) (by decide +kernel)
theorem ml_X8_238 : Cond.methodLink RX8 238 yX8_areOf ∈ tb := tb_in 1036 (by decide +kernel) (by decide +kernel)
theorem ml_X8_241 : Cond.methodLink RX8 241 yX8_pairsNow ∈ tb := tb_in 1052 (by decide +kernel) (by decide +kernel)
theorem ml_X8_244 : Cond.methodLink RX8 244 yX8_pairsOf ∈ tb := tb_in 1048 (by decide +kernel) (by decide +kernel)
theorem ml_X8_247 : Cond.methodLink RX8 247 yX8_closedNow ∈ tb := tb_in 1064 (by decide +kernel) (by decide +kernel)
theorem ml_X8_250 : Cond.methodLink RX8 250 yX8_closedOf ∈ tb := tb_in 1060 (by decide +kernel) (by decide +kernel)
theorem ml_X8_253 : Cond.methodLink RX8 253 yX8_isNew ∈ tb := tb_in 1076 (by decide +kernel) (by decide +kernel)
theorem ml_X8_256 : Cond.methodLink RX8 256 yX8_holesOf ∈ tb := tb_in 1072 (by decide +kernel) (by decide +kernel)
theorem ml_X8_259 : Cond.methodLink RX8 259 yX8_ringedOf ∈ tb := tb_in 1084 (by decide +kernel) (by decide +kernel)
theorem ml_X8_262 : Cond.methodLink RX8 262 yX8_metOf ∈ tb := tb_in 1092 (by decide +kernel) (by decide +kernel)
theorem ml_X8_265 : Cond.methodLink RX8 265 yX8_othersNow ∈ tb := tb_in 1104 (by decide +kernel) (by decide +kernel)
theorem ml_X8_269 : Cond.methodLink RX8 269 yX8_openOf ∈ tb := tb_in 1100 (by decide +kernel) (by decide +kernel)
theorem ml_X8_272 : Cond.methodLink RX8 272 yX8_standOf ∈ tb := tb_in 1112 (by decide +kernel) (by decide +kernel)
theorem ml_X8_275 : Cond.methodLink RX8 275 yX8_swaps ∈ tb := tb_in 1124 (by decide +kernel) (by decide +kernel)
theorem ml_X8_278 : Cond.methodLink RX8 278 yX8_swapOf ∈ tb := tb_in 1120 (by decide +kernel) (by decide +kernel)
theorem ml_X8_281 : Cond.methodLink RX8 281 yX8_isQuiet ∈ tb := tb_in 1136 (by decide +kernel) (by decide +kernel)
theorem ml_X8_284 : Cond.methodLink RX8 284 yX8_dropBy ∈ tb := tb_in 1132 (by decide +kernel) (by decide +kernel)
theorem ml_X8_287 : Cond.methodLink RX8 287 yX8_ofRow ∈ tb := tb_in 1140 (by decide +kernel) (by decide +kernel)
theorem ml_X8_293 : Cond.methodLink RX8 293 yX8_isSeen ∈ tb := tb_in 1160 (by decide +kernel) (by decide +kernel)
theorem ml_X8_297 : Cond.methodLink RX8 297 yX8_neverNow ∈ tb := tb_in 1156 (by decide +kernel) (by decide +kernel)
theorem ml_X8_300 : Cond.methodLink RX8 300 yX8_wideBy ∈ tb := tb_in 1168 (by decide +kernel) (by decide +kernel)
theorem ml_X8_303 : Cond.methodLink RX8 303 yX8_sortsBy ∈ tb := tb_in 1172 (by decide +kernel) (by decide +kernel)
theorem ml_X8_306 : Cond.methodLink RX8 306 yX8_askOf ∈ tb := tb_in 1180 (by decide +kernel) (by decide +kernel)
theorem ml_X8_309 : Cond.methodLink RX8 309 yX8_lowest ∈ tb := tb_in 1192 (by decide +kernel) (by decide +kernel)
theorem ml_X8_313 : Cond.methodLink RX8 313 yX8_gossipOf ∈ tb := tb_in 1188 (by decide +kernel) (by decide +kernel)
theorem ml_X8_317 : Cond.methodLink RX8 317 yX8_no ∈ tb := tb_in 1195 (by decide +kernel) (by decide +kernel)
theorem ml_X8_322 : Cond.methodLink RX8 322 yX8_ones ∈ tb := tb_in 1208 (by decide +kernel) (by decide +kernel)
theorem ml_X8_325 : Cond.methodLink RX8 325 yX8_agesOf ∈ tb := tb_in 1203 (by decide +kernel) (by decide +kernel)
theorem ml_X8_331 : Cond.methodLink RX8 331 yX8_lacks ∈ tb := tb_in 1224 (by decide +kernel) (by decide +kernel)
theorem ml_X8_334 : Cond.methodLink RX8 334 yX8_keep ∈ tb := tb_in 1228 (by decide +kernel) (by decide +kernel)
theorem ml_X8_338 : Cond.methodLink RX8 338 yX8_sumOf ∈ tb := tb_in 1248 (by decide +kernel) (by decide +kernel)
theorem ml_X8_343 : Cond.methodLink RX8 343 yX8_dayDigest ∈ tb := tb_in 1263 (by decide +kernel) (by decide +kernel)
theorem ml_X8_349 : Cond.methodLink RX8 349 yX8_count ∈ tb := tb_in 1258 (by decide +kernel) (by decide +kernel)
theorem ml_X8_352 : Cond.methodLink RX8 352 yX8_coupleDigest ∈ tb := tb_in 1259 (by decide +kernel) (by decide +kernel)
theorem ml_X1_27 : Cond.methodLinkNest RX1 27 yX7_isWithin "CompassMarriage" ∈ tb := tb_in 361 (by decide +kernel) (by decide +kernel)
theorem ml_X1_31 : Cond.methodLinkNest RX1 31 yX7_isDay "CompassMarriage" ∈ tb := tb_in 362 (by decide +kernel) (by decide +kernel)
theorem fn_X3_79 : Cond.fieldLinkNest RX3 79 "CompassMarriage" "STEP_X" "[I" "CompassMarriage" ∈ tb := tb_in 418 (by decide +kernel) (by decide +kernel)
theorem fn_X3_82 : Cond.fieldLinkNest RX3 82 "CompassMarriage" "STEP_Y" "[I" "CompassMarriage" ∈ tb := tb_in 420 (by decide +kernel) (by decide +kernel)
theorem ct_X7_156 : Cond.constant RX7 156 (-2147483648) ∈ tb := tb_in 426 (by decide +kernel) (by decide +kernel)
theorem ct_X7_400 : Cond.constant RX7 400 (1103515245) ∈ tb := tb_in 647 (by decide +kernel) (by decide +kernel)
theorem ct_X8_234 : Cond.constant RX8 234 (-2147483648) ∈ tb := tb_in 1031 (by decide +kernel) (by decide +kernel)
theorem ct_X8_321 : Cond.constant RX8 321 (1103515245) ∈ tb := tb_in 1207 (by decide +kernel) (by decide +kernel)
theorem ct_J6_265 : Cond.constant RJ6 265 (1431655765) ∈ tb := tb_in 557 (by decide +kernel) (by decide +kernel)
theorem ct_J6_266 : Cond.constant RJ6 266 (858993459) ∈ tb := tb_in 558 (by decide +kernel) (by decide +kernel)
theorem ct_J6_267 : Cond.constant RJ6 267 (252645135) ∈ tb := tb_in 559 (by decide +kernel) (by decide +kernel)
theorem ct_X7_244 : Cond.constantLong RX7 244 (-9223372036854775806) ∈ tb := tb_in 619 (by decide +kernel) (by decide +kernel)
theorem ct_X7_298 : Cond.constantLong RX7 298 (17) ∈ tb := tb_in 711 (by decide +kernel) (by decide +kernel)
theorem ct_X7_343 : Cond.constantLong RX7 343 (31) ∈ tb := tb_in 716 (by decide +kernel) (by decide +kernel)
theorem ct_X8_122 : Cond.constantLong RX8 122 (-9223372036854775808) ∈ tb := tb_in 1198 (by decide +kernel) (by decide +kernel)
theorem ct_X8_341 : Cond.constantLong RX8 341 (31) ∈ tb := tb_in 1257 (by decide +kernel) (by decide +kernel)
theorem ct_X8_347 : Cond.constantLong RX8 347 (17) ∈ tb := tb_in 1256 (by decide +kernel) (by decide +kernel)
theorem mw_max1 : Cond.static Lib.Math.max.name ∈ tb := tb_in 613 (by decide +kernel) (by decide +kernel)
theorem mw_max3 : Cond.code Lib.Math.max.name Lib.Math.max.code 2 (some .int) ∈ tb := tb_in 614 (by decide +kernel) (by decide +kernel)
theorem mw_min1 : Cond.static Lib.Math.min.name ∈ tb := tb_in 695 (by decide +kernel) (by decide +kernel)
theorem mw_min3 : Cond.code Lib.Math.min.name Lib.Math.min.code 2 (some .int) ∈ tb := tb_in 696 (by decide +kernel) (by decide +kernel)
theorem mw_math : Cond.initialized "java/lang/Math" ∈ tb := tb_in 81 (by decide +kernel) (by decide +kernel)
theorem mw_ac1 : Cond.native arraycopyName ∈ tb := tb_in 521 (by decide +kernel) (by decide +kernel)
theorem mw_ac2 : Cond.static arraycopyName ∈ tb := tb_in 520 (by decide +kernel) (by decide +kernel)
theorem mw_sys : Cond.initialized "java/lang/System" ∈ tb := tb_in 79 (by decide +kernel) (by decide +kernel)
