def FU : Nat := 100000
def imax (x y : Int32) : Int32 := if x < y then y else x
def imin (x y : Int32) : Int32 := if y < x then y else x
abbrev mX8_feed : Mth := (yX8_feed, cX8_feed, 6, some .int)
abbrev mX8_back : Mth := (yX8_back, cX8_back, 2, some .int)
abbrev mX8_read : Mth := (yX8_read, cX8_read, 3, some .int)
abbrev mX8_place : Mth := (yX8_place, cX8_place, 1, some .int)
abbrev mX8_inn : Mth := (yX8_inn, cX8_inn, 5, some .int)
abbrev mX8_room : Mth := (yX8_room, cX8_room, 4, some .int)
abbrev mX8_caravan : Mth := (yX8_caravan, cX8_caravan, 10, some .int)
abbrev mX8_bale : Mth := (yX8_bale, cX8_bale, 3, some .int)
abbrev mX8_shut : Mth := (yX8_shut, cX8_shut, 3, some .int)
abbrev mX8_look : Mth := (yX8_look, cX8_look, 4, some .int)
abbrev mX8_state : Mth := (yX8_state, cX8_state, 5, some .int)
abbrev mX8_house : Mth := (yX8_house, cX8_house, 5, some .int)
abbrev mX8_full : Mth := (yX8_full, cX8_full, 5, some .int)
abbrev mX8_comes : Mth := (yX8_comes, cX8_comes, 4, some .int)
abbrev mX8_barred : Mth := (yX8_barred, cX8_barred, 4, some .int)
abbrev mX8_could : Mth := (yX8_could, cX8_could, 7, some .int)
abbrev mX8_sealed : Mth := (yX8_sealed, cX8_sealed, 5, some .int)
abbrev mX8_tolls : Mth := (yX8_tolls, cX8_tolls, 4, some .int)
abbrev mX8_crowded : Mth := (yX8_crowded, cX8_crowded, 5, some .int)
abbrev mX8_count : Mth := (yX8_count, cX8_count, 2, some .int)
abbrev mX8_isWithin : Mth := (yX8_isWithin, cX8_isWithin, 3, some .boolean)
abbrev mX8_isDay : Mth := (yX8_isDay, cX8_isDay, 1, some .boolean)
abbrev mX8_isLord : Mth := (yX8_isLord, cX8_isLord, 1, some .boolean)
abbrev mX7_append : Mth := (yX7_append, cX7_append, 3, none)
abbrev mX7_at : Mth := (yX7_at, cX7_at, 2, some .int)
abbrev mX2_hasInn : Mth := (yX2_hasInn, cX2_hasInn, 2, some .boolean)
abbrev mX2_hasCaravan : Mth := (yX2_hasCaravan, cX2_hasCaravan, 2, some .boolean)
abbrev mX2_hasBale : Mth := (yX2_hasBale, cX2_hasBale, 2, some .boolean)
abbrev mX0_isKnown : Mth := (yX0_isKnown, cX0_isKnown, 2, some .boolean)
abbrev mX0_addShut : Mth := (yX0_addShut, cX0_addShut, 4, some .int)
abbrev mX0_addLook : Mth := (yX0_addLook, cX0_addLook, 4, some .int)
abbrev mX0_add : Mth := (yX0_add, cX0_add, 5, some .int)
abbrev mX0_isShut : Mth := (yX0_isShut, cX0_isShut, 4, some .boolean)
abbrev mX0_shutsAmong : Mth := (yX0_shutsAmong, cX0_shutsAmong, 4, some .int)
abbrev mX0_firstBroken : Mth := (yX0_firstBroken, cX0_firstBroken, 5, some .int)
abbrev mX0_firstSuspectDay : Mth := (yX0_firstSuspectDay, cX0_firstSuspectDay, 7, some .int)
abbrev mX6_rewind : Mth := (yX6_rewind, cX6_rewind, 1, none)
abbrev mX6_advance : Mth := (yX6_advance, cX6_advance, 2, none)
abbrev mX6_takeWord : Mth := (yX6_takeWord, cX6_takeWord, 1, none)
abbrev mX6_takeInt : Mth := (yX6_takeInt, cX6_takeInt, 1, none)
abbrev mX6_takeSign : Mth := (yX6_takeSign, cX6_takeSign, 3, none)
abbrev mX6_isBlank : Mth := (yX6_isBlank, cX6_isBlank, 1, some .boolean)
abbrev mX6_pairToken : Mth := (yX6_pairToken, cX6_pairToken, 1, some .int)
abbrev mX6_signToken : Mth := (yX6_signToken, cX6_signToken, 1, some .int)
abbrev mX6_wordToken : Mth := (yX6_wordToken, cX6_wordToken, 6, some .int)
abbrev mX5_clear : Mth := (yX5_clear, cX5_clear, 1, none)
abbrev mX5_beginRule : Mth := (yX5_beginRule, cX5_beginRule, 2, none)
abbrev mX5_setLord : Mth := (yX5_setLord, cX5_setLord, 2, none)
abbrev mX5_isInBar : Mth := (yX5_isInBar, cX5_isInBar, 1, some .boolean)
abbrev mX5_beginCondition : Mth := (yX5_beginCondition, cX5_beginCondition, 1, none)
abbrev mX5_endRule : Mth := (yX5_endRule, cX5_endRule, 1, none)
abbrev mX5_write : Mth := (yX5_write, cX5_write, 2, none)
abbrev mX5_firstThatHolds : Mth := (yX5_firstThatHolds, cX5_firstThatHolds, 5, some .int)
abbrev mX5_value : Mth := (yX5_value, cX5_value, 5, some .int)
abbrev mX5_run : Mth := (yX5_run, cX5_run, 8, some .int)
abbrev mX5_apply : Mth := (yX5_apply, cX5_apply, 3, some .int)
abbrev mX4_parse : Mth := (yX4_parse, cX4_parse, 4, some .int)
abbrev mX4_begin : Mth := (yX4_begin, cX4_begin, 2, none)
abbrev mX4_blame : Mth := (yX4_blame, cX4_blame, 3, none)
abbrev mX4_mayFollow : Mth := (yX4_mayFollow, cX4_mayFollow, 2, some .boolean)
abbrev mX4_mayFollowUnit : Mth := (yX4_mayFollowUnit, cX4_mayFollowUnit, 2, some .boolean)
abbrev mX4_isTooMuch : Mth := (yX4_isTooMuch, cX4_isTooMuch, 2, some .boolean)
abbrev mX4_take : Mth := (yX4_take, cX4_take, 2, none)
abbrev mX4_takeLord : Mth := (yX4_takeLord, cX4_takeLord, 2, none)
abbrev mX4_takeIf : Mth := (yX4_takeIf, cX4_takeIf, 2, none)
abbrev mX4_takeUnit : Mth := (yX4_takeUnit, cX4_takeUnit, 2, none)
abbrev mX4_takeBehindUnit : Mth := (yX4_takeBehindUnit, cX4_takeBehindUnit, 2, none)
abbrev mX4_takeOperator : Mth := (yX4_takeOperator, cX4_takeOperator, 2, none)
abbrev mX4_hold : Mth := (yX4_hold, cX4_hold, 2, none)
abbrev mX4_release : Mth := (yX4_release, cX4_release, 3, none)
abbrev mX4_rank : Mth := (yX4_rank, cX4_rank, 1, some .int)
abbrev mX3_open : Mth := (yX3_open, cX3_open, 2, none)
abbrev mX3_admit : Mth := (yX3_admit, cX3_admit, 4, none)
abbrev mX3_lay : Mth := (yX3_lay, cX3_lay, 5, none)
abbrev mX3_keepTrial : Mth := (yX3_keepTrial, cX3_keepTrial, 2, none)
abbrev mX3_fitsAll : Mth := (yX3_fitsAll, cX3_fitsAll, 3, some .boolean)
abbrev mX3_fits : Mth := (yX3_fits, cX3_fits, 5, some .boolean)
abbrev mX3_isOpenTo : Mth := (yX3_isOpenTo, cX3_isOpenTo, 3, some .boolean)
abbrev mX1_forget : Mth := (yX1_forget, cX1_forget, 1, none)
abbrev mX1_walk : Mth := (yX1_walk, cX1_walk, 5, none)
abbrev mX1_morning : Mth := (yX1_morning, cX1_morning, 5, none)
abbrev mX1_wake : Mth := (yX1_wake, cX1_wake, 4, none)
abbrev mX1_goOn : Mth := (yX1_goOn, cX1_goOn, 8, none)
abbrev mX1_pay : Mth := (yX1_pay, cX1_pay, 5, none)
abbrev mX1_setVars : Mth := (yX1_setVars, cX1_setVars, 4, none)
abbrev mX1_evening : Mth := (yX1_evening, cX1_evening, 4, none)
abbrev mX1_host : Mth := (yX1_host, cX1_host, 6, none)
abbrev mX1_isOutside : Mth := (yX1_isOutside, cX1_isOutside, 3, some .boolean)
abbrev mX1_guests : Mth := (yX1_guests, cX1_guests, 6, some .int)
abbrev mX1_beastsInStalls : Mth := (yX1_beastsInStalls, cX1_beastsInStalls, 5, some .int)
abbrev mX1_guardsInRoom : Mth := (yX1_guardsInRoom, cX1_guardsInRoom, 6, some .int)
abbrev mX1_companions : Mth := (yX1_companions, cX1_companions, 6, some .int)
abbrev mX9_feed : Mth := (yX9_feed, cX9_feed, 6, some .int)
abbrev mX9_put : Mth := (yX9_put, cX9_put, 3, none)
abbrev mX9_back : Mth := (yX9_back, cX9_back, 2, some .int)
abbrev mX9_at : Mth := (yX9_at, cX9_at, 2, some .int)
abbrev mX9_isDigit : Mth := (yX9_isDigit, cX9_isDigit, 1, some .boolean)
abbrev mX9_isLetter : Mth := (yX9_isLetter, cX9_isLetter, 1, some .boolean)
abbrev mX9_more : Mth := (yX9_more, cX9_more, 3, some .long)
abbrev mX9_word : Mth := (yX9_word, cX9_word, 7, some .long)
abbrev mX9_token : Mth := (yX9_token, cX9_token, 6, none)
abbrev mX9_cut : Mth := (yX9_cut, cX9_cut, 8, none)
abbrev mX9_sign : Mth := (yX9_sign, cX9_sign, 6, some .int)
abbrev mX9_is : Mth := (yX9_is, cX9_is, 2, some .boolean)
abbrev mX9_fail : Mth := (yX9_fail, cX9_fail, 2, none)
abbrev mX9_wrong : Mth := (yX9_wrong, cX9_wrong, 4, none)
abbrev mX9_next : Mth := (yX9_next, cX9_next, 1, none)
abbrev mX9_must : Mth := (yX9_must, cX9_must, 2, none)
abbrev mX9_read : Mth := (yX9_read, cX9_read, 2, some .int)
abbrev mX9_place : Mth := (yX9_place, cX9_place, 1, some .int)
abbrev mX9_tellRule : Mth := (yX9_tellRule, cX9_tellRule, 5, none)
abbrev mX9_relation : Mth := (yX9_relation, cX9_relation, 6, none)
abbrev mX9_emit : Mth := (yX9_emit, cX9_emit, 3, none)
abbrev mX9_comesOut : Mth := (yX9_comesOut, cX9_comesOut, 3, none)
abbrev mX9_expression : Mth := (yX9_expression, cX9_expression, 5, none)
abbrev mX9_isInn : Mth := (yX9_isInn, cX9_isInn, 2, some .boolean)
abbrev mX9_isCaravan : Mth := (yX9_isCaravan, cX9_isCaravan, 2, some .boolean)
abbrev mX9_isDay : Mth := (yX9_isDay, cX9_isDay, 1, some .boolean)
abbrev mX9_isKnown : Mth := (yX9_isKnown, cX9_isKnown, 2, some .boolean)
abbrev mX9_inn : Mth := (yX9_inn, cX9_inn, 4, some .int)
abbrev mX9_room : Mth := (yX9_room, cX9_room, 3, some .int)
abbrev mX9_caravan : Mth := (yX9_caravan, cX9_caravan, 7, some .int)
abbrev mX9_bale : Mth := (yX9_bale, cX9_bale, 2, some .int)
abbrev mX9_fact : Mth := (yX9_fact, cX9_fact, 4, some .int)
abbrev mX9_shut : Mth := (yX9_shut, cX9_shut, 3, some .int)
abbrev mX9_look : Mth := (yX9_look, cX9_look, 4, some .int)
abbrev mX9_asks : Mth := (yX9_asks, cX9_asks, 4, none)
abbrev mX9_value : Mth := (yX9_value, cX9_value, 7, some .int)
abbrev mX9_holds : Mth := (yX9_holds, cX9_holds, 7, some .boolean)
abbrev mX9_says : Mth := (yX9_says, cX9_says, 4, some .int)
abbrev mX9_barOf : Mth := (yX9_barOf, cX9_barOf, 3, some .int)
abbrev mX9_goes : Mth := (yX9_goes, cX9_goes, 5, none)
abbrev mX9_morning : Mth := (yX9_morning, cX9_morning, 6, none)
abbrev mX9_evening : Mth := (yX9_evening, cX9_evening, 7, none)
abbrev mX9_lays : Mth := (yX9_lays, cX9_lays, 5, none)
abbrev mX9_isWay : Mth := (yX9_isWay, cX9_isWay, 9, some .boolean)
abbrev mX9_isAhead : Mth := (yX9_isAhead, cX9_isAhead, 4, some .boolean)
abbrev mX9_isOutside : Mth := (yX9_isOutside, cX9_isOutside, 3, some .boolean)
abbrev mX9_state : Mth := (yX9_state, cX9_state, 6, some .int)
abbrev mX9_house : Mth := (yX9_house, cX9_house, 9, some .int)
abbrev mX9_full : Mth := (yX9_full, cX9_full, 7, some .int)
abbrev mX9_comes : Mth := (yX9_comes, cX9_comes, 4, some .int)
abbrev mX9_barred : Mth := (yX9_barred, cX9_barred, 4, some .int)
abbrev mX9_could : Mth := (yX9_could, cX9_could, 9, some .int)
abbrev mX9_sealed : Mth := (yX9_sealed, cX9_sealed, 5, some .int)
abbrev mX9_tolls : Mth := (yX9_tolls, cX9_tolls, 4, some .int)
abbrev mX9_crowded : Mth := (yX9_crowded, cX9_crowded, 6, some .int)
abbrev mX9_count : Mth := (yX9_count, cX9_count, 2, some .int)
abbrev mL_law : Mth := (x, code, 4, some .boolean)
theorem fX8_18 : FR RX8 18 8 0 7 RX8 TX8 := ⟨CL8, by decide, rfl, tin2 118 rfl rfl⟩
theorem fX8_58 : FI RX8 58 7 1 2 RX7 TX7 := ⟨CL7, by decide, rfl, tin1 32 rfl rfl⟩
theorem cbX7_append : CB mX7_append 1 := ⟨tin1 2 rfl rfl, tin2 147 rfl rfl, ⟨by decide, by decide, by decide +kernel⟩, by decide⟩
theorem wX8_62 : VC RX8 62 mX7_append 1 7 2 TX7 := ⟨cbX7_append, tin2 144 rfl rfl, tin2 145 rfl rfl, tin2 146 rfl rfl, CL7⟩
theorem cbX8_isWithin : CB mX8_isWithin 3 := ⟨tin1 1 rfl rfl, tin2 154 rfl rfl, ⟨by decide, by decide, by decide +kernel⟩, by decide⟩
theorem wX8_66 : SC RX8 66 mX8_isWithin 3 := ⟨cbX8_isWithin, tin2 152 rfl rfl, tin2 153 rfl rfl⟩
theorem fX8_27 : FR RX8 27 8 1 7 RX8 TX8 := ⟨CL8, by decide, rfl, tin2 119 rfl rfl⟩
theorem fX8_55 : FR RX8 55 8 6 7 RX8 TX8 := ⟨CL8, by decide, rfl, tin2 124 rfl rfl⟩
theorem cbX4_parse : CB mX4_parse 1 := ⟨tin1 5 rfl rfl, tin2 162 rfl rfl, ⟨by decide, by decide, by decide +kernel⟩, by decide⟩
theorem wX8_70 : VC RX8 70 mX4_parse 1 4 9 TX4 := ⟨cbX4_parse, tin2 159 rfl rfl, tin2 160 rfl rfl, tin2 161 rfl rfl, CL4⟩
theorem fX8_51 : FR RX8 51 8 5 7 RX8 TX8 := ⟨CL8, by decide, rfl, tin2 123 rfl rfl⟩
theorem fX8_44 : FR RX8 44 8 4 7 RX8 TX8 := ⟨CL8, by decide, rfl, tin2 122 rfl rfl⟩
theorem cbX1_forget : CB mX1_forget 0 := ⟨tin1 7 rfl rfl, tin3 103 rfl rfl, ⟨by decide, by decide, by decide +kernel⟩, by decide⟩
theorem wX8_74 : VC RX8 74 mX1_forget 0 1 14 TX1 := ⟨cbX1_forget, tin3 100 rfl rfl, tin3 101 rfl rfl, tin3 102 rfl rfl, CL1⟩
theorem fX8_77 : FI RX8 77 4 7 9 RX4 TX4 := ⟨CL4, by decide, rfl, tin1 196 rfl rfl⟩
theorem fX8_31 : FR RX8 31 8 2 7 RX8 TX8 := ⟨CL8, by decide, rfl, tin2 120 rfl rfl⟩
theorem fX8_80 : FI RX8 80 2 0 16 RX2 TX2 := ⟨CL2, by decide, rfl, tin1 49 rfl rfl⟩
theorem cbX8_isLord : CB mX8_isLord 1 := ⟨tin1 1 rfl rfl, tin3 49 rfl rfl, ⟨by decide, by decide, by decide +kernel⟩, by decide⟩
theorem wX8_83 : SC RX8 83 mX8_isLord 1 := ⟨cbX8_isLord, tin3 112 rfl rfl, tin3 48 rfl rfl⟩
theorem fX8_87 : FR RX8 87 2 1 16 RX2 TX2 := ⟨CL2, by decide, rfl, tin1 52 rfl rfl⟩
theorem fX8_91 : FR RX8 91 2 2 16 RX2 TX2 := ⟨CL2, by decide, rfl, tin1 56 rfl rfl⟩
theorem fX8_94 : FR RX8 94 2 3 16 RX2 TX2 := ⟨CL2, by decide, rfl, tin1 58 rfl rfl⟩
theorem cbX2_hasInn : CB mX2_hasInn 1 := ⟨tin1 3 rfl rfl, tin3 120 rfl rfl, ⟨by decide, by decide, by decide +kernel⟩, by decide⟩
theorem wX8_97 : VC RX8 97 mX2_hasInn 1 2 16 TX2 := ⟨cbX2_hasInn, tin3 117 rfl rfl, tin3 118 rfl rfl, tin3 119 rfl rfl, CL2⟩
theorem fX8_100 : FR RX8 100 2 4 16 RX2 TX2 := ⟨CL2, by decide, rfl, tin1 61 rfl rfl⟩
theorem fX8_103 : FR RX8 103 2 5 16 RX2 TX2 := ⟨CL2, by decide, rfl, tin1 64 rfl rfl⟩
theorem fX8_107 : FI RX8 107 2 6 16 RX2 TX2 := ⟨CL2, by decide, rfl, tin1 68 rfl rfl⟩
theorem cbX8_isDay : CB mX8_isDay 1 := ⟨tin1 1 rfl rfl, tin3 128 rfl rfl, ⟨by decide, by decide, by decide +kernel⟩, by decide⟩
theorem wX8_110 : SC RX8 110 mX8_isDay 1 := ⟨cbX8_isDay, tin3 126 rfl rfl, tin3 127 rfl rfl⟩
theorem fX8_113 : FR RX8 113 2 7 16 RX2 TX2 := ⟨CL2, by decide, rfl, tin1 72 rfl rfl⟩
theorem fX8_116 : FR RX8 116 2 8 16 RX2 TX2 := ⟨CL2, by decide, rfl, tin1 76 rfl rfl⟩
theorem fX8_119 : FR RX8 119 2 9 16 RX2 TX2 := ⟨CL2, by decide, rfl, tin1 80 rfl rfl⟩
theorem fX8_122 : FR RX8 122 2 10 16 RX2 TX2 := ⟨CL2, by decide, rfl, tin1 82 rfl rfl⟩
theorem fX8_125 : FR RX8 125 2 11 16 RX2 TX2 := ⟨CL2, by decide, rfl, tin1 86 rfl rfl⟩
theorem fX8_128 : FR RX8 128 2 12 16 RX2 TX2 := ⟨CL2, by decide, rfl, tin1 88 rfl rfl⟩
theorem fX8_131 : FI RX8 131 2 14 16 RX2 TX2 := ⟨CL2, by decide, rfl, tin1 94 rfl rfl⟩
theorem cbX2_hasCaravan : CB mX2_hasCaravan 1 := ⟨tin1 3 rfl rfl, tin3 136 rfl rfl, ⟨by decide, by decide, by decide +kernel⟩, by decide⟩
theorem wX8_134 : VC RX8 134 mX2_hasCaravan 1 2 16 TX2 := ⟨cbX2_hasCaravan, tin3 133 rfl rfl, tin3 134 rfl rfl, tin3 135 rfl rfl, CL2⟩
theorem fX8_137 : FR RX8 137 2 15 16 RX2 TX2 := ⟨CL2, by decide, rfl, tin1 96 rfl rfl⟩
theorem fX8_140 : FR RX8 140 2 13 16 RX2 TX2 := ⟨CL2, by decide, rfl, tin1 92 rfl rfl⟩
theorem fX8_35 : FR RX8 35 8 3 7 RX8 TX8 := ⟨CL8, by decide, rfl, tin2 121 rfl rfl⟩
theorem cbX0_addShut : CB mX0_addShut 2 := ⟨tin1 4 rfl rfl, tin3 144 rfl rfl, ⟨by decide, by decide, by decide +kernel⟩, by decide⟩
theorem wX8_143 : VC RX8 143 mX0_addShut 2 0 5 TX0 := ⟨cbX0_addShut, tin3 141 rfl rfl, tin3 142 rfl rfl, tin3 143 rfl rfl, CL0⟩
theorem cbX2_hasBale : CB mX2_hasBale 1 := ⟨tin1 3 rfl rfl, tin3 156 rfl rfl, ⟨by decide, by decide, by decide +kernel⟩, by decide⟩
theorem wX8_147 : VC RX8 147 mX2_hasBale 1 2 16 TX2 := ⟨cbX2_hasBale, tin3 153 rfl rfl, tin3 154 rfl rfl, tin3 155 rfl rfl, CL2⟩
theorem cbX0_addLook : CB mX0_addLook 3 := ⟨tin1 4 rfl rfl, tin3 160 rfl rfl, ⟨by decide, by decide, by decide +kernel⟩, by decide⟩
theorem wX8_150 : VC RX8 150 mX0_addLook 3 0 5 TX0 := ⟨cbX0_addLook, tin3 157 rfl rfl, tin3 158 rfl rfl, tin3 159 rfl rfl, CL0⟩
theorem cbX0_isKnown : CB mX0_isKnown 1 := ⟨tin1 4 rfl rfl, tin3 168 rfl rfl, ⟨by decide, by decide, by decide +kernel⟩, by decide⟩
theorem wX8_154 : VC RX8 154 mX0_isKnown 1 0 5 TX0 := ⟨cbX0_isKnown, tin3 165 rfl rfl, tin3 166 rfl rfl, tin3 167 rfl rfl, CL0⟩
theorem cstX8_157 : Cond.constant RX8 157 (-1000000) ∈ TBL := tin3 170 rfl rfl
theorem cbX1_walk : CB mX1_walk 2 := ⟨tin1 7 rfl rfl, tin3 174 rfl rfl, ⟨by decide, by decide, by decide +kernel⟩, by decide⟩
theorem wX8_158 : VC RX8 158 mX1_walk 2 1 14 TX1 := ⟨cbX1_walk, tin3 171 rfl rfl, tin3 172 rfl rfl, tin3 173 rfl rfl, CL1⟩
theorem fX8_162 : FR RX8 162 1 4 14 RX1 TX1 := ⟨CL1, by decide, rfl, tin2 35 rfl rfl⟩
theorem fX8_165 : FR RX8 165 1 5 14 RX1 TX1 := ⟨CL1, by decide, rfl, tin2 37 rfl rfl⟩
theorem fX8_168 : FR RX8 168 1 6 14 RX1 TX1 := ⟨CL1, by decide, rfl, tin2 39 rfl rfl⟩
theorem fX8_171 : FR RX8 171 1 7 14 RX1 TX1 := ⟨CL1, by decide, rfl, tin2 41 rfl rfl⟩
theorem fX8_174 : FR RX8 174 1 8 14 RX1 TX1 := ⟨CL1, by decide, rfl, tin2 43 rfl rfl⟩
theorem cbX1_isOutside : CB mX1_isOutside 2 := ⟨tin1 7 rfl rfl, tin4 24 rfl rfl, ⟨by decide, by decide, by decide +kernel⟩, by decide⟩
theorem wX8_177 : VC RX8 177 mX1_isOutside 2 1 14 TX1 := ⟨cbX1_isOutside, tin4 21 rfl rfl, tin4 22 rfl rfl, tin4 23 rfl rfl, CL1⟩
theorem fX8_181 : FR RX8 181 1 9 14 RX1 TX1 := ⟨CL1, by decide, rfl, tin2 45 rfl rfl⟩
theorem cbX1_beastsInStalls : CB mX1_beastsInStalls 2 := ⟨tin1 7 rfl rfl, tin4 32 rfl rfl, ⟨by decide, by decide, by decide +kernel⟩, by decide⟩
theorem wX8_184 : VC RX8 184 mX1_beastsInStalls 2 1 14 TX1 := ⟨cbX1_beastsInStalls, tin4 29 rfl rfl, tin4 30 rfl rfl, tin4 31 rfl rfl, CL1⟩
theorem fX8_187 : FR RX8 187 1 11 14 RX1 TX1 := ⟨CL1, by decide, rfl, tin2 49 rfl rfl⟩
theorem cbX1_guests : CB mX1_guests 3 := ⟨tin1 7 rfl rfl, tin4 36 rfl rfl, ⟨by decide, by decide, by decide +kernel⟩, by decide⟩
theorem wX8_190 : VC RX8 190 mX1_guests 3 1 14 TX1 := ⟨cbX1_guests, tin4 33 rfl rfl, tin4 34 rfl rfl, tin4 35 rfl rfl, CL1⟩
theorem cbX1_guardsInRoom : CB mX1_guardsInRoom 3 := ⟨tin1 7 rfl rfl, tin4 44 rfl rfl, ⟨by decide, by decide, by decide +kernel⟩, by decide⟩
theorem wX8_193 : VC RX8 193 mX1_guardsInRoom 3 1 14 TX1 := ⟨cbX1_guardsInRoom, tin4 41 rfl rfl, tin4 42 rfl rfl, tin4 43 rfl rfl, CL1⟩
theorem fX8_197 : FR RX8 197 1 10 14 RX1 TX1 := ⟨CL1, by decide, rfl, tin2 47 rfl rfl⟩
theorem cbX0_firstBroken : CB mX0_firstBroken 2 := ⟨tin1 4 rfl rfl, tin4 60 rfl rfl, ⟨by decide, by decide, by decide +kernel⟩, by decide⟩
theorem wX8_200 : VC RX8 200 mX0_firstBroken 2 0 5 TX0 := ⟨cbX0_firstBroken, tin4 57 rfl rfl, tin4 58 rfl rfl, tin4 59 rfl rfl, CL0⟩
theorem fX8_203 : FR RX8 203 0 2 5 RX0 TX0 := ⟨CL0, by decide, rfl, tin1 142 rfl rfl⟩
theorem cbX0_firstSuspectDay : CB mX0_firstSuspectDay 3 := ⟨tin1 4 rfl rfl, tin4 64 rfl rfl, ⟨by decide, by decide, by decide +kernel⟩, by decide⟩
theorem wX8_206 : VC RX8 206 mX0_firstSuspectDay 3 0 5 TX0 := ⟨cbX0_firstSuspectDay, tin4 61 rfl rfl, tin4 62 rfl rfl, tin4 63 rfl rfl, CL0⟩
theorem cbX1_companions : CB mX1_companions 2 := ⟨tin1 7 rfl rfl, tin4 69 rfl rfl, ⟨by decide, by decide, by decide +kernel⟩, by decide⟩
theorem wX8_209 : VC RX8 209 mX1_companions 2 1 14 TX1 := ⟨cbX1_companions, tin4 66 rfl rfl, tin4 67 rfl rfl, tin4 68 rfl rfl, CL1⟩
theorem fX8_212 : FR RX8 212 1 12 14 RX1 TX1 := ⟨CL1, by decide, rfl, tin2 51 rfl rfl⟩
theorem fX8_215 : FI RX8 215 0 0 5 RX0 TX0 := ⟨CL0, by decide, rfl, tin1 139 rfl rfl⟩
theorem fX8_217 : FI RX8 217 5 7 9 RX5 TX5 := ⟨CL5, by decide, rfl, tin2 97 rfl rfl⟩
theorem fX7_15 : FI RX7 15 7 1 2 RX7 TX7 := ⟨CL7, by decide, rfl, tin1 31 rfl rfl⟩
theorem fX7_9 : FR RX7 9 7 0 2 RX7 TX7 := ⟨CL7, by decide, rfl, tin1 30 rfl rfl⟩
theorem fX2_9 : FI RX2 9 2 0 16 RX2 TX2 := ⟨CL2, by decide, rfl, tin1 48 rfl rfl⟩
theorem wX2_63 : NC RX2 63 mX8_isWithin 3 "CaravanRoad" := ⟨cbX8_isWithin, nin3 121 rfl rfl, tin2 153 rfl rfl⟩
theorem fX2_33 : FI RX2 33 2 6 16 RX2 TX2 := ⟨CL2, by decide, rfl, tin1 66 rfl rfl⟩
theorem fX2_57 : FI RX2 57 2 14 16 RX2 TX2 := ⟨CL2, by decide, rfl, tin1 93 rfl rfl⟩
theorem fX0_9 : FI RX0 9 0 0 5 RX0 TX0 := ⟨CL0, by decide, rfl, tin1 138 rfl rfl⟩
theorem wX0_31 : NC RX0 31 mX8_isWithin 3 "CaravanRoad" := ⟨cbX8_isWithin, nin3 169 rfl rfl, tin2 153 rfl rfl⟩
theorem cbX0_add : CB mX0_add 3 := ⟨tin1 4 rfl rfl, tin3 148 rfl rfl, ⟨by decide, by decide, by decide +kernel⟩, by decide⟩
theorem wX0_35 : VC RX0 35 mX0_add 3 0 5 TX0 := ⟨cbX0_add, tin3 145 rfl rfl, tin3 147 rfl rfl, tinP2 1 rfl, CL0⟩
theorem fX0_28 : FR RX0 28 0 4 5 RX0 TX0 := ⟨CL0, by decide, rfl, tin1 144 rfl rfl⟩
theorem fX0_15 : FR RX0 15 0 1 5 RX0 TX0 := ⟨CL0, by decide, rfl, tin1 140 rfl rfl⟩
theorem fX0_19 : FR RX0 19 0 2 5 RX0 TX0 := ⟨CL0, by decide, rfl, tin1 141 rfl rfl⟩
theorem fX0_22 : FR RX0 22 0 3 5 RX0 TX0 := ⟨CL0, by decide, rfl, tin1 143 rfl rfl⟩
theorem mlX0_39 : Cond.methodLink RX0 39 Lib.Math.max.name ∈ TBL := tin4 65 rfl rfl
theorem fX6_9 : FI RX6 9 6 1 5 RX6 TX6 := ⟨CL6, by decide, rfl, tin1 170 rfl rfl⟩
theorem fX6_24 : FR RX6 24 6 0 5 RX6 TX6 := ⟨CL6, by decide, rfl, tin1 169 rfl rfl⟩
theorem fX6_28 : FI RX6 28 7 1 2 RX7 TX7 := ⟨CL7, by decide, rfl, tin1 33 rfl rfl⟩
theorem cbX7_at : CB mX7_at 1 := ⟨tin1 2 rfl rfl, tin2 182 rfl rfl, ⟨by decide, by decide, by decide +kernel⟩, by decide⟩
theorem wX6_33 : VC RX6 33 mX7_at 1 7 2 TX7 := ⟨cbX7_at, tin2 179 rfl rfl, tin2 180 rfl rfl, tin2 181 rfl rfl, CL7⟩
theorem cbX6_isBlank : CB mX6_isBlank 1 := ⟨tin1 6 rfl rfl, tin2 185 rfl rfl, ⟨by decide, by decide, by decide +kernel⟩, by decide⟩
theorem wX6_37 : SC RX6 37 mX6_isBlank 1 := ⟨cbX6_isBlank, tin2 183 rfl rfl, tin2 184 rfl rfl⟩
theorem fX6_15 : FI RX6 15 6 2 5 RX6 TX6 := ⟨CL6, by decide, rfl, tin1 171 rfl rfl⟩
theorem fX6_18 : FI RX6 18 6 3 5 RX6 TX6 := ⟨CL6, by decide, rfl, tin1 173 rfl rfl⟩
theorem wX6_41 : NC RX6 41 mX8_isWithin 3 "CaravanRoad" := ⟨cbX8_isWithin, nin2 186 rfl rfl, tin2 153 rfl rfl⟩
theorem cbX6_takeWord : CB mX6_takeWord 0 := ⟨tin1 6 rfl rfl, tin2 190 rfl rfl, ⟨by decide, by decide, by decide +kernel⟩, by decide⟩
theorem wX6_45 : VC RX6 45 mX6_takeWord 0 6 5 TX6 := ⟨cbX6_takeWord, tin2 187 rfl rfl, tin2 189 rfl rfl, tinP1 1 rfl, CL6⟩
theorem cbX6_takeInt : CB mX6_takeInt 0 := ⟨tin1 6 rfl rfl, tin3 7 rfl rfl, ⟨by decide, by decide, by decide +kernel⟩, by decide⟩
theorem wX6_48 : VC RX6 48 mX6_takeInt 0 6 5 TX6 := ⟨cbX6_takeInt, tin3 4 rfl rfl, tin3 6 rfl rfl, tinP1 3 rfl, CL6⟩
theorem cbX6_takeSign : CB mX6_takeSign 1 := ⟨tin1 6 rfl rfl, tin3 11 rfl rfl, ⟨by decide, by decide, by decide +kernel⟩, by decide⟩
theorem wX6_51 : VC RX6 51 mX6_takeSign 1 6 5 TX6 := ⟨cbX6_takeSign, tin3 8 rfl rfl, tin3 10 rfl rfl, tinP1 4 rfl, CL6⟩
theorem cbX6_wordToken : CB mX6_wordToken 0 := ⟨tin1 6 rfl rfl, tin2 194 rfl rfl, ⟨by decide, by decide, by decide +kernel⟩, by decide⟩
theorem wX6_55 : VC RX6 55 mX6_wordToken 0 6 5 TX6 := ⟨cbX6_wordToken, tin2 191 rfl rfl, tin2 193 rfl rfl, tinP1 2 rfl, CL6⟩
theorem fX6_21 : FI RX6 21 6 4 5 RX6 TX6 := ⟨CL6, by decide, rfl, tin1 175 rfl rfl⟩
theorem cbX6_pairToken : CB mX6_pairToken 1 := ⟨tin1 6 rfl rfl, tin3 14 rfl rfl, ⟨by decide, by decide, by decide +kernel⟩, by decide⟩
theorem wX6_59 : SC RX6 59 mX6_pairToken 1 := ⟨cbX6_pairToken, tin3 12 rfl rfl, tin3 13 rfl rfl⟩
theorem cbX6_signToken : CB mX6_signToken 1 := ⟨tin1 6 rfl rfl, tin3 17 rfl rfl, ⟨by decide, by decide, by decide +kernel⟩, by decide⟩
theorem wX6_62 : SC RX6 62 mX6_signToken 1 := ⟨cbX6_signToken, tin3 15 rfl rfl, tin3 16 rfl rfl⟩
theorem fX5_33 : FI RX5 33 5 7 9 RX5 TX5 := ⟨CL5, by decide, rfl, tin2 95 rfl rfl⟩
theorem fX5_37 : FI RX5 37 5 8 9 RX5 TX5 := ⟨CL5, by decide, rfl, tin2 98 rfl rfl⟩
theorem fX5_9 : FR RX5 9 5 0 9 RX5 TX5 := ⟨CL5, by decide, rfl, tin2 88 rfl rfl⟩
theorem fX5_15 : FR RX5 15 5 1 9 RX5 TX5 := ⟨CL5, by decide, rfl, tin2 89 rfl rfl⟩
theorem fX5_18 : FR RX5 18 5 2 9 RX5 TX5 := ⟨CL5, by decide, rfl, tin2 90 rfl rfl⟩
theorem fX5_21 : FR RX5 21 5 3 9 RX5 TX5 := ⟨CL5, by decide, rfl, tin2 91 rfl rfl⟩
theorem fX5_24 : FR RX5 24 5 4 9 RX5 TX5 := ⟨CL5, by decide, rfl, tin2 92 rfl rfl⟩
theorem fX5_27 : FR RX5 27 5 5 9 RX5 TX5 := ⟨CL5, by decide, rfl, tin2 93 rfl rfl⟩
theorem cbX5_run : CB mX5_run 3 := ⟨tin1 9 rfl rfl, tin3 203 rfl rfl, ⟨by decide, by decide, by decide +kernel⟩, by decide⟩
theorem wX5_40 : VC RX5 40 mX5_run 3 5 9 TX5 := ⟨cbX5_run, tin3 200 rfl rfl, tin3 202 rfl rfl, tinP2 6 rfl, CL5⟩
theorem cbX5_firstThatHolds : CB mX5_firstThatHolds 3 := ⟨tin1 9 rfl rfl, tin3 199 rfl rfl, ⟨by decide, by decide, by decide +kernel⟩, by decide⟩
theorem wX5_44 : VC RX5 44 mX5_firstThatHolds 3 5 9 TX5 := ⟨cbX5_firstThatHolds, tin3 220 rfl rfl, tin3 197 rfl rfl, tin3 198 rfl rfl, CL5⟩
theorem wX5_47 : NC RX5 47 mX8_isWithin 3 "CaravanRoad" := ⟨cbX8_isWithin, nin3 205 rfl rfl, tin2 153 rfl rfl⟩
theorem mlX5_51 : Cond.methodLink RX5 51 Lib.Math.max.name ∈ TBL := tin3 204 rfl rfl
theorem fX5_30 : FR RX5 30 5 6 9 RX5 TX5 := ⟨CL5, by decide, rfl, tin2 94 rfl rfl⟩
theorem cbX5_apply : CB mX5_apply 3 := ⟨tin1 9 rfl rfl, tin3 208 rfl rfl, ⟨by decide, by decide, by decide +kernel⟩, by decide⟩
theorem wX5_57 : SC RX5 57 mX5_apply 3 := ⟨cbX5_apply, tin3 206 rfl rfl, tin3 207 rfl rfl⟩
theorem cbX4_begin : CB mX4_begin 1 := ⟨tin1 5 rfl rfl, tin2 166 rfl rfl, ⟨by decide, by decide, by decide +kernel⟩, by decide⟩
theorem wX4_46 : VC RX4 46 mX4_begin 1 4 9 TX4 := ⟨cbX4_begin, tin2 163 rfl rfl, tin2 165 rfl rfl, tinP1 0 rfl, CL4⟩
theorem fX4_28 : FI RX4 28 4 6 9 RX4 TX4 := ⟨CL4, by decide, rfl, tin1 194 rfl rfl⟩
theorem fX4_42 : FR RX4 42 4 0 9 RX4 TX4 := ⟨CL4, by decide, rfl, tin1 188 rfl rfl⟩
theorem cbX6_advance : CB mX6_advance 0 := ⟨tin1 6 rfl rfl, tin2 178 rfl rfl, ⟨by decide, by decide, by decide +kernel⟩, by decide⟩
theorem wX4_50 : VC RX4 50 mX6_advance 0 6 5 TX6 := ⟨cbX6_advance, tin2 175 rfl rfl, tin2 176 rfl rfl, tin2 177 rfl rfl, CL6⟩
theorem fX4_53 : FI RX4 53 6 3 5 RX6 TX6 := ⟨CL6, by decide, rfl, tin1 174 rfl rfl⟩
theorem cbX4_mayFollow : CB mX4_mayFollow 1 := ⟨tin1 5 rfl rfl, tin3 21 rfl rfl, ⟨by decide, by decide, by decide +kernel⟩, by decide⟩
theorem wX4_56 : VC RX4 56 mX4_mayFollow 1 4 9 TX4 := ⟨cbX4_mayFollow, tin3 18 rfl rfl, tin3 20 rfl rfl, tinP1 5 rfl, CL4⟩
theorem fX4_60 : FI RX4 60 6 2 5 RX6 TX6 := ⟨CL6, by decide, rfl, tin1 172 rfl rfl⟩
theorem cbX4_blame : CB mX4_blame 2 := ⟨tin1 5 rfl rfl, tin3 30 rfl rfl, ⟨by decide, by decide, by decide +kernel⟩, by decide⟩
theorem wX4_63 : VC RX4 63 mX4_blame 2 4 9 TX4 := ⟨cbX4_blame, tin3 27 rfl rfl, tin3 29 rfl rfl, tinP1 7 rfl, CL4⟩
theorem cbX4_isTooMuch : CB mX4_isTooMuch 1 := ⟨tin1 5 rfl rfl, tin3 34 rfl rfl, ⟨by decide, by decide, by decide +kernel⟩, by decide⟩
theorem wX4_67 : VC RX4 67 mX4_isTooMuch 1 4 9 TX4 := ⟨cbX4_isTooMuch, tin3 31 rfl rfl, tin3 33 rfl rfl, tinP1 8 rfl, CL4⟩
theorem cbX4_take : CB mX4_take 1 := ⟨tin1 5 rfl rfl, tin3 38 rfl rfl, ⟨by decide, by decide, by decide +kernel⟩, by decide⟩
theorem wX4_71 : VC RX4 71 mX4_take 1 4 9 TX4 := ⟨cbX4_take, tin3 35 rfl rfl, tin3 37 rfl rfl, tinP1 9 rfl, CL4⟩
theorem fX4_34 : FI RX4 34 4 8 9 RX4 TX4 := ⟨CL4, by decide, rfl, tin1 197 rfl rfl⟩
theorem cbX6_rewind : CB mX6_rewind 0 := ⟨tin1 6 rfl rfl, tin2 170 rfl rfl, ⟨by decide, by decide, by decide +kernel⟩, by decide⟩
theorem wX4_74 : VC RX4 74 mX6_rewind 0 6 5 TX6 := ⟨cbX6_rewind, tin2 167 rfl rfl, tin2 168 rfl rfl, tin2 169 rfl rfl, CL6⟩
theorem cbX5_clear : CB mX5_clear 0 := ⟨tin1 9 rfl rfl, tin2 174 rfl rfl, ⟨by decide, by decide, by decide +kernel⟩, by decide⟩
theorem wX4_77 : VC RX4 77 mX5_clear 0 5 9 TX5 := ⟨cbX5_clear, tin2 171 rfl rfl, tin2 172 rfl rfl, tin2 173 rfl rfl, CL5⟩
theorem fX4_15 : FI RX4 15 4 2 9 RX4 TX4 := ⟨CL4, by decide, rfl, tin1 190 rfl rfl⟩
theorem fX4_19 : FI RX4 19 4 3 9 RX4 TX4 := ⟨CL4, by decide, rfl, tin1 191 rfl rfl⟩
theorem fX4_22 : FI RX4 22 4 4 9 RX4 TX4 := ⟨CL4, by decide, rfl, tin1 192 rfl rfl⟩
theorem fX4_25 : FI RX4 25 4 5 9 RX4 TX4 := ⟨CL4, by decide, rfl, tin1 193 rfl rfl⟩
theorem fX4_31 : FI RX4 31 4 7 9 RX4 TX4 := ⟨CL4, by decide, rfl, tin1 195 rfl rfl⟩
theorem wX4_82 : NC RX4 82 mX8_isWithin 3 "CaravanRoad" := ⟨cbX8_isWithin, nin3 22 rfl rfl, tin2 153 rfl rfl⟩
theorem cbX4_mayFollowUnit : CB mX4_mayFollowUnit 1 := ⟨tin1 5 rfl rfl, tin3 26 rfl rfl, ⟨by decide, by decide, by decide +kernel⟩, by decide⟩
theorem wX4_86 : VC RX4 86 mX4_mayFollowUnit 1 4 9 TX4 := ⟨cbX4_mayFollowUnit, tin3 23 rfl rfl, tin3 25 rfl rfl, tinP1 6 rfl, CL4⟩
theorem fX4_89 : FI RX4 89 5 7 9 RX5 TX5 := ⟨CL5, by decide, rfl, tin2 96 rfl rfl⟩
theorem cbX5_beginRule : CB mX5_beginRule 1 := ⟨tin1 9 rfl rfl, tin3 42 rfl rfl, ⟨by decide, by decide, by decide +kernel⟩, by decide⟩
theorem wX4_92 : VC RX4 92 mX5_beginRule 1 5 9 TX5 := ⟨cbX5_beginRule, tin3 39 rfl rfl, tin3 40 rfl rfl, tin3 41 rfl rfl, CL5⟩
theorem cbX4_takeLord : CB mX4_takeLord 1 := ⟨tin1 5 rfl rfl, tin3 46 rfl rfl, ⟨by decide, by decide, by decide +kernel⟩, by decide⟩
theorem wX4_96 : VC RX4 96 mX4_takeLord 1 4 9 TX4 := ⟨cbX4_takeLord, tin3 43 rfl rfl, tin3 45 rfl rfl, tinP1 10 rfl, CL4⟩
theorem cbX4_takeIf : CB mX4_takeIf 1 := ⟨tin1 5 rfl rfl, tin3 61 rfl rfl, ⟨by decide, by decide, by decide +kernel⟩, by decide⟩
theorem wX4_99 : VC RX4 99 mX4_takeIf 1 4 9 TX4 := ⟨cbX4_takeIf, tin3 58 rfl rfl, tin3 60 rfl rfl, tinP1 11 rfl, CL4⟩
theorem cbX4_takeUnit : CB mX4_takeUnit 1 := ⟨tin1 5 rfl rfl, tin3 69 rfl rfl, ⟨by decide, by decide, by decide +kernel⟩, by decide⟩
theorem wX4_102 : VC RX4 102 mX4_takeUnit 1 4 9 TX4 := ⟨cbX4_takeUnit, tin3 66 rfl rfl, tin3 68 rfl rfl, tinP1 12 rfl, CL4⟩
theorem cbX4_takeBehindUnit : CB mX4_takeBehindUnit 1 := ⟨tin1 5 rfl rfl, tin3 81 rfl rfl, ⟨by decide, by decide, by decide +kernel⟩, by decide⟩
theorem wX4_105 : VC RX4 105 mX4_takeBehindUnit 1 4 9 TX4 := ⟨cbX4_takeBehindUnit, tin3 78 rfl rfl, tin3 80 rfl rfl, tinP1 14 rfl, CL4⟩
theorem fX4_108 : FI RX4 108 6 4 5 RX6 TX6 := ⟨CL6, by decide, rfl, tin1 176 rfl rfl⟩
theorem wX4_111 : NC RX4 111 mX8_isLord 1 "CaravanRoad" := ⟨cbX8_isLord, nin3 47 rfl rfl, tin3 48 rfl rfl⟩
theorem cbX5_setLord : CB mX5_setLord 1 := ⟨tin1 9 rfl rfl, tin3 53 rfl rfl, ⟨by decide, by decide, by decide +kernel⟩, by decide⟩
theorem wX4_114 : VC RX4 114 mX5_setLord 1 5 9 TX5 := ⟨cbX5_setLord, tin3 50 rfl rfl, tin3 51 rfl rfl, tin3 52 rfl rfl, CL5⟩
theorem cbX5_isInBar : CB mX5_isInBar 0 := ⟨tin1 9 rfl rfl, tin3 57 rfl rfl, ⟨by decide, by decide, by decide +kernel⟩, by decide⟩
theorem wX4_117 : VC RX4 117 mX5_isInBar 0 5 9 TX5 := ⟨cbX5_isInBar, tin3 54 rfl rfl, tin3 55 rfl rfl, tin3 56 rfl rfl, CL5⟩
theorem cbX5_beginCondition : CB mX5_beginCondition 0 := ⟨tin1 9 rfl rfl, tin3 65 rfl rfl, ⟨by decide, by decide, by decide +kernel⟩, by decide⟩
theorem wX4_121 : VC RX4 121 mX5_beginCondition 0 5 9 TX5 := ⟨cbX5_beginCondition, tin3 62 rfl rfl, tin3 63 rfl rfl, tin3 64 rfl rfl, CL5⟩
theorem cbX4_hold : CB mX4_hold 1 := ⟨tin1 5 rfl rfl, tin3 73 rfl rfl, ⟨by decide, by decide, by decide +kernel⟩, by decide⟩
theorem wX4_124 : VC RX4 124 mX4_hold 1 4 9 TX4 := ⟨cbX4_hold, tin3 70 rfl rfl, tin3 72 rfl rfl, tinP1 13 rfl, CL4⟩
theorem cbX5_write : CB mX5_write 1 := ⟨tin1 9 rfl rfl, tin3 77 rfl rfl, ⟨by decide, by decide, by decide +kernel⟩, by decide⟩
theorem wX4_127 : VC RX4 127 mX5_write 1 5 9 TX5 := ⟨cbX5_write, tin3 74 rfl rfl, tin3 75 rfl rfl, tin3 76 rfl rfl, CL5⟩
theorem cbX4_rank : CB mX4_rank 1 := ⟨tin1 5 rfl rfl, tin3 84 rfl rfl, ⟨by decide, by decide, by decide +kernel⟩, by decide⟩
theorem wX4_130 : SC RX4 130 mX4_rank 1 := ⟨cbX4_rank, tin3 82 rfl rfl, tin3 83 rfl rfl⟩
theorem cbX4_release : CB mX4_release 2 := ⟨tin1 5 rfl rfl, tin3 88 rfl rfl, ⟨by decide, by decide, by decide +kernel⟩, by decide⟩
theorem wX4_134 : VC RX4 134 mX4_release 2 4 9 TX4 := ⟨cbX4_release, tin3 85 rfl rfl, tin3 87 rfl rfl, tinP1 15 rfl, CL4⟩
theorem mlX4_138 : Cond.methodLink RX4 138 Lib.Math.max.name ∈ TBL := tin3 89 rfl rfl
theorem cbX5_endRule : CB mX5_endRule 0 := ⟨tin1 9 rfl rfl, tin3 95 rfl rfl, ⟨by decide, by decide, by decide +kernel⟩, by decide⟩
theorem wX4_144 : VC RX4 144 mX5_endRule 0 5 9 TX5 := ⟨cbX5_endRule, tin3 92 rfl rfl, tin3 93 rfl rfl, tin3 94 rfl rfl, CL5⟩
theorem cbX4_takeOperator : CB mX4_takeOperator 1 := ⟨tin1 5 rfl rfl, tin3 99 rfl rfl, ⟨by decide, by decide, by decide +kernel⟩, by decide⟩
theorem wX4_147 : VC RX4 147 mX4_takeOperator 1 4 9 TX4 := ⟨cbX4_takeOperator, tin3 96 rfl rfl, tin3 98 rfl rfl, tinP2 0 rfl, CL4⟩
theorem fX4_9 : FR RX4 9 4 1 9 RX4 TX4 := ⟨CL4, by decide, rfl, tin1 189 rfl rfl⟩
theorem fX3_9 : FI RX3 9 3 1 12 RX3 TX3 := ⟨CL3, by decide, rfl, tin1 231 rfl rfl⟩
theorem fX3_15 : FI RX3 15 3 2 12 RX3 TX3 := ⟨CL3, by decide, rfl, tin1 232 rfl rfl⟩
theorem fX3_22 : FR RX3 22 3 4 12 RX3 TX3 := ⟨CL3, by decide, rfl, tin1 236 rfl rfl⟩
theorem fX3_18 : FR RX3 18 3 3 12 RX3 TX3 := ⟨CL3, by decide, rfl, tin1 234 rfl rfl⟩
theorem fX3_28 : FI RX3 28 3 6 12 RX3 TX3 := ⟨CL3, by decide, rfl, tin1 239 rfl rfl⟩
theorem fX3_46 : FR RX3 46 3 0 12 RX3 TX3 := ⟨CL3, by decide, rfl, tin1 230 rfl rfl⟩
theorem fX3_50 : FR RX3 50 2 8 16 RX2 TX2 := ⟨CL2, by decide, rfl, tin1 74 rfl rfl⟩
theorem fX3_25 : FR RX3 25 3 5 12 RX3 TX3 := ⟨CL3, by decide, rfl, tin1 237 rfl rfl⟩
theorem fX3_31 : FR RX3 31 3 7 12 RX3 TX3 := ⟨CL3, by decide, rfl, tin2 0 rfl rfl⟩
theorem fX3_55 : FR RX3 55 2 2 16 RX2 TX2 := ⟨CL2, by decide, rfl, tin1 55 rfl rfl⟩
theorem cbX3_fitsAll : CB mX3_fitsAll 1 := ⟨tin1 8 rfl rfl, tin4 8 rfl rfl, ⟨by decide, by decide, by decide +kernel⟩, by decide⟩
theorem wX3_58 : VC RX3 58 mX3_fitsAll 1 3 12 TX3 := ⟨cbX3_fitsAll, tin4 5 rfl rfl, tin4 7 rfl rfl, tinP2 10 rfl, CL3⟩
theorem cbX3_keepTrial : CB mX3_keepTrial 0 := ⟨tin1 8 rfl rfl, tin4 20 rfl rfl, ⟨by decide, by decide, by decide +kernel⟩, by decide⟩
theorem wX3_62 : VC RX3 62 mX3_keepTrial 0 3 12 TX3 := ⟨cbX3_keepTrial, tin4 17 rfl rfl, tin4 19 rfl rfl, tinP2 13 rfl, CL3⟩
theorem fX3_34 : FR RX3 34 3 8 12 RX3 TX3 := ⟨CL3, by decide, rfl, tin2 1 rfl rfl⟩
theorem fX3_37 : FR RX3 37 3 9 12 RX3 TX3 := ⟨CL3, by decide, rfl, tin2 2 rfl rfl⟩
theorem fX3_40 : FR RX3 40 3 10 12 RX3 TX3 := ⟨CL3, by decide, rfl, tin2 3 rfl rfl⟩
theorem cbX3_fits : CB mX3_fits 2 := ⟨tin1 8 rfl rfl, tin4 12 rfl rfl, ⟨by decide, by decide, by decide +kernel⟩, by decide⟩
theorem wX3_65 : VC RX3 65 mX3_fits 2 3 12 TX3 := ⟨cbX3_fits, tin4 9 rfl rfl, tin4 11 rfl rfl, tinP2 11 rfl, CL3⟩
theorem fX3_69 : FR RX3 69 2 4 16 RX2 TX2 := ⟨CL2, by decide, rfl, tin1 62 rfl rfl⟩
theorem cbX3_isOpenTo : CB mX3_isOpenTo 2 := ⟨tin1 8 rfl rfl, tin4 16 rfl rfl, ⟨by decide, by decide, by decide +kernel⟩, by decide⟩
theorem wX3_72 : VC RX3 72 mX3_isOpenTo 2 3 12 TX3 := ⟨cbX3_isOpenTo, tin4 13 rfl rfl, tin4 15 rfl rfl, tinP2 12 rfl, CL3⟩
theorem fX3_75 : FR RX3 75 2 9 16 RX2 TX2 := ⟨CL2, by decide, rfl, tin1 78 rfl rfl⟩
theorem fX3_43 : FR RX3 43 3 11 12 RX3 TX3 := ⟨CL3, by decide, rfl, tin2 4 rfl rfl⟩
theorem fX3_76 : FR RX3 76 2 7 16 RX2 TX2 := ⟨CL2, by decide, rfl, tin1 70 rfl rfl⟩
theorem fX3_77 : FR RX3 77 2 5 16 RX2 TX2 := ⟨CL2, by decide, rfl, tin1 65 rfl rfl⟩
theorem fX1_44 : FI RX1 44 1 13 14 RX1 TX1 := ⟨CL1, by decide, rfl, tin2 52 rfl rfl⟩
theorem fX1_52 : FR RX1 52 1 1 14 RX1 TX1 := ⟨CL1, by decide, rfl, tin2 31 rfl rfl⟩
theorem cbX0_shutsAmong : CB mX0_shutsAmong 1 := ⟨tin1 4 rfl rfl, tin3 178 rfl rfl, ⟨by decide, by decide, by decide +kernel⟩, by decide⟩
theorem wX1_65 : VC RX1 65 mX0_shutsAmong 1 0 5 TX0 := ⟨cbX0_shutsAmong, tin3 175 rfl rfl, tin3 176 rfl rfl, tin3 177 rfl rfl, CL0⟩
theorem cbX1_morning : CB mX1_morning 3 := ⟨tin1 7 rfl rfl, tin3 182 rfl rfl, ⟨by decide, by decide, by decide +kernel⟩, by decide⟩
theorem wX1_71 : VC RX1 71 mX1_morning 3 1 14 TX1 := ⟨cbX1_morning, tin3 179 rfl rfl, tin3 181 rfl rfl, tinP2 2 rfl, CL1⟩
theorem cbX1_evening : CB mX1_evening 2 := ⟨tin1 7 rfl rfl, tin3 228 rfl rfl, ⟨by decide, by decide, by decide +kernel⟩, by decide⟩
theorem wX1_75 : VC RX1 75 mX1_evening 2 1 14 TX1 := ⟨cbX1_evening, tin3 225 rfl rfl, tin3 227 rfl rfl, tinP2 8 rfl, CL1⟩
theorem fX1_41 : FR RX1 41 1 12 14 RX1 TX1 := ⟨CL1, by decide, rfl, tin2 50 rfl rfl⟩
theorem fX1_48 : FR RX1 48 1 0 14 RX1 TX1 := ⟨CL1, by decide, rfl, tin2 30 rfl rfl⟩
theorem fX1_79 : FI RX1 79 2 6 16 RX2 TX2 := ⟨CL2, by decide, rfl, tin1 67 rfl rfl⟩
theorem cbX1_wake : CB mX1_wake 2 := ⟨tin1 7 rfl rfl, tin3 186 rfl rfl, ⟨by decide, by decide, by decide +kernel⟩, by decide⟩
theorem wX1_84 : VC RX1 84 mX1_wake 2 1 14 TX1 := ⟨cbX1_wake, tin3 183 rfl rfl, tin3 185 rfl rfl, tinP2 3 rfl, CL1⟩
theorem fX1_17 : FR RX1 17 1 4 14 RX1 TX1 := ⟨CL1, by decide, rfl, tin2 34 rfl rfl⟩
theorem cbX1_goOn : CB mX1_goOn 4 := ⟨tin1 7 rfl rfl, tin3 190 rfl rfl, ⟨by decide, by decide, by decide +kernel⟩, by decide⟩
theorem wX1_88 : VC RX1 88 mX1_goOn 4 1 14 TX1 := ⟨cbX1_goOn, tin3 187 rfl rfl, tin3 189 rfl rfl, tinP2 4 rfl, CL1⟩
theorem fX1_92 : FR RX1 92 2 11 16 RX2 TX2 := ⟨CL2, by decide, rfl, tin1 85 rfl rfl⟩
theorem fX1_20 : FR RX1 20 1 5 14 RX1 TX1 := ⟨CL1, by decide, rfl, tin2 36 rfl rfl⟩
theorem fX1_23 : FR RX1 23 1 6 14 RX1 TX1 := ⟨CL1, by decide, rfl, tin2 38 rfl rfl⟩
theorem fX1_26 : FR RX1 26 1 7 14 RX1 TX1 := ⟨CL1, by decide, rfl, tin2 40 rfl rfl⟩
theorem fX1_29 : FR RX1 29 1 8 14 RX1 TX1 := ⟨CL1, by decide, rfl, tin2 42 rfl rfl⟩
theorem fX1_32 : FR RX1 32 1 9 14 RX1 TX1 := ⟨CL1, by decide, rfl, tin2 44 rfl rfl⟩
theorem fX1_35 : FR RX1 35 1 10 14 RX1 TX1 := ⟨CL1, by decide, rfl, tin2 46 rfl rfl⟩
theorem wX1_95 : VC RX1 95 mX2_hasInn 1 2 16 TX2 := ⟨cbX2_hasInn, tin3 191 rfl rfl, tin3 118 rfl rfl, tin3 119 rfl rfl, CL2⟩
theorem cbX1_setVars : CB mX1_setVars 3 := ⟨tin1 7 rfl rfl, tin3 195 rfl rfl, ⟨by decide, by decide, by decide +kernel⟩, by decide⟩
theorem wX1_99 : VC RX1 99 mX1_setVars 3 1 14 TX1 := ⟨cbX1_setVars, tin3 192 rfl rfl, tin3 194 rfl rfl, tinP2 5 rfl, CL1⟩
theorem fX1_103 : FR RX1 103 2 1 16 RX2 TX2 := ⟨CL2, by decide, rfl, tin1 53 rfl rfl⟩
theorem fX1_9 : FR RX1 9 1 3 14 RX1 TX1 := ⟨CL1, by decide, rfl, tin2 33 rfl rfl⟩
theorem wX1_106 : VC RX1 106 mX5_firstThatHolds 3 5 9 TX5 := ⟨cbX5_firstThatHolds, tin3 196 rfl rfl, tin3 197 rfl rfl, tin3 198 rfl rfl, CL5⟩
theorem mlX1_112 : Cond.methodLink RX1 112 Lib.Math.min.name ∈ TBL := tin3 209 rfl rfl
theorem cbX0_isShut : CB mX0_isShut 3 := ⟨tin1 4 rfl rfl, tin3 215 rfl rfl, ⟨by decide, by decide, by decide +kernel⟩, by decide⟩
theorem wX1_118 : VC RX1 118 mX0_isShut 3 0 5 TX0 := ⟨cbX0_isShut, tin3 212 rfl rfl, tin3 213 rfl rfl, tin3 214 rfl rfl, CL0⟩
theorem cbX5_value : CB mX5_value 3 := ⟨tin1 9 rfl rfl, tin3 219 rfl rfl, ⟨by decide, by decide, by decide +kernel⟩, by decide⟩
theorem wX1_122 : VC RX1 122 mX5_value 3 5 9 TX5 := ⟨cbX5_value, tin3 216 rfl rfl, tin3 217 rfl rfl, tin3 218 rfl rfl, CL5⟩
theorem cbX1_pay : CB mX1_pay 4 := ⟨tin1 7 rfl rfl, tin3 224 rfl rfl, ⟨by decide, by decide, by decide +kernel⟩, by decide⟩
theorem wX1_125 : VC RX1 125 mX1_pay 4 1 14 TX1 := ⟨cbX1_pay, tin3 221 rfl rfl, tin3 223 rfl rfl, tinP2 7 rfl, CL1⟩
theorem fX1_129 : FR RX1 129 2 7 16 RX2 TX2 := ⟨CL2, by decide, rfl, tin1 71 rfl rfl⟩
theorem fX1_132 : FR RX1 132 2 8 16 RX2 TX2 := ⟨CL2, by decide, rfl, tin1 75 rfl rfl⟩
theorem fX1_135 : FR RX1 135 2 9 16 RX2 TX2 := ⟨CL2, by decide, rfl, tin1 79 rfl rfl⟩
theorem fX1_138 : FR RX1 138 2 13 16 RX2 TX2 := ⟨CL2, by decide, rfl, tin1 91 rfl rfl⟩
theorem fX1_141 : FR RX1 141 2 12 16 RX2 TX2 := ⟨CL2, by decide, rfl, tin1 89 rfl rfl⟩
theorem fX1_144 : FR RX1 144 2 10 16 RX2 TX2 := ⟨CL2, by decide, rfl, tin1 83 rfl rfl⟩
theorem fX1_147 : FI RX1 147 2 0 16 RX2 TX2 := ⟨CL2, by decide, rfl, tin1 50 rfl rfl⟩
theorem cbX1_host : CB mX1_host 2 := ⟨tin1 7 rfl rfl, tin3 232 rfl rfl, ⟨by decide, by decide, by decide +kernel⟩, by decide⟩
theorem wX1_150 : VC RX1 150 mX1_host 2 1 14 TX1 := ⟨cbX1_host, tin3 229 rfl rfl, tin3 231 rfl rfl, tinP2 9 rfl, CL1⟩
theorem fX1_61 : FR RX1 61 1 2 14 RX1 TX1 := ⟨CL1, by decide, rfl, tin2 32 rfl rfl⟩
theorem cbX3_open : CB mX3_open 1 := ⟨tin1 8 rfl rfl, tin3 236 rfl rfl, ⟨by decide, by decide, by decide +kernel⟩, by decide⟩
theorem wX1_153 : VC RX1 153 mX3_open 1 3 12 TX3 := ⟨cbX3_open, tin3 233 rfl rfl, tin3 234 rfl rfl, tin3 235 rfl rfl, CL3⟩
theorem cbX3_admit : CB mX3_admit 2 := ⟨tin1 8 rfl rfl, tin4 0 rfl rfl, ⟨by decide, by decide, by decide +kernel⟩, by decide⟩
theorem wX1_157 : VC RX1 157 mX3_admit 2 3 12 TX3 := ⟨cbX3_admit, tin3 237 rfl rfl, tin3 238 rfl rfl, tin3 239 rfl rfl, CL3⟩
theorem cbX3_lay : CB mX3_lay 0 := ⟨tin1 8 rfl rfl, tin4 4 rfl rfl, ⟨by decide, by decide, by decide +kernel⟩, by decide⟩
theorem wX1_160 : VC RX1 160 mX3_lay 0 3 12 TX3 := ⟨cbX3_lay, tin4 1 rfl rfl, tin4 2 rfl rfl, tin4 3 rfl rfl, CL3⟩
theorem fX1_38 : FR RX1 38 1 11 14 RX1 TX1 := ⟨CL1, by decide, rfl, tin2 48 rfl rfl⟩
theorem fX1_163 : FR RX1 163 2 3 16 RX2 TX2 := ⟨CL2, by decide, rfl, tin1 59 rfl rfl⟩
theorem fX1_166 : FI RX1 166 3 2 12 RX3 TX3 := ⟨CL3, by decide, rfl, tin1 233 rfl rfl⟩
theorem fX1_169 : FR RX1 169 3 3 12 RX3 TX3 := ⟨CL3, by decide, rfl, tin1 235 rfl rfl⟩
theorem fX1_172 : FR RX1 172 3 5 12 RX3 TX3 := ⟨CL3, by decide, rfl, tin1 238 rfl rfl⟩
theorem fX9_207 : FI RX9 207 9 2 80 RX9 TX9 := ⟨CL9, by decide, rfl, tin4 100 rfl rfl⟩
theorem cbX9_put : CB mX9_put 1 := ⟨tin1 10 rfl rfl, tin5 107 rfl rfl, ⟨by decide, by decide, by decide +kernel⟩, by decide⟩
theorem wX9_210 : VC RX9 210 mX9_put 1 9 80 TX9 := ⟨cbX9_put, tin5 104 rfl rfl, tin5 106 rfl rfl, tinP2 14 rfl, CL9⟩
theorem fX9_13 : FR RX9 13 9 1 80 RX9 TX9 := ⟨CL9, by decide, rfl, tin4 99 rfl rfl⟩
theorem fX9_214 : FI RX9 214 9 4 80 RX9 TX9 := ⟨CL9, by decide, rfl, tin4 102 rfl rfl⟩
theorem fX9_17 : FR RX9 17 9 3 80 RX9 TX9 := ⟨CL9, by decide, rfl, tin4 101 rfl rfl⟩
theorem cstX9_217 : Cond.constantLong RX9 217 27 ∈ TBL := tin4 98 rfl rfl
theorem cbX9_more : CB mX9_more 2 := ⟨tin1 10 rfl rfl, tin4 97 rfl rfl, ⟨by decide, by decide, by decide +kernel⟩, by decide⟩
theorem wX9_219 : SC RX9 219 mX9_more 2 := ⟨cbX9_more, tin4 95 rfl rfl, tin4 96 rfl rfl⟩
theorem fX9_20 : FR RX9 20 9 5 80 RX9 TX9 := ⟨CL9, by decide, rfl, tin4 103 rfl rfl⟩
theorem fX9_223 : FI RX9 223 9 10 80 RX9 TX9 := ⟨CL9, by decide, rfl, tin4 108 rfl rfl⟩
theorem fX9_24 : FR RX9 24 9 6 80 RX9 TX9 := ⟨CL9, by decide, rfl, tin4 104 rfl rfl⟩
theorem fX9_27 : FR RX9 27 9 7 80 RX9 TX9 := ⟨CL9, by decide, rfl, tin4 105 rfl rfl⟩
theorem fX9_30 : FR RX9 30 9 8 80 RX9 TX9 := ⟨CL9, by decide, rfl, tin4 106 rfl rfl⟩
theorem cbX9_at : CB mX9_at 1 := ⟨tin1 10 rfl rfl, tin5 123 rfl rfl, ⟨by decide, by decide, by decide +kernel⟩, by decide⟩
theorem wX9_226 : VC RX9 226 mX9_at 1 9 80 TX9 := ⟨cbX9_at, tin5 120 rfl rfl, tin5 122 rfl rfl, tinP3 0 rfl, CL9⟩
theorem cbX9_token : CB mX9_token 4 := ⟨tin1 10 rfl rfl, tin5 127 rfl rfl, ⟨by decide, by decide, by decide +kernel⟩, by decide⟩
theorem wX9_229 : VC RX9 229 mX9_token 4 9 80 TX9 := ⟨cbX9_token, tin5 124 rfl rfl, tin5 126 rfl rfl, tinP3 1 rfl, CL9⟩
theorem cbX9_isLetter : CB mX9_isLetter 1 := ⟨tin1 10 rfl rfl, tin5 130 rfl rfl, ⟨by decide, by decide, by decide +kernel⟩, by decide⟩
theorem wX9_233 : SC RX9 233 mX9_isLetter 1 := ⟨cbX9_isLetter, tin5 128 rfl rfl, tin5 129 rfl rfl⟩
theorem fX9_34 : FR RX9 34 9 9 80 RX9 TX9 := ⟨CL9, by decide, rfl, tin4 107 rfl rfl⟩
theorem cbX9_isDigit : CB mX9_isDigit 1 := ⟨tin1 10 rfl rfl, tin5 133 rfl rfl, ⟨by decide, by decide, by decide +kernel⟩, by decide⟩
theorem wX9_237 : SC RX9 237 mX9_isDigit 1 := ⟨cbX9_isDigit, tin5 131 rfl rfl, tin5 132 rfl rfl⟩
theorem cbX9_sign : CB mX9_sign 3 := ⟨tin1 10 rfl rfl, tin5 137 rfl rfl, ⟨by decide, by decide, by decide +kernel⟩, by decide⟩
theorem wX9_240 : VC RX9 240 mX9_sign 3 9 80 TX9 := ⟨cbX9_sign, tin5 134 rfl rfl, tin5 136 rfl rfl, tinP3 2 rfl, CL9⟩
theorem fX9_244 : FI RX9 244 9 13 80 RX9 TX9 := ⟨CL9, by decide, rfl, tin4 111 rfl rfl⟩
theorem fX9_247 : FI RX9 247 9 11 80 RX9 TX9 := ⟨CL9, by decide, rfl, tin4 109 rfl rfl⟩
theorem fX9_250 : FI RX9 250 9 14 80 RX9 TX9 := ⟨CL9, by decide, rfl, tin4 112 rfl rfl⟩
theorem fX9_253 : FI RX9 253 9 15 80 RX9 TX9 := ⟨CL9, by decide, rfl, tin4 113 rfl rfl⟩
theorem fX9_256 : FI RX9 256 9 16 80 RX9 TX9 := ⟨CL9, by decide, rfl, tin4 114 rfl rfl⟩
theorem cbX9_fail : CB mX9_fail 1 := ⟨tin1 10 rfl rfl, tin5 149 rfl rfl, ⟨by decide, by decide, by decide +kernel⟩, by decide⟩
theorem wX9_259 : VC RX9 259 mX9_fail 1 9 80 TX9 := ⟨cbX9_fail, tin5 146 rfl rfl, tin5 148 rfl rfl, tinP3 5 rfl, CL9⟩
theorem cbX9_is : CB mX9_is 1 := ⟨tin1 10 rfl rfl, tin5 141 rfl rfl, ⟨by decide, by decide, by decide +kernel⟩, by decide⟩
theorem wX9_262 : VC RX9 262 mX9_is 1 9 80 TX9 := ⟨cbX9_is, tin5 138 rfl rfl, tin5 140 rfl rfl, tinP3 3 rfl, CL9⟩
theorem cbX9_next : CB mX9_next 0 := ⟨tin1 10 rfl rfl, tin5 153 rfl rfl, ⟨by decide, by decide, by decide +kernel⟩, by decide⟩
theorem wX9_265 : VC RX9 265 mX9_next 0 9 80 TX9 := ⟨cbX9_next, tin5 150 rfl rfl, tin5 152 rfl rfl, tinP3 6 rfl, CL9⟩
theorem cbX9_cut : CB mX9_cut 0 := ⟨tin1 10 rfl rfl, tin5 119 rfl rfl, ⟨by decide, by decide, by decide +kernel⟩, by decide⟩
theorem wX9_268 : VC RX9 268 mX9_cut 0 9 80 TX9 := ⟨cbX9_cut, tin5 116 rfl rfl, tin5 118 rfl rfl, tinP2 15 rfl, CL9⟩
theorem fX9_271 : FI RX9 271 9 12 80 RX9 TX9 := ⟨CL9, by decide, rfl, tin4 110 rfl rfl⟩
theorem fX9_274 : FI RX9 274 9 18 80 RX9 TX9 := ⟨CL9, by decide, rfl, tin4 116 rfl rfl⟩
theorem fX9_277 : FI RX9 277 9 19 80 RX9 TX9 := ⟨CL9, by decide, rfl, tin4 117 rfl rfl⟩
theorem fX9_40 : FR RX9 40 9 20 80 RX9 TX9 := ⟨CL9, by decide, rfl, tin4 118 rfl rfl⟩
theorem fX9_61 : FR RX9 61 9 27 80 RX9 TX9 := ⟨CL9, by decide, rfl, tin4 125 rfl rfl⟩
theorem fX9_280 : FI RX9 280 9 33 80 RX9 TX9 := ⟨CL9, by decide, rfl, tin4 131 rfl rfl⟩
theorem cbX9_tellRule : CB mX9_tellRule 0 := ⟨tin1 10 rfl rfl, tin5 145 rfl rfl, ⟨by decide, by decide, by decide +kernel⟩, by decide⟩
theorem wX9_283 : VC RX9 283 mX9_tellRule 0 9 80 TX9 := ⟨cbX9_tellRule, tin5 142 rfl rfl, tin5 144 rfl rfl, tinP3 4 rfl, CL9⟩
theorem fX9_37 : FI RX9 37 9 17 80 RX9 TX9 := ⟨CL9, by decide, rfl, tin4 115 rfl rfl⟩
theorem fX9_137 : FI RX9 137 9 58 80 RX9 TX9 := ⟨CL9, by decide, rfl, tin4 156 rfl rfl⟩
theorem fX9_43 : FR RX9 43 9 21 80 RX9 TX9 := ⟨CL9, by decide, rfl, tin4 119 rfl rfl⟩
theorem fX9_46 : FR RX9 46 9 22 80 RX9 TX9 := ⟨CL9, by decide, rfl, tin4 120 rfl rfl⟩
theorem cbX9_must : CB mX9_must 1 := ⟨tin1 10 rfl rfl, tin5 157 rfl rfl, ⟨by decide, by decide, by decide +kernel⟩, by decide⟩
theorem wX9_286 : VC RX9 286 mX9_must 1 9 80 TX9 := ⟨cbX9_must, tin5 154 rfl rfl, tin5 156 rfl rfl, tinP3 7 rfl, CL9⟩
theorem cbX9_wrong : CB mX9_wrong 2 := ⟨tin1 10 rfl rfl, tin5 161 rfl rfl, ⟨by decide, by decide, by decide +kernel⟩, by decide⟩
theorem wX9_289 : VC RX9 289 mX9_wrong 2 9 80 TX9 := ⟨cbX9_wrong, tin5 158 rfl rfl, tin5 160 rfl rfl, tinP3 8 rfl, CL9⟩
theorem fX9_49 : FR RX9 49 9 23 80 RX9 TX9 := ⟨CL9, by decide, rfl, tin4 121 rfl rfl⟩
theorem cbX9_expression : CB mX9_expression 0 := ⟨tin1 10 rfl rfl, tin5 165 rfl rfl, ⟨by decide, by decide, by decide +kernel⟩, by decide⟩
theorem wX9_293 : VC RX9 293 mX9_expression 0 9 80 TX9 := ⟨cbX9_expression, tin5 162 rfl rfl, tin5 164 rfl rfl, tinP3 9 rfl, CL9⟩
theorem fX9_52 : FR RX9 52 9 24 80 RX9 TX9 := ⟨CL9, by decide, rfl, tin4 122 rfl rfl⟩
theorem fX9_55 : FR RX9 55 9 25 80 RX9 TX9 := ⟨CL9, by decide, rfl, tin4 123 rfl rfl⟩
theorem cbX9_relation : CB mX9_relation 1 := ⟨tin1 10 rfl rfl, tin5 177 rfl rfl, ⟨by decide, by decide, by decide +kernel⟩, by decide⟩
theorem wX9_296 : VC RX9 296 mX9_relation 1 9 80 TX9 := ⟨cbX9_relation, tin5 174 rfl rfl, tin5 176 rfl rfl, tinP3 12 rfl, CL9⟩
theorem fX9_58 : FR RX9 58 9 26 80 RX9 TX9 := ⟨CL9, by decide, rfl, tin4 124 rfl rfl⟩
theorem fX9_64 : FR RX9 64 9 28 80 RX9 TX9 := ⟨CL9, by decide, rfl, tin4 126 rfl rfl⟩
theorem fX9_67 : FR RX9 67 9 29 80 RX9 TX9 := ⟨CL9, by decide, rfl, tin4 127 rfl rfl⟩
theorem fX9_70 : FR RX9 70 9 30 80 RX9 TX9 := ⟨CL9, by decide, rfl, tin4 128 rfl rfl⟩
theorem fX9_73 : FR RX9 73 9 31 80 RX9 TX9 := ⟨CL9, by decide, rfl, tin4 129 rfl rfl⟩
theorem fX9_76 : FR RX9 76 9 32 80 RX9 TX9 := ⟨CL9, by decide, rfl, tin4 130 rfl rfl⟩
theorem fX9_80 : FR RX9 80 9 34 80 RX9 TX9 := ⟨CL9, by decide, rfl, tin4 132 rfl rfl⟩
theorem fX9_83 : FR RX9 83 9 35 80 RX9 TX9 := ⟨CL9, by decide, rfl, tin4 133 rfl rfl⟩
theorem fX9_300 : FI RX9 300 9 37 80 RX9 TX9 := ⟨CL9, by decide, rfl, tin4 135 rfl rfl⟩
theorem fX9_86 : FR RX9 86 9 36 80 RX9 TX9 := ⟨CL9, by decide, rfl, tin4 134 rfl rfl⟩
theorem cbX9_emit : CB mX9_emit 2 := ⟨tin1 10 rfl rfl, tin5 169 rfl rfl, ⟨by decide, by decide, by decide +kernel⟩, by decide⟩
theorem wX9_303 : VC RX9 303 mX9_emit 2 9 80 TX9 := ⟨cbX9_emit, tin5 166 rfl rfl, tin5 168 rfl rfl, tinP3 10 rfl, CL9⟩
theorem cbX9_comesOut : CB mX9_comesOut 1 := ⟨tin1 10 rfl rfl, tin5 173 rfl rfl, ⟨by decide, by decide, by decide +kernel⟩, by decide⟩
theorem wX9_306 : VC RX9 306 mX9_comesOut 1 9 80 TX9 := ⟨cbX9_comesOut, tin5 170 rfl rfl, tin5 172 rfl rfl, tinP3 11 rfl, CL9⟩
theorem fX9_309 : FI RX9 309 9 38 80 RX9 TX9 := ⟨CL9, by decide, rfl, tin4 136 rfl rfl⟩
theorem fX9_312 : FI RX9 312 9 44 80 RX9 TX9 := ⟨CL9, by decide, rfl, tin4 142 rfl rfl⟩
theorem fX9_315 : FI RX9 315 9 54 80 RX9 TX9 := ⟨CL9, by decide, rfl, tin4 152 rfl rfl⟩
theorem fX9_89 : FR RX9 89 9 39 80 RX9 TX9 := ⟨CL9, by decide, rfl, tin4 137 rfl rfl⟩
theorem fX9_92 : FR RX9 92 9 40 80 RX9 TX9 := ⟨CL9, by decide, rfl, tin4 138 rfl rfl⟩
theorem fX9_95 : FR RX9 95 9 41 80 RX9 TX9 := ⟨CL9, by decide, rfl, tin4 139 rfl rfl⟩
theorem fX9_98 : FR RX9 98 9 42 80 RX9 TX9 := ⟨CL9, by decide, rfl, tin4 140 rfl rfl⟩
theorem cbX9_isInn : CB mX9_isInn 1 := ⟨tin1 10 rfl rfl, tin5 193 rfl rfl, ⟨by decide, by decide, by decide +kernel⟩, by decide⟩
theorem wX9_318 : VC RX9 318 mX9_isInn 1 9 80 TX9 := ⟨cbX9_isInn, tin5 190 rfl rfl, tin5 192 rfl rfl, tinP3 13 rfl, CL9⟩
theorem fX9_101 : FR RX9 101 9 43 80 RX9 TX9 := ⟨CL9, by decide, rfl, tin4 141 rfl rfl⟩
theorem cbX9_isDay : CB mX9_isDay 1 := ⟨tin1 10 rfl rfl, tin5 200 rfl rfl, ⟨by decide, by decide, by decide +kernel⟩, by decide⟩
theorem wX9_321 : SC RX9 321 mX9_isDay 1 := ⟨cbX9_isDay, tin5 198 rfl rfl, tin5 199 rfl rfl⟩
theorem fX9_104 : FR RX9 104 9 45 80 RX9 TX9 := ⟨CL9, by decide, rfl, tin4 143 rfl rfl⟩
theorem fX9_107 : FR RX9 107 9 46 80 RX9 TX9 := ⟨CL9, by decide, rfl, tin4 144 rfl rfl⟩
theorem fX9_110 : FR RX9 110 9 47 80 RX9 TX9 := ⟨CL9, by decide, rfl, tin4 145 rfl rfl⟩
theorem fX9_113 : FR RX9 113 9 48 80 RX9 TX9 := ⟨CL9, by decide, rfl, tin4 146 rfl rfl⟩
theorem fX9_116 : FR RX9 116 9 49 80 RX9 TX9 := ⟨CL9, by decide, rfl, tin4 147 rfl rfl⟩
theorem fX9_119 : FR RX9 119 9 50 80 RX9 TX9 := ⟨CL9, by decide, rfl, tin4 148 rfl rfl⟩
theorem fX9_122 : FR RX9 122 9 51 80 RX9 TX9 := ⟨CL9, by decide, rfl, tin4 149 rfl rfl⟩
theorem fX9_324 : FI RX9 324 9 52 80 RX9 TX9 := ⟨CL9, by decide, rfl, tin4 150 rfl rfl⟩
theorem cbX9_isCaravan : CB mX9_isCaravan 1 := ⟨tin1 10 rfl rfl, tin5 208 rfl rfl, ⟨by decide, by decide, by decide +kernel⟩, by decide⟩
theorem wX9_327 : VC RX9 327 mX9_isCaravan 1 9 80 TX9 := ⟨cbX9_isCaravan, tin5 205 rfl rfl, tin5 207 rfl rfl, tinP3 14 rfl, CL9⟩
theorem fX9_125 : FR RX9 125 9 53 80 RX9 TX9 := ⟨CL9, by decide, rfl, tin4 151 rfl rfl⟩
theorem fX9_128 : FR RX9 128 9 55 80 RX9 TX9 := ⟨CL9, by decide, rfl, tin4 153 rfl rfl⟩
theorem fX9_131 : FR RX9 131 9 56 80 RX9 TX9 := ⟨CL9, by decide, rfl, tin4 154 rfl rfl⟩
theorem fX9_134 : FR RX9 134 9 57 80 RX9 TX9 := ⟨CL9, by decide, rfl, tin4 155 rfl rfl⟩
theorem cbX9_fact : CB mX9_fact 3 := ⟨tin1 10 rfl rfl, tin5 216 rfl rfl, ⟨by decide, by decide, by decide +kernel⟩, by decide⟩
theorem wX9_330 : VC RX9 330 mX9_fact 3 9 80 TX9 := ⟨cbX9_fact, tin5 213 rfl rfl, tin5 215 rfl rfl, tinP3 15 rfl, CL9⟩
theorem fX9_185 : FR RX9 185 9 74 80 RX9 TX9 := ⟨CL9, by decide, rfl, tin4 172 rfl rfl⟩
theorem fX9_173 : FR RX9 173 9 70 80 RX9 TX9 := ⟨CL9, by decide, rfl, tin4 168 rfl rfl⟩
theorem fX9_176 : FR RX9 176 9 71 80 RX9 TX9 := ⟨CL9, by decide, rfl, tin4 169 rfl rfl⟩
theorem fX9_188 : FR RX9 188 9 75 80 RX9 TX9 := ⟨CL9, by decide, rfl, tin4 173 rfl rfl⟩
theorem cbX9_value : CB mX9_value 2 := ⟨tin1 10 rfl rfl, tin6 13 rfl rfl, ⟨by decide, by decide, by decide +kernel⟩, by decide⟩
theorem wX9_333 : VC RX9 333 mX9_value 2 9 80 TX9 := ⟨cbX9_value, tin6 10 rfl rfl, tin6 12 rfl rfl, tinP4 6 rfl, CL9⟩
theorem cbX9_holds : CB mX9_holds 1 := ⟨tin1 10 rfl rfl, tin6 9 rfl rfl, ⟨by decide, by decide, by decide +kernel⟩, by decide⟩
theorem wX9_337 : VC RX9 337 mX9_holds 1 9 80 TX9 := ⟨cbX9_holds, tin6 6 rfl rfl, tin6 8 rfl rfl, tinP4 5 rfl, CL9⟩
theorem fX9_167 : FR RX9 167 9 68 80 RX9 TX9 := ⟨CL9, by decide, rfl, tin4 166 rfl rfl⟩
theorem fX9_170 : FR RX9 170 9 69 80 RX9 TX9 := ⟨CL9, by decide, rfl, tin4 167 rfl rfl⟩
theorem fX9_179 : FR RX9 179 9 72 80 RX9 TX9 := ⟨CL9, by decide, rfl, tin4 170 rfl rfl⟩
theorem fX9_182 : FR RX9 182 9 73 80 RX9 TX9 := ⟨CL9, by decide, rfl, tin4 171 rfl rfl⟩
theorem cbX9_morning : CB mX9_morning 2 := ⟨tin1 10 rfl rfl, tin5 237 rfl rfl, ⟨by decide, by decide, by decide +kernel⟩, by decide⟩
theorem wX9_340 : VC RX9 340 mX9_morning 2 9 80 TX9 := ⟨cbX9_morning, tin5 234 rfl rfl, tin5 236 rfl rfl, tinP4 2 rfl, CL9⟩
theorem cbX9_evening : CB mX9_evening 2 := ⟨tin1 10 rfl rfl, tin6 21 rfl rfl, ⟨by decide, by decide, by decide +kernel⟩, by decide⟩
theorem wX9_343 : VC RX9 343 mX9_evening 2 9 80 TX9 := ⟨cbX9_evening, tin6 18 rfl rfl, tin6 20 rfl rfl, tinP4 8 rfl, CL9⟩
theorem fX9_140 : FR RX9 140 9 59 80 RX9 TX9 := ⟨CL9, by decide, rfl, tin4 157 rfl rfl⟩
theorem fX9_146 : FR RX9 146 9 61 80 RX9 TX9 := ⟨CL9, by decide, rfl, tin4 159 rfl rfl⟩
theorem fX9_149 : FR RX9 149 9 62 80 RX9 TX9 := ⟨CL9, by decide, rfl, tin4 160 rfl rfl⟩
theorem fX9_152 : FR RX9 152 9 63 80 RX9 TX9 := ⟨CL9, by decide, rfl, tin4 161 rfl rfl⟩
theorem fX9_143 : FR RX9 143 9 60 80 RX9 TX9 := ⟨CL9, by decide, rfl, tin4 158 rfl rfl⟩
theorem fX9_155 : FR RX9 155 9 64 80 RX9 TX9 := ⟨CL9, by decide, rfl, tin4 162 rfl rfl⟩
theorem fX9_164 : FR RX9 164 9 67 80 RX9 TX9 := ⟨CL9, by decide, rfl, tin4 165 rfl rfl⟩
theorem fX9_158 : FR RX9 158 9 65 80 RX9 TX9 := ⟨CL9, by decide, rfl, tin4 163 rfl rfl⟩
theorem cbX9_asks : CB mX9_asks 3 := ⟨tin1 10 rfl rfl, tin6 1 rfl rfl, ⟨by decide, by decide, by decide +kernel⟩, by decide⟩
theorem wX9_346 : VC RX9 346 mX9_asks 3 9 80 TX9 := ⟨cbX9_asks, tin5 238 rfl rfl, tin6 0 rfl rfl, tinP4 3 rfl, CL9⟩
theorem cbX9_barOf : CB mX9_barOf 1 := ⟨tin1 10 rfl rfl, tin6 5 rfl rfl, ⟨by decide, by decide, by decide +kernel⟩, by decide⟩
theorem wX9_350 : VC RX9 350 mX9_barOf 1 9 80 TX9 := ⟨cbX9_barOf, tin6 2 rfl rfl, tin6 4 rfl rfl, tinP4 4 rfl, CL9⟩
theorem cbX9_says : CB mX9_says 2 := ⟨tin1 10 rfl rfl, tin6 17 rfl rfl, ⟨by decide, by decide, by decide +kernel⟩, by decide⟩
theorem wX9_353 : VC RX9 353 mX9_says 2 9 80 TX9 := ⟨cbX9_says, tin6 14 rfl rfl, tin6 16 rfl rfl, tinP4 7 rfl, CL9⟩
theorem fX9_200 : FR RX9 200 9 79 80 RX9 TX9 := ⟨CL9, by decide, rfl, tin4 177 rfl rfl⟩
theorem fX9_191 : FR RX9 191 9 76 80 RX9 TX9 := ⟨CL9, by decide, rfl, tin4 174 rfl rfl⟩
theorem cbX9_lays : CB mX9_lays 2 := ⟨tin1 10 rfl rfl, tin6 25 rfl rfl, ⟨by decide, by decide, by decide +kernel⟩, by decide⟩
theorem wX9_356 : VC RX9 356 mX9_lays 2 9 80 TX9 := ⟨cbX9_lays, tin6 22 rfl rfl, tin6 24 rfl rfl, tinP4 9 rfl, CL9⟩
theorem fX9_197 : FR RX9 197 9 78 80 RX9 TX9 := ⟨CL9, by decide, rfl, tin4 176 rfl rfl⟩
theorem fX9_161 : FR RX9 161 9 66 80 RX9 TX9 := ⟨CL9, by decide, rfl, tin4 164 rfl rfl⟩
theorem fX9_194 : FR RX9 194 9 77 80 RX9 TX9 := ⟨CL9, by decide, rfl, tin4 175 rfl rfl⟩
theorem cbX9_isWay : CB mX9_isWay 2 := ⟨tin1 10 rfl rfl, tin6 29 rfl rfl, ⟨by decide, by decide, by decide +kernel⟩, by decide⟩
theorem wX9_359 : VC RX9 359 mX9_isWay 2 9 80 TX9 := ⟨cbX9_isWay, tin6 26 rfl rfl, tin6 28 rfl rfl, tinP4 10 rfl, CL9⟩
theorem cbX9_isAhead : CB mX9_isAhead 2 := ⟨tin1 10 rfl rfl, tin6 33 rfl rfl, ⟨by decide, by decide, by decide +kernel⟩, by decide⟩
theorem wX9_363 : VC RX9 363 mX9_isAhead 2 9 80 TX9 := ⟨cbX9_isAhead, tin6 30 rfl rfl, tin6 32 rfl rfl, tinP4 11 rfl, CL9⟩
theorem cbX9_isKnown : CB mX9_isKnown 1 := ⟨tin1 10 rfl rfl, tin5 228 rfl rfl, ⟨by decide, by decide, by decide +kernel⟩, by decide⟩
theorem wX9_366 : VC RX9 366 mX9_isKnown 1 9 80 TX9 := ⟨cbX9_isKnown, tin5 225 rfl rfl, tin5 227 rfl rfl, tinP4 0 rfl, CL9⟩
theorem cstX9_369 : Cond.constant RX9 369 (-1000000) ∈ TBL := tin5 229 rfl rfl
theorem cbX9_goes : CB mX9_goes 1 := ⟨tin1 10 rfl rfl, tin5 233 rfl rfl, ⟨by decide, by decide, by decide +kernel⟩, by decide⟩
theorem wX9_370 : VC RX9 370 mX9_goes 1 9 80 TX9 := ⟨cbX9_goes, tin5 230 rfl rfl, tin5 232 rfl rfl, tinP4 1 rfl, CL9⟩
theorem cbX9_isOutside : CB mX9_isOutside 2 := ⟨tin1 10 rfl rfl, tin6 37 rfl rfl, ⟨by decide, by decide, by decide +kernel⟩, by decide⟩
theorem wX9_373 : VC RX9 373 mX9_isOutside 2 9 80 TX9 := ⟨cbX9_isOutside, tin6 34 rfl rfl, tin6 36 rfl rfl, tinP4 12 rfl, CL9⟩
theorem cbX8_feed : CB mX8_feed 5 := ⟨tin1 1 rfl rfl, tin2 143 rfl rfl, ⟨by decide, by decide, by decide +kernel⟩, by decide⟩
theorem wL_13 : VC RL 13 mX8_feed 5 8 7 TX8 := ⟨cbX8_feed, tin2 140 rfl rfl, tin2 141 rfl rfl, tin2 142 rfl rfl, CL8⟩
theorem cbX9_feed : CB mX9_feed 5 := ⟨tin1 10 rfl rfl, tin5 103 rfl rfl, ⟨by decide, by decide, by decide +kernel⟩, by decide⟩
theorem wL_17 : VC RL 17 mX9_feed 5 9 80 TX9 := ⟨cbX9_feed, tin5 100 rfl rfl, tin5 101 rfl rfl, tin5 102 rfl rfl, CL9⟩
theorem cbX8_back : CB mX8_back 1 := ⟨tin1 1 rfl rfl, tin2 151 rfl rfl, ⟨by decide, by decide, by decide +kernel⟩, by decide⟩
theorem wL_18 : VC RL 18 mX8_back 1 8 7 TX8 := ⟨cbX8_back, tin2 148 rfl rfl, tin2 149 rfl rfl, tin2 150 rfl rfl, CL8⟩
theorem cbX9_back : CB mX9_back 1 := ⟨tin1 10 rfl rfl, tin5 111 rfl rfl, ⟨by decide, by decide, by decide +kernel⟩, by decide⟩
theorem wL_22 : VC RL 22 mX9_back 1 9 80 TX9 := ⟨cbX9_back, tin5 108 rfl rfl, tin5 109 rfl rfl, tin5 110 rfl rfl, CL9⟩
theorem cbX8_read : CB mX8_read 0 := ⟨tin1 1 rfl rfl, tin2 158 rfl rfl, ⟨by decide, by decide, by decide +kernel⟩, by decide⟩
theorem wL_23 : VC RL 23 mX8_read 0 8 7 TX8 := ⟨cbX8_read, tin2 155 rfl rfl, tin2 156 rfl rfl, tin2 157 rfl rfl, CL8⟩
theorem cbX9_read : CB mX9_read 0 := ⟨tin1 10 rfl rfl, tin5 115 rfl rfl, ⟨by decide, by decide, by decide +kernel⟩, by decide⟩
theorem wL_27 : VC RL 27 mX9_read 0 9 80 TX9 := ⟨cbX9_read, tin5 112 rfl rfl, tin5 113 rfl rfl, tin5 114 rfl rfl, CL9⟩
theorem cbX8_place : CB mX8_place 0 := ⟨tin1 1 rfl rfl, tin3 107 rfl rfl, ⟨by decide, by decide, by decide +kernel⟩, by decide⟩
theorem wL_28 : VC RL 28 mX8_place 0 8 7 TX8 := ⟨cbX8_place, tin3 104 rfl rfl, tin3 105 rfl rfl, tin3 106 rfl rfl, CL8⟩
theorem cbX9_place : CB mX9_place 0 := ⟨tin1 10 rfl rfl, tin5 181 rfl rfl, ⟨by decide, by decide, by decide +kernel⟩, by decide⟩
theorem wL_31 : VC RL 31 mX9_place 0 9 80 TX9 := ⟨cbX9_place, tin5 178 rfl rfl, tin5 179 rfl rfl, tin5 180 rfl rfl, CL9⟩
theorem cbX8_inn : CB mX8_inn 3 := ⟨tin1 1 rfl rfl, tin3 111 rfl rfl, ⟨by decide, by decide, by decide +kernel⟩, by decide⟩
theorem wL_32 : VC RL 32 mX8_inn 3 8 7 TX8 := ⟨cbX8_inn, tin3 108 rfl rfl, tin3 109 rfl rfl, tin3 110 rfl rfl, CL8⟩
theorem cbX9_inn : CB mX9_inn 3 := ⟨tin1 10 rfl rfl, tin5 185 rfl rfl, ⟨by decide, by decide, by decide +kernel⟩, by decide⟩
theorem wL_36 : VC RL 36 mX9_inn 3 9 80 TX9 := ⟨cbX9_inn, tin5 182 rfl rfl, tin5 183 rfl rfl, tin5 184 rfl rfl, CL9⟩
theorem cbX8_room : CB mX8_room 2 := ⟨tin1 1 rfl rfl, tin3 116 rfl rfl, ⟨by decide, by decide, by decide +kernel⟩, by decide⟩
theorem wL_37 : VC RL 37 mX8_room 2 8 7 TX8 := ⟨cbX8_room, tin3 113 rfl rfl, tin3 114 rfl rfl, tin3 115 rfl rfl, CL8⟩
theorem cbX9_room : CB mX9_room 2 := ⟨tin1 10 rfl rfl, tin5 189 rfl rfl, ⟨by decide, by decide, by decide +kernel⟩, by decide⟩
theorem wL_41 : VC RL 41 mX9_room 2 9 80 TX9 := ⟨cbX9_room, tin5 186 rfl rfl, tin5 187 rfl rfl, tin5 188 rfl rfl, CL9⟩
theorem cbX8_caravan : CB mX8_caravan 6 := ⟨tin1 1 rfl rfl, tin3 125 rfl rfl, ⟨by decide, by decide, by decide +kernel⟩, by decide⟩
theorem wL_42 : VC RL 42 mX8_caravan 6 8 7 TX8 := ⟨cbX8_caravan, tin3 122 rfl rfl, tin3 123 rfl rfl, tin3 124 rfl rfl, CL8⟩
theorem cbX9_caravan : CB mX9_caravan 6 := ⟨tin1 10 rfl rfl, tin5 197 rfl rfl, ⟨by decide, by decide, by decide +kernel⟩, by decide⟩
theorem wL_46 : VC RL 46 mX9_caravan 6 9 80 TX9 := ⟨cbX9_caravan, tin5 194 rfl rfl, tin5 195 rfl rfl, tin5 196 rfl rfl, CL9⟩
theorem cbX8_bale : CB mX8_bale 1 := ⟨tin1 1 rfl rfl, tin3 132 rfl rfl, ⟨by decide, by decide, by decide +kernel⟩, by decide⟩
theorem wL_47 : VC RL 47 mX8_bale 1 8 7 TX8 := ⟨cbX8_bale, tin3 129 rfl rfl, tin3 130 rfl rfl, tin3 131 rfl rfl, CL8⟩
theorem cbX9_bale : CB mX9_bale 1 := ⟨tin1 10 rfl rfl, tin5 204 rfl rfl, ⟨by decide, by decide, by decide +kernel⟩, by decide⟩
theorem wL_50 : VC RL 50 mX9_bale 1 9 80 TX9 := ⟨cbX9_bale, tin5 201 rfl rfl, tin5 202 rfl rfl, tin5 203 rfl rfl, CL9⟩
theorem cbX8_shut : CB mX8_shut 2 := ⟨tin1 1 rfl rfl, tin3 140 rfl rfl, ⟨by decide, by decide, by decide +kernel⟩, by decide⟩
theorem wL_51 : VC RL 51 mX8_shut 2 8 7 TX8 := ⟨cbX8_shut, tin3 137 rfl rfl, tin3 138 rfl rfl, tin3 139 rfl rfl, CL8⟩
theorem cbX9_shut : CB mX9_shut 2 := ⟨tin1 10 rfl rfl, tin5 212 rfl rfl, ⟨by decide, by decide, by decide +kernel⟩, by decide⟩
theorem wL_54 : VC RL 54 mX9_shut 2 9 80 TX9 := ⟨cbX9_shut, tin5 209 rfl rfl, tin5 210 rfl rfl, tin5 211 rfl rfl, CL9⟩
theorem cbX8_look : CB mX8_look 3 := ⟨tin1 1 rfl rfl, tin3 152 rfl rfl, ⟨by decide, by decide, by decide +kernel⟩, by decide⟩
theorem wL_55 : VC RL 55 mX8_look 3 8 7 TX8 := ⟨cbX8_look, tin3 149 rfl rfl, tin3 150 rfl rfl, tin3 151 rfl rfl, CL8⟩
theorem cbX9_look : CB mX9_look 3 := ⟨tin1 10 rfl rfl, tin5 220 rfl rfl, ⟨by decide, by decide, by decide +kernel⟩, by decide⟩
theorem wL_59 : VC RL 59 mX9_look 3 9 80 TX9 := ⟨cbX9_look, tin5 217 rfl rfl, tin5 218 rfl rfl, tin5 219 rfl rfl, CL9⟩
theorem cbX8_state : CB mX8_state 4 := ⟨tin1 1 rfl rfl, tin3 164 rfl rfl, ⟨by decide, by decide, by decide +kernel⟩, by decide⟩
theorem wL_60 : VC RL 60 mX8_state 4 8 7 TX8 := ⟨cbX8_state, tin3 161 rfl rfl, tin3 162 rfl rfl, tin3 163 rfl rfl, CL8⟩
theorem cbX9_state : CB mX9_state 4 := ⟨tin1 10 rfl rfl, tin5 224 rfl rfl, ⟨by decide, by decide, by decide +kernel⟩, by decide⟩
theorem wL_64 : VC RL 64 mX9_state 4 9 80 TX9 := ⟨cbX9_state, tin5 221 rfl rfl, tin5 222 rfl rfl, tin5 223 rfl rfl, CL9⟩
theorem cbX8_house : CB mX8_house 4 := ⟨tin1 1 rfl rfl, tin4 28 rfl rfl, ⟨by decide, by decide, by decide +kernel⟩, by decide⟩
theorem wL_65 : VC RL 65 mX8_house 4 8 7 TX8 := ⟨cbX8_house, tin4 25 rfl rfl, tin4 26 rfl rfl, tin4 27 rfl rfl, CL8⟩
theorem cbX9_house : CB mX9_house 4 := ⟨tin1 10 rfl rfl, tin6 41 rfl rfl, ⟨by decide, by decide, by decide +kernel⟩, by decide⟩
theorem wL_68 : VC RL 68 mX9_house 4 9 80 TX9 := ⟨cbX9_house, tin6 38 rfl rfl, tin6 39 rfl rfl, tin6 40 rfl rfl, CL9⟩
theorem cbX8_full : CB mX8_full 4 := ⟨tin1 1 rfl rfl, tin4 40 rfl rfl, ⟨by decide, by decide, by decide +kernel⟩, by decide⟩
theorem wL_69 : VC RL 69 mX8_full 4 8 7 TX8 := ⟨cbX8_full, tin4 37 rfl rfl, tin4 38 rfl rfl, tin4 39 rfl rfl, CL8⟩
theorem cbX9_full : CB mX9_full 4 := ⟨tin1 10 rfl rfl, tin6 45 rfl rfl, ⟨by decide, by decide, by decide +kernel⟩, by decide⟩
theorem wL_72 : VC RL 72 mX9_full 4 9 80 TX9 := ⟨cbX9_full, tin6 42 rfl rfl, tin6 43 rfl rfl, tin6 44 rfl rfl, CL9⟩
theorem cbX8_comes : CB mX8_comes 2 := ⟨tin1 1 rfl rfl, tin4 48 rfl rfl, ⟨by decide, by decide, by decide +kernel⟩, by decide⟩
theorem wL_73 : VC RL 73 mX8_comes 2 8 7 TX8 := ⟨cbX8_comes, tin4 45 rfl rfl, tin4 46 rfl rfl, tin4 47 rfl rfl, CL8⟩
theorem cbX9_comes : CB mX9_comes 2 := ⟨tin1 10 rfl rfl, tin6 49 rfl rfl, ⟨by decide, by decide, by decide +kernel⟩, by decide⟩
theorem wL_76 : VC RL 76 mX9_comes 2 9 80 TX9 := ⟨cbX9_comes, tin6 46 rfl rfl, tin6 47 rfl rfl, tin6 48 rfl rfl, CL9⟩
theorem cbX8_barred : CB mX8_barred 3 := ⟨tin1 1 rfl rfl, tin4 52 rfl rfl, ⟨by decide, by decide, by decide +kernel⟩, by decide⟩
theorem wL_77 : VC RL 77 mX8_barred 3 8 7 TX8 := ⟨cbX8_barred, tin4 49 rfl rfl, tin4 50 rfl rfl, tin4 51 rfl rfl, CL8⟩
theorem cbX9_barred : CB mX9_barred 3 := ⟨tin1 10 rfl rfl, tin6 53 rfl rfl, ⟨by decide, by decide, by decide +kernel⟩, by decide⟩
theorem wL_80 : VC RL 80 mX9_barred 3 9 80 TX9 := ⟨cbX9_barred, tin6 50 rfl rfl, tin6 51 rfl rfl, tin6 52 rfl rfl, CL9⟩
theorem cbX8_could : CB mX8_could 2 := ⟨tin1 1 rfl rfl, tin4 56 rfl rfl, ⟨by decide, by decide, by decide +kernel⟩, by decide⟩
theorem wL_81 : VC RL 81 mX8_could 2 8 7 TX8 := ⟨cbX8_could, tin4 53 rfl rfl, tin4 54 rfl rfl, tin4 55 rfl rfl, CL8⟩
theorem cbX9_could : CB mX9_could 2 := ⟨tin1 10 rfl rfl, tin6 57 rfl rfl, ⟨by decide, by decide, by decide +kernel⟩, by decide⟩
theorem wL_84 : VC RL 84 mX9_could 2 9 80 TX9 := ⟨cbX9_could, tin6 54 rfl rfl, tin6 55 rfl rfl, tin6 56 rfl rfl, CL9⟩
theorem cbX8_sealed : CB mX8_sealed 3 := ⟨tin1 1 rfl rfl, tin4 73 rfl rfl, ⟨by decide, by decide, by decide +kernel⟩, by decide⟩
theorem wL_85 : VC RL 85 mX8_sealed 3 8 7 TX8 := ⟨cbX8_sealed, tin4 70 rfl rfl, tin4 71 rfl rfl, tin4 72 rfl rfl, CL8⟩
theorem cbX9_sealed : CB mX9_sealed 3 := ⟨tin1 10 rfl rfl, tin6 61 rfl rfl, ⟨by decide, by decide, by decide +kernel⟩, by decide⟩
theorem wL_88 : VC RL 88 mX9_sealed 3 9 80 TX9 := ⟨cbX9_sealed, tin6 58 rfl rfl, tin6 59 rfl rfl, tin6 60 rfl rfl, CL9⟩
theorem cbX8_tolls : CB mX8_tolls 3 := ⟨tin1 1 rfl rfl, tin4 77 rfl rfl, ⟨by decide, by decide, by decide +kernel⟩, by decide⟩
theorem wL_89 : VC RL 89 mX8_tolls 3 8 7 TX8 := ⟨cbX8_tolls, tin4 74 rfl rfl, tin4 75 rfl rfl, tin4 76 rfl rfl, CL8⟩
theorem cbX9_tolls : CB mX9_tolls 3 := ⟨tin1 10 rfl rfl, tin6 65 rfl rfl, ⟨by decide, by decide, by decide +kernel⟩, by decide⟩
theorem wL_92 : VC RL 92 mX9_tolls 3 9 80 TX9 := ⟨cbX9_tolls, tin6 62 rfl rfl, tin6 63 rfl rfl, tin6 64 rfl rfl, CL9⟩
theorem cbX8_crowded : CB mX8_crowded 3 := ⟨tin1 1 rfl rfl, tin4 81 rfl rfl, ⟨by decide, by decide, by decide +kernel⟩, by decide⟩
theorem wL_93 : VC RL 93 mX8_crowded 3 8 7 TX8 := ⟨cbX8_crowded, tin4 78 rfl rfl, tin4 79 rfl rfl, tin4 80 rfl rfl, CL8⟩
theorem cbX9_crowded : CB mX9_crowded 3 := ⟨tin1 10 rfl rfl, tin6 69 rfl rfl, ⟨by decide, by decide, by decide +kernel⟩, by decide⟩
theorem wL_96 : VC RL 96 mX9_crowded 3 9 80 TX9 := ⟨cbX9_crowded, tin6 66 rfl rfl, tin6 67 rfl rfl, tin6 68 rfl rfl, CL9⟩
theorem cbX8_count : CB mX8_count 1 := ⟨tin1 1 rfl rfl, tin4 85 rfl rfl, ⟨by decide, by decide, by decide +kernel⟩, by decide⟩
theorem wL_97 : VC RL 97 mX8_count 1 8 7 TX8 := ⟨cbX8_count, tin4 82 rfl rfl, tin4 83 rfl rfl, tin4 84 rfl rfl, CL8⟩
theorem cbX9_count : CB mX9_count 1 := ⟨tin1 10 rfl rfl, tin6 73 rfl rfl, ⟨by decide, by decide, by decide +kernel⟩, by decide⟩
theorem wL_100 : VC RL 100 mX9_count 1 9 80 TX9 := ⟨cbX9_count, tin6 70 rfl rfl, tin6 71 rfl rfl, tin6 72 rfl rfl, CL9⟩
theorem sw_out_0_3 {x : Int32} (h0 : ¬ x = (0 : Int32)) (h1 : ¬ x = (1 : Int32)) (h2 : ¬ x = (2 : Int32)) (h3 : ¬ x = (3 : Int32)) : x.toInt < 0 ∨ 3 < x.toInt := by
  have e : ∀ c : Int32, ¬ x = c → ¬ x.toInt = c.toInt := fun c h q => h (Int32.toInt_inj.mp q)
  have q0 : ¬ x.toInt = 0 := e 0 h0
  have q1 : ¬ x.toInt = 1 := e 1 h1
  have q2 : ¬ x.toInt = 2 := e 2 h2
  have q3 : ¬ x.toInt = 3 := e 3 h3
  omega
theorem sw_out_0_5 {x : Int32} (h0 : ¬ x = (0 : Int32)) (h1 : ¬ x = (1 : Int32)) (h2 : ¬ x = (2 : Int32)) (h3 : ¬ x = (3 : Int32)) (h4 : ¬ x = (4 : Int32)) (h5 : ¬ x = (5 : Int32)) : x.toInt < 0 ∨ 5 < x.toInt := by
  have e : ∀ c : Int32, ¬ x = c → ¬ x.toInt = c.toInt := fun c h q => h (Int32.toInt_inj.mp q)
  have q0 : ¬ x.toInt = 0 := e 0 h0
  have q1 : ¬ x.toInt = 1 := e 1 h1
  have q2 : ¬ x.toInt = 2 := e 2 h2
  have q3 : ¬ x.toInt = 3 := e 3 h3
  have q4 : ¬ x.toInt = 4 := e 4 h4
  have q5 : ¬ x.toInt = 5 := e 5 h5
  omega
theorem sw_out_0_6 {x : Int32} (h0 : ¬ x = (0 : Int32)) (h1 : ¬ x = (1 : Int32)) (h2 : ¬ x = (2 : Int32)) (h3 : ¬ x = (3 : Int32)) (h4 : ¬ x = (4 : Int32)) (h5 : ¬ x = (5 : Int32)) (h6 : ¬ x = (6 : Int32)) : x.toInt < 0 ∨ 6 < x.toInt := by
  have e : ∀ c : Int32, ¬ x = c → ¬ x.toInt = c.toInt := fun c h q => h (Int32.toInt_inj.mp q)
  have q0 : ¬ x.toInt = 0 := e 0 h0
  have q1 : ¬ x.toInt = 1 := e 1 h1
  have q2 : ¬ x.toInt = 2 := e 2 h2
  have q3 : ¬ x.toInt = 3 := e 3 h3
  have q4 : ¬ x.toInt = 4 := e 4 h4
  have q5 : ¬ x.toInt = 5 := e 5 h5
  have q6 : ¬ x.toInt = 6 := e 6 h6
  omega
theorem sw_out_0_19 {x : Int32} (h0 : ¬ x = (0 : Int32)) (h1 : ¬ x = (1 : Int32)) (h2 : ¬ x = (2 : Int32)) (h3 : ¬ x = (3 : Int32)) (h4 : ¬ x = (4 : Int32)) (h5 : ¬ x = (5 : Int32)) (h6 : ¬ x = (6 : Int32)) (h7 : ¬ x = (7 : Int32)) (h8 : ¬ x = (8 : Int32)) (h9 : ¬ x = (9 : Int32)) (h10 : ¬ x = (10 : Int32)) (h11 : ¬ x = (11 : Int32)) (h12 : ¬ x = (12 : Int32)) (h13 : ¬ x = (13 : Int32)) (h14 : ¬ x = (14 : Int32)) (h15 : ¬ x = (15 : Int32)) (h16 : ¬ x = (16 : Int32)) (h17 : ¬ x = (17 : Int32)) (h18 : ¬ x = (18 : Int32)) (h19 : ¬ x = (19 : Int32)) : x.toInt < 0 ∨ 19 < x.toInt := by
  have e : ∀ c : Int32, ¬ x = c → ¬ x.toInt = c.toInt := fun c h q => h (Int32.toInt_inj.mp q)
  have q0 : ¬ x.toInt = 0 := e 0 h0
  have q1 : ¬ x.toInt = 1 := e 1 h1
  have q2 : ¬ x.toInt = 2 := e 2 h2
  have q3 : ¬ x.toInt = 3 := e 3 h3
  have q4 : ¬ x.toInt = 4 := e 4 h4
  have q5 : ¬ x.toInt = 5 := e 5 h5
  have q6 : ¬ x.toInt = 6 := e 6 h6
  have q7 : ¬ x.toInt = 7 := e 7 h7
  have q8 : ¬ x.toInt = 8 := e 8 h8
  have q9 : ¬ x.toInt = 9 := e 9 h9
  have q10 : ¬ x.toInt = 10 := e 10 h10
  have q11 : ¬ x.toInt = 11 := e 11 h11
  have q12 : ¬ x.toInt = 12 := e 12 h12
  have q13 : ¬ x.toInt = 13 := e 13 h13
  have q14 : ¬ x.toInt = 14 := e 14 h14
  have q15 : ¬ x.toInt = 15 := e 15 h15
  have q16 : ¬ x.toInt = 16 := e 16 h16
  have q17 : ¬ x.toInt = 17 := e 17 h17
  have q18 : ¬ x.toInt = 18 := e 18 h18
  have q19 : ¬ x.toInt = 19 := e 19 h19
  omega
theorem sw_out_8_24 {x : Int32} (h8 : ¬ x = (8 : Int32)) (h9 : ¬ x = (9 : Int32)) (h10 : ¬ x = (10 : Int32)) (h11 : ¬ x = (11 : Int32)) (h12 : ¬ x = (12 : Int32)) (h13 : ¬ x = (13 : Int32)) (h14 : ¬ x = (14 : Int32)) (h15 : ¬ x = (15 : Int32)) (h16 : ¬ x = (16 : Int32)) (h17 : ¬ x = (17 : Int32)) (h18 : ¬ x = (18 : Int32)) (h19 : ¬ x = (19 : Int32)) (h20 : ¬ x = (20 : Int32)) (h21 : ¬ x = (21 : Int32)) (h22 : ¬ x = (22 : Int32)) (h23 : ¬ x = (23 : Int32)) (h24 : ¬ x = (24 : Int32)) : x.toInt < 8 ∨ 24 < x.toInt := by
  have e : ∀ c : Int32, ¬ x = c → ¬ x.toInt = c.toInt := fun c h q => h (Int32.toInt_inj.mp q)
  have q8 : ¬ x.toInt = 8 := e 8 h8
  have q9 : ¬ x.toInt = 9 := e 9 h9
  have q10 : ¬ x.toInt = 10 := e 10 h10
  have q11 : ¬ x.toInt = 11 := e 11 h11
  have q12 : ¬ x.toInt = 12 := e 12 h12
  have q13 : ¬ x.toInt = 13 := e 13 h13
  have q14 : ¬ x.toInt = 14 := e 14 h14
  have q15 : ¬ x.toInt = 15 := e 15 h15
  have q16 : ¬ x.toInt = 16 := e 16 h16
  have q17 : ¬ x.toInt = 17 := e 17 h17
  have q18 : ¬ x.toInt = 18 := e 18 h18
  have q19 : ¬ x.toInt = 19 := e 19 h19
  have q20 : ¬ x.toInt = 20 := e 20 h20
  have q21 : ¬ x.toInt = 21 := e 21 h21
  have q22 : ¬ x.toInt = 22 := e 22 h22
  have q23 : ¬ x.toInt = 23 := e 23 h23
  have q24 : ¬ x.toInt = 24 := e 24 h24
  omega
theorem sw_out_8_25 {x : Int32} (h8 : ¬ x = (8 : Int32)) (h9 : ¬ x = (9 : Int32)) (h10 : ¬ x = (10 : Int32)) (h11 : ¬ x = (11 : Int32)) (h12 : ¬ x = (12 : Int32)) (h13 : ¬ x = (13 : Int32)) (h14 : ¬ x = (14 : Int32)) (h15 : ¬ x = (15 : Int32)) (h16 : ¬ x = (16 : Int32)) (h17 : ¬ x = (17 : Int32)) (h18 : ¬ x = (18 : Int32)) (h19 : ¬ x = (19 : Int32)) (h20 : ¬ x = (20 : Int32)) (h21 : ¬ x = (21 : Int32)) (h22 : ¬ x = (22 : Int32)) (h23 : ¬ x = (23 : Int32)) (h24 : ¬ x = (24 : Int32)) (h25 : ¬ x = (25 : Int32)) : x.toInt < 8 ∨ 25 < x.toInt := by
  have e : ∀ c : Int32, ¬ x = c → ¬ x.toInt = c.toInt := fun c h q => h (Int32.toInt_inj.mp q)
  have q8 : ¬ x.toInt = 8 := e 8 h8
  have q9 : ¬ x.toInt = 9 := e 9 h9
  have q10 : ¬ x.toInt = 10 := e 10 h10
  have q11 : ¬ x.toInt = 11 := e 11 h11
  have q12 : ¬ x.toInt = 12 := e 12 h12
  have q13 : ¬ x.toInt = 13 := e 13 h13
  have q14 : ¬ x.toInt = 14 := e 14 h14
  have q15 : ¬ x.toInt = 15 := e 15 h15
  have q16 : ¬ x.toInt = 16 := e 16 h16
  have q17 : ¬ x.toInt = 17 := e 17 h17
  have q18 : ¬ x.toInt = 18 := e 18 h18
  have q19 : ¬ x.toInt = 19 := e 19 h19
  have q20 : ¬ x.toInt = 20 := e 20 h20
  have q21 : ¬ x.toInt = 21 := e 21 h21
  have q22 : ¬ x.toInt = 22 := e 22 h22
  have q23 : ¬ x.toInt = 23 := e 23 h23
  have q24 : ¬ x.toInt = 24 := e 24 h24
  have q25 : ¬ x.toInt = 25 := e 25 h25
  omega
theorem sw_out_40_60 {x : Int32} (h40 : ¬ x = (40 : Int32)) (h41 : ¬ x = (41 : Int32)) (h42 : ¬ x = (42 : Int32)) (h43 : ¬ x = (43 : Int32)) (h44 : ¬ x = (44 : Int32)) (h45 : ¬ x = (45 : Int32)) (h46 : ¬ x = (46 : Int32)) (h47 : ¬ x = (47 : Int32)) (h48 : ¬ x = (48 : Int32)) (h49 : ¬ x = (49 : Int32)) (h50 : ¬ x = (50 : Int32)) (h51 : ¬ x = (51 : Int32)) (h52 : ¬ x = (52 : Int32)) (h53 : ¬ x = (53 : Int32)) (h54 : ¬ x = (54 : Int32)) (h55 : ¬ x = (55 : Int32)) (h56 : ¬ x = (56 : Int32)) (h57 : ¬ x = (57 : Int32)) (h58 : ¬ x = (58 : Int32)) (h59 : ¬ x = (59 : Int32)) (h60 : ¬ x = (60 : Int32)) : x.toInt < 40 ∨ 60 < x.toInt := by
  have e : ∀ c : Int32, ¬ x = c → ¬ x.toInt = c.toInt := fun c h q => h (Int32.toInt_inj.mp q)
  have q40 : ¬ x.toInt = 40 := e 40 h40
  have q41 : ¬ x.toInt = 41 := e 41 h41
  have q42 : ¬ x.toInt = 42 := e 42 h42
  have q43 : ¬ x.toInt = 43 := e 43 h43
  have q44 : ¬ x.toInt = 44 := e 44 h44
  have q45 : ¬ x.toInt = 45 := e 45 h45
  have q46 : ¬ x.toInt = 46 := e 46 h46
  have q47 : ¬ x.toInt = 47 := e 47 h47
  have q48 : ¬ x.toInt = 48 := e 48 h48
  have q49 : ¬ x.toInt = 49 := e 49 h49
  have q50 : ¬ x.toInt = 50 := e 50 h50
  have q51 : ¬ x.toInt = 51 := e 51 h51
  have q52 : ¬ x.toInt = 52 := e 52 h52
  have q53 : ¬ x.toInt = 53 := e 53 h53
  have q54 : ¬ x.toInt = 54 := e 54 h54
  have q55 : ¬ x.toInt = 55 := e 55 h55
  have q56 : ¬ x.toInt = 56 := e 56 h56
  have q57 : ¬ x.toInt = 57 := e 57 h57
  have q58 : ¬ x.toInt = 58 := e 58 h58
  have q59 : ¬ x.toInt = 59 := e 59 h59
  have q60 : ¬ x.toInt = 60 := e 60 h60
  omega
section YQ
variable {g : GP} {M M' : Mth} {d dc n : Nat} {post : Option Value → PH → Prop} {pc : Nat} {L : List (Nat × Value)} {st stk av : List Value} {σ : PS} {index : Nat} {α : Type} {P : α → Prop} {o : Option α}
theorem Y_max {x y : Int32} (hd1 : 1 ≤ d) (hr : (st.map fun v => v.category).sum ≤ 8) (hw : Cond.methodLink M.1.cls index Lib.Math.max.name ∈ TBL) (hd : decode M.2.1 pc = .ok (.invokestatic index, 3)) (kk : X g M d 0 0 post (pc + 3) L (.int (imax x y) :: st) (HP σ)) : X g M d 0 0 post pc L (.int y :: .int x :: st) (HP σ) := X_max hd1 hr hw hd kk
theorem Y_min {x y : Int32} (hd1 : 1 ≤ d) (hr : (st.map fun v => v.category).sum ≤ 8) (hw : Cond.methodLink M.1.cls index Lib.Math.min.name ∈ TBL) (hd : decode M.2.1 pc = .ok (.invokestatic index, 3)) (kk : X g M d 0 0 post (pc + 3) L (.int (imin x y) :: st) (HP σ)) : X g M d 0 0 post pc L (.int y :: .int x :: st) (HP σ) := X_min hd1 hr hw hd kk
theorem Y_sld {i : Int32} (hd : decode M.2.1 pc = .ok (.iaload, 1)) (h : hO (gd (inb i g.2.1) o) P) (kk : inb i g.2.1 = true → hO o P → X g M d 0 0 post (pc + 1) L (.int (g.2.2 i.toNatClampNeg) :: st) (HP σ)) : X g M d 0 0 post pc L (.int i :: .ref (SB + 2) :: st) (HP σ) := X_sld (inb_in (hO_gd h).1) hd (kk (hO_gd h).1 (hO_gd h).2)
theorem Y_look {x : Int32} {dflt off : Int} {ps : Array (Int × Int)} {len : Nat} (c : Int32) (hx : x = c) (tgt : Nat) (hd : decode M.2.1 pc = .ok (.lookupswitch dflt ps, len)) (hp : (ps.toList.zip (ps.toList.drop 1)).all (fun (a, next) => a.1 < next.1) = true) (ho : Op.lookupswitch.offset ps.toList dflt c.toInt = off) (ht : (pc : Int) + off = (tgt : Int)) (kk : X g M d 0 0 post tgt L st (HP σ)) : X g M d 0 0 post pc L (.int x :: st) (HP σ) := by
  subst hx
  exact X_lookup tgt hd hp ho ht kk
end YQ
