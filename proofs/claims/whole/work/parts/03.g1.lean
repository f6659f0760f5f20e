set_option maxRecDepth 20000 in
theorem ggX0_measure_X5_isSold : GoodIn wsX0_measure wsX5_isSold := goodIn_r _ [8, 9, 10, 11, 12, 13, 14, 15, 38, 39, 40, 41, 42, 43, 44, 45, 46] (by decide +kernel) (by decide +kernel)
set_option maxRecDepth 20000 in
theorem gX0_measure_X5_isSold : GoodIn wsX0_measure (wsV RX0 19 RX5 yX5_isSold wsX5_isSold) := goodIn_app (goodIn_of _ (by decide +kernel)) ggX0_measure_X5_isSold
set_option maxRecDepth 20000 in
theorem ggX0_measure_J7_fill_53178 : GoodIn wsX0_measure wsJ7_fill_53178 := goodIn_r _ [19] (by decide +kernel) (by decide +kernel)
set_option maxRecDepth 20000 in
theorem gX0_measure_J7_fill_53178 : GoodIn wsX0_measure (va_wsS RX0 29 yJ7_fill_53178 wsJ7_fill_53178) := goodIn_app (goodIn_of _ (by decide +kernel)) ggX0_measure_J7_fill_53178
set_option maxRecDepth 20000 in
theorem ggX0_measure_X0_addPrice : GoodIn wsX0_measure wsX0_addPrice := goodIn_r _ [24, 1, 25, 26, 23, 27, 28, 29, 30, 31, 2, 32, 33, 34, 35, 36, 37] (by decide +kernel) (by decide +kernel)
set_option maxRecDepth 20000 in
theorem gX0_measure_X0_addPrice : GoodIn wsX0_measure (wsV RX0 35 RX0 yX0_addPrice wsX0_addPrice) := goodIn_app (goodIn_of _ (by decide +kernel)) ggX0_measure_X0_addPrice
set_option maxRecDepth 20000 in
theorem ggX0_addPrice_X0_commonDivisor : GoodIn wsX0_addPrice wsX0_commonDivisor := goodIn_r _ [5] (by decide +kernel) (by decide +kernel)
set_option maxRecDepth 20000 in
theorem gX0_addPrice_X0_commonDivisor : GoodIn wsX0_addPrice (va_wsS RX0 45 yX0_commonDivisor wsX0_commonDivisor) := goodIn_app (goodIn_of _ (by decide +kernel)) ggX0_addPrice_X0_commonDivisor
set_option maxRecDepth 20000 in
theorem ggX0_addPrice_X0_goRound : GoodIn wsX0_addPrice wsX0_goRound := goodIn_r _ [9, 1, 10, 11, 12, 13, 14, 15, 16] (by decide +kernel) (by decide +kernel)
set_option maxRecDepth 20000 in
theorem gX0_addPrice_X0_goRound : GoodIn wsX0_addPrice (wsV RX0 48 RX0 yX0_goRound wsX0_goRound) := goodIn_app (goodIn_of _ (by decide +kernel)) ggX0_addPrice_X0_goRound
set_option maxRecDepth 20000 in
theorem ggX1_firstWrong_J7_fill_53178 : GoodIn wsX1_firstWrong wsJ7_fill_53178 := goodIn_r _ [7] (by decide +kernel) (by decide +kernel)
set_option maxRecDepth 20000 in
theorem gX1_firstWrong_J7_fill_53178 : GoodIn wsX1_firstWrong (va_wsS RX1 22 yJ7_fill_53178 wsJ7_fill_53178) := goodIn_app (goodIn_of _ (by decide +kernel)) ggX1_firstWrong_J7_fill_53178
set_option maxRecDepth 20000 in
theorem ggX1_firstWrong_X5_isSold : GoodIn wsX1_firstWrong wsX5_isSold := goodIn_r _ [12, 13, 14, 15, 16, 17, 18, 19, 23, 24, 25, 26, 27, 28, 29, 30, 31] (by decide +kernel) (by decide +kernel)
set_option maxRecDepth 20000 in
theorem gX1_firstWrong_X5_isSold : GoodIn wsX1_firstWrong (wsV RX1 28 RX5 yX5_isSold wsX5_isSold) := goodIn_app (goodIn_of _ (by decide +kernel)) ggX1_firstWrong_X5_isSold
set_option maxRecDepth 20000 in
theorem ggX1_worthIn_X5_worthOf : GoodIn wsX1_worthIn wsX5_worthOf := goodIn_r _ [6, 7, 8, 9, 10, 11, 12, 16, 17, 18, 19, 20, 21, 22, 23, 24] (by decide +kernel) (by decide +kernel)
set_option maxRecDepth 20000 in
theorem gX1_worthIn_X5_worthOf : GoodIn wsX1_worthIn (wsV RX1 40 RX5 yX5_worthOf wsX5_worthOf) := goodIn_app (goodIn_of _ (by decide +kernel)) ggX1_worthIn_X5_worthOf
set_option maxRecDepth 20000 in
theorem ggX2_settle_X5_hasPurse : GoodIn wsX2_settle wsX5_hasPurse := goodIn_r _ [6, 7, 8, 9, 10, 43, 44, 45, 46, 47, 48, 49, 50, 51] (by decide +kernel) (by decide +kernel)
set_option maxRecDepth 20000 in
theorem gX2_settle_X5_hasPurse : GoodIn wsX2_settle (wsV RX2 22 RX5 yX5_hasPurse wsX5_hasPurse) := goodIn_app (goodIn_of _ (by decide +kernel)) ggX2_settle_X5_hasPurse
set_option maxRecDepth 20000 in
theorem ggX2_settle_X2_settleSet : GoodIn wsX2_settle wsX2_settleSet := goodIn_r _ [15, 16, 17, 18, 19, 14, 20, 21, 22, 23, 24, 25, 26, 27, 28, 29, 30, 31, 32, 33, 34, 35, 36, 37, 38, 39, 40, 41, 42, 43, 44, 45, 46, 47, 48, 49, 50, 51, 52, 53, 54, 55] (by decide +kernel) (by decide +kernel)
set_option maxRecDepth 20000 in
theorem gX2_settle_X2_settleSet : GoodIn wsX2_settle (wsV RX2 28 RX2 yX2_settleSet wsX2_settleSet) := goodIn_app (goodIn_of _ (by decide +kernel)) ggX2_settle_X2_settleSet
set_option maxRecDepth 20000 in
theorem ggX2_leastBeside_X2_leastIn : GoodIn wsX2_leastBeside wsX2_leastIn := goodIn_r _ [6] (by decide +kernel) (by decide +kernel)
set_option maxRecDepth 20000 in
theorem gX2_leastBeside_X2_leastIn : GoodIn wsX2_leastBeside (va_wsS RX2 32 yX2_leastIn wsX2_leastIn) := goodIn_app (goodIn_of _ (by decide +kernel)) ggX2_leastBeside_X2_leastIn
set_option maxRecDepth 20000 in
theorem ggX2_settleSet_X2_leastIn : GoodIn wsX2_settleSet wsX2_leastIn := goodIn_r _ [6] (by decide +kernel) (by decide +kernel)
set_option maxRecDepth 20000 in
theorem gX2_settleSet_X2_leastIn : GoodIn wsX2_settleSet (va_wsS RX2 32 yX2_leastIn wsX2_leastIn) := goodIn_app (goodIn_of _ (by decide +kernel)) ggX2_settleSet_X2_leastIn
set_option maxRecDepth 20000 in
theorem ggX2_settleSet_X2_groupWorth : GoodIn wsX2_settleSet wsX2_groupWorth := goodIn_r _ [9, 10, 11, 12, 13, 14, 15, 16, 17, 18, 19, 20, 21, 22, 23, 24, 25, 29, 30, 31, 32, 33, 34, 35, 36, 37, 38, 39, 40, 41] (by decide +kernel) (by decide +kernel)
set_option maxRecDepth 20000 in
theorem gX2_settleSet_X2_groupWorth : GoodIn wsX2_settleSet (va_wsS RX2 36 yX2_groupWorth wsX2_groupWorth) := goodIn_app (goodIn_of _ (by decide +kernel)) ggX2_settleSet_X2_groupWorth
set_option maxRecDepth 20000 in
theorem ggX2_groupWorth_X3_comesOut : GoodIn wsX2_groupWorth wsX3_comesOut := goodIn_r _ [5, 6, 7, 26, 27, 28, 29] (by decide +kernel) (by decide +kernel)
set_option maxRecDepth 20000 in
theorem gX2_groupWorth_X3_comesOut : GoodIn wsX2_groupWorth (wsV RX2 43 RX3 yX3_comesOut wsX3_comesOut) := goodIn_app (goodIn_of _ (by decide +kernel)) ggX2_groupWorth_X3_comesOut
set_option maxRecDepth 20000 in
theorem ggX2_groupWorth_X3_worthAt : GoodIn wsX2_groupWorth wsX3_worthAt := goodIn_r _ [11, 6, 12, 2, 3, 4, 5, 7, 13, 14, 15, 16, 26, 27, 28, 29] (by decide +kernel) (by decide +kernel)
set_option maxRecDepth 20000 in
theorem gX2_groupWorth_X3_worthAt : GoodIn wsX2_groupWorth (wsV RX2 48 RX3 yX3_worthAt wsX3_worthAt) := goodIn_app (goodIn_of _ (by decide +kernel)) ggX2_groupWorth_X3_worthAt
set_option maxRecDepth 20000 in
theorem ggX3_fill_J7_fill_d0a16 : GoodIn wsX3_fill wsJ7_fill_d0a16 := goodIn_r _ [8] (by decide +kernel) (by decide +kernel)
set_option maxRecDepth 20000 in
theorem gX3_fill_J7_fill_d0a16 : GoodIn wsX3_fill (va_wsS RX3 24 yJ7_fill_d0a16 wsJ7_fill_d0a16) := goodIn_app (goodIn_of _ (by decide +kernel)) ggX3_fill_J7_fill_d0a16
set_option maxRecDepth 20000 in
theorem ggX3_fill_X5_isSold : GoodIn wsX3_fill wsX5_isSold := goodIn_r _ [13, 14, 15, 16, 17, 18, 19, 20, 54, 55, 56, 57, 58, 59, 60, 61, 62] (by decide +kernel) (by decide +kernel)
set_option maxRecDepth 20000 in
theorem gX3_fill_X5_isSold : GoodIn wsX3_fill (wsV RX3 33 RX5 yX5_isSold wsX5_isSold) := goodIn_app (goodIn_of _ (by decide +kernel)) ggX3_fill_X5_isSold
set_option maxRecDepth 20000 in
theorem ggX3_fill_X3_weigh : GoodIn wsX3_fill wsX3_weigh := goodIn_r _ [25, 26, 27, 28, 29, 30, 31, 12, 32, 33, 34, 35, 36, 37, 38, 50, 51, 52, 53, 54, 55, 56, 57, 58, 59, 60, 61, 62] (by decide +kernel) (by decide +kernel)
set_option maxRecDepth 20000 in
theorem gX3_fill_X3_weigh : GoodIn wsX3_fill (wsV RX3 39 RX3 yX3_weigh wsX3_weigh) := goodIn_app (goodIn_of _ (by decide +kernel)) ggX3_fill_X3_weigh
set_option maxRecDepth 20000 in
theorem ggX3_fill_X3_addThing : GoodIn wsX3_fill wsX3_addThing := goodIn_r _ [42, 4, 43, 44, 37, 45, 2, 46, 47, 48, 24, 49, 3, 27, 50, 51, 52, 53] (by decide +kernel) (by decide +kernel)
set_option maxRecDepth 20000 in
theorem gX3_fill_X3_addThing : GoodIn wsX3_fill (wsV RX3 50 RX3 yX3_addThing wsX3_addThing) := goodIn_app (goodIn_of _ (by decide +kernel)) ggX3_fill_X3_addThing
set_option maxRecDepth 20000 in
theorem ggX3_weigh_X5_worthOf : GoodIn wsX3_weigh wsX5_worthOf := goodIn_r _ [8, 9, 10, 11, 12, 13, 14, 19, 20, 21, 22, 23, 24, 25, 26, 27] (by decide +kernel) (by decide +kernel)
set_option maxRecDepth 20000 in
theorem gX3_weigh_X5_worthOf : GoodIn wsX3_weigh (wsV RX3 56 RX5 yX5_worthOf wsX5_worthOf) := goodIn_app (goodIn_of _ (by decide +kernel)) ggX3_weigh_X5_worthOf
set_option maxRecDepth 20000 in
theorem ggX3_countBeside_X3_comesOut : GoodIn wsX3_countBeside wsX3_comesOut := goodIn_r _ [8, 3, 1, 9, 10, 11, 12] (by decide +kernel) (by decide +kernel)
set_option maxRecDepth 20000 in
theorem gX3_countBeside_X3_comesOut : GoodIn wsX3_countBeside (wsV RX3 62 RX3 yX3_comesOut wsX3_comesOut) := goodIn_app (goodIn_of _ (by decide +kernel)) ggX3_countBeside_X3_comesOut
set_option maxRecDepth 20000 in
theorem ggX3_worthAt_X3_comesOut : GoodIn wsX3_worthAt wsX3_comesOut := goodIn_r _ [6, 1, 7, 12, 13, 14, 15] (by decide +kernel) (by decide +kernel)
set_option maxRecDepth 20000 in
theorem gX3_worthAt_X3_comesOut : GoodIn wsX3_worthAt (wsV RX3 62 RX3 yX3_comesOut wsX3_comesOut) := goodIn_app (goodIn_of _ (by decide +kernel)) ggX3_worthAt_X3_comesOut
set_option maxRecDepth 20000 in
theorem ggX3_worthAt_X3_worthIn : GoodIn wsX3_worthAt wsX3_worthIn := goodIn_r _ [10, 11] (by decide +kernel) (by decide +kernel)
set_option maxRecDepth 20000 in
theorem gX3_worthAt_X3_worthIn : GoodIn wsX3_worthAt (va_wsS RX3 65 yX3_worthIn wsX3_worthIn) := goodIn_app (goodIn_of _ (by decide +kernel)) ggX3_worthAt_X3_worthIn
set_option maxRecDepth 20000 in
theorem ggX3_countAt_X3_comesOut : GoodIn wsX3_countAt wsX3_comesOut := goodIn_r _ [8, 1, 9, 13, 14, 15, 16] (by decide +kernel) (by decide +kernel)
set_option maxRecDepth 20000 in
theorem gX3_countAt_X3_comesOut : GoodIn wsX3_countAt (wsV RX3 62 RX3 yX3_comesOut wsX3_comesOut) := goodIn_app (goodIn_of _ (by decide +kernel)) ggX3_countAt_X3_comesOut
set_option maxRecDepth 20000 in
theorem ggX3_countAt_X3_worthIn : GoodIn wsX3_countAt wsX3_worthIn := goodIn_r _ [12, 2] (by decide +kernel) (by decide +kernel)
set_option maxRecDepth 20000 in
theorem gX3_countAt_X3_worthIn : GoodIn wsX3_countAt (va_wsS RX3 65 yX3_worthIn wsX3_worthIn) := goodIn_app (goodIn_of _ (by decide +kernel)) ggX3_countAt_X3_worthIn
set_option maxRecDepth 20000 in
theorem ggX3_addThing_X3_bestRank : GoodIn wsX3_addThing wsX3_bestRank := goodIn_r _ [11, 12, 13, 6, 14, 15, 16, 17] (by decide +kernel) (by decide +kernel)
set_option maxRecDepth 20000 in
theorem gX3_addThing_X3_bestRank : GoodIn wsX3_addThing (wsV RX3 74 RX3 yX3_bestRank wsX3_bestRank) := goodIn_app (goodIn_of _ (by decide +kernel)) ggX3_addThing_X3_bestRank
set_option maxRecDepth 20000 in
theorem ggX4_at_X6_isSum : GoodIn wsX4_at wsX6_isSum := goodIn_r _ [4, 5, 6, 3, 7] (by decide +kernel) (by decide +kernel)
set_option maxRecDepth 20000 in
theorem gX4_at_X6_isSum_n19 : GoodIn wsX4_at (wsX6_isSum) := ggX4_at_X6_isSum
set_option maxRecDepth 20000 in
theorem ggX4_count_J7_fill_53178 : GoodIn wsX4_count wsJ7_fill_53178 := goodIn_r _ [6] (by decide +kernel) (by decide +kernel)
set_option maxRecDepth 20000 in
theorem gX4_count_J7_fill_53178 : GoodIn wsX4_count (va_wsS RX4 23 yJ7_fill_53178 wsJ7_fill_53178) := goodIn_app (goodIn_of _ (by decide +kernel)) ggX4_count_J7_fill_53178
set_option maxRecDepth 20000 in
theorem ggX4_count_X5_isSold : GoodIn wsX4_count wsX5_isSold := goodIn_r _ [11, 12, 13, 14, 15, 16, 17, 18, 26, 27, 28, 29, 30, 31, 32, 33, 34] (by decide +kernel) (by decide +kernel)
set_option maxRecDepth 20000 in
theorem gX4_count_X5_isSold : GoodIn wsX4_count (wsV RX4 29 RX5 yX5_isSold wsX5_isSold) := goodIn_app (goodIn_of _ (by decide +kernel)) ggX4_count_X5_isSold
set_option maxRecDepth 20000 in
theorem ggX4_count_X4_addThing : GoodIn wsX4_count wsX4_addThing := goodIn_r _ [23, 2, 24, 25] (by decide +kernel) (by decide +kernel)
set_option maxRecDepth 20000 in
theorem gX4_count_X4_addThing : GoodIn wsX4_count (wsV RX4 40 RX4 yX4_addThing wsX4_addThing) := goodIn_app (goodIn_of _ (by decide +kernel)) ggX4_count_X4_addThing
set_option maxRecDepth 20000 in
theorem ggX5_init_J7_fill_53178 : GoodIn wsX5_init wsJ7_fill_53178 := goodIn_r _ [16] (by decide +kernel) (by decide +kernel)
set_option maxRecDepth 20000 in
theorem gX5_init_J7_fill_53178 : GoodIn wsX5_init (va_wsS RX5 36 yJ7_fill_53178 wsJ7_fill_53178) := goodIn_app (goodIn_of _ (by decide +kernel)) ggX5_init_J7_fill_53178
set_option maxRecDepth 20000 in
theorem ggX5_isSold_X6_isThing : GoodIn wsX5_isSold wsX6_isThing := goodIn_r _ [4, 5, 6, 3, 7] (by decide +kernel) (by decide +kernel)
set_option maxRecDepth 20000 in
theorem gX5_isSold_X6_isThing_n52 : GoodIn wsX5_isSold (wsX6_isThing) := ggX5_isSold_X6_isThing
set_option maxRecDepth 20000 in
theorem ggX5_hasPurse_X6_within : GoodIn wsX5_hasPurse wsX6_within := goodIn_r _ [4] (by decide +kernel) (by decide +kernel)
set_option maxRecDepth 20000 in
theorem gX5_hasPurse_X6_within_n56 : GoodIn wsX5_hasPurse (wsX6_within) := ggX5_hasPurse_X6_within
set_option maxRecDepth 20000 in
theorem ggX5_sightHolds_X3_countAt : GoodIn wsX5_sightHolds wsX3_countAt := goodIn_r _ [8, 9, 10, 11, 12, 13, 14, 7, 15, 16, 17, 18, 19, 29, 30, 31, 32] (by decide +kernel) (by decide +kernel)
set_option maxRecDepth 20000 in
theorem gX5_sightHolds_X3_countAt : GoodIn wsX5_sightHolds (wsV RX5 66 RX3 yX3_countAt wsX3_countAt) := goodIn_app (goodIn_of _ (by decide +kernel)) ggX5_sightHolds_X3_countAt
set_option maxRecDepth 20000 in
theorem ggX6_init_X5_init : GoodIn wsX6_init wsX5_init := goodIn_r _ [35, 36, 2, 3, 37, 38, 39, 40, 41, 42, 43, 44, 45, 46, 47, 48, 49, 75, 76, 77, 78, 79, 80, 81, 82, 83] (by decide +kernel) (by decide +kernel)
set_option maxRecDepth 20000 in
theorem gX6_init_X5_init : GoodIn wsX6_init (wsX5_init) := ggX6_init_X5_init
set_option maxRecDepth 20000 in
theorem ggX6_init_X1_init : GoodIn wsX6_init wsX1_init := goodIn_r _ [51, 52, 2, 3, 37, 53, 54, 94, 95, 96] (by decide +kernel) (by decide +kernel)
set_option maxRecDepth 20000 in
theorem gX6_init_X1_init_n18 : GoodIn wsX6_init (wsX1_init) := ggX6_init_X1_init
set_option maxRecDepth 20000 in
theorem ggX6_init_X3_init : GoodIn wsX6_init wsX3_init := goodIn_r _ [56, 57, 2, 3, 58, 59, 60, 61, 97, 98, 99, 100] (by decide +kernel) (by decide +kernel)
set_option maxRecDepth 20000 in
theorem gX6_init_X3_init_n33 : GoodIn wsX6_init (wsX3_init) := ggX6_init_X3_init
set_option maxRecDepth 20000 in
theorem ggX6_init_X4_init : GoodIn wsX6_init wsX4_init := goodIn_r _ [63, 64, 2, 3, 37, 65, 101, 102] (by decide +kernel) (by decide +kernel)
set_option maxRecDepth 20000 in
theorem gX6_init_X4_init_n46 : GoodIn wsX6_init (wsX4_init) := ggX6_init_X4_init
set_option maxRecDepth 20000 in
theorem ggX6_init_X0_init : GoodIn wsX6_init wsX0_init := goodIn_r _ [67, 68, 2, 3, 37, 69, 103, 104] (by decide +kernel) (by decide +kernel)
set_option maxRecDepth 20000 in
theorem gX6_init_X0_init_n53 : GoodIn wsX6_init (wsX0_init) := ggX6_init_X0_init
set_option maxRecDepth 20000 in
theorem ggX6_init_X2_init : GoodIn wsX6_init wsX2_init := goodIn_r _ [71, 72, 2, 3, 37, 73, 74, 105, 106, 107] (by decide +kernel) (by decide +kernel)
set_option maxRecDepth 20000 in
theorem gX6_init_X2_init_n60 : GoodIn wsX6_init (wsX2_init) := ggX6_init_X2_init
set_option maxRecDepth 20000 in
theorem ggX6_thing_X6_isThing : GoodIn wsX6_thing wsX6_isThing := goodIn_r _ [5, 6, 7, 4, 8] (by decide +kernel) (by decide +kernel)
set_option maxRecDepth 20000 in
theorem gX6_thing_X6_isThing : GoodIn wsX6_thing (va_wsS RX6 65 yX6_isThing wsX6_isThing) := goodIn_app (goodIn_of _ (by decide +kernel)) ggX6_thing_X6_isThing
set_option maxRecDepth 20000 in
theorem ggX6_thing_X6_within : GoodIn wsX6_thing wsX6_within := goodIn_r _ [8] (by decide +kernel) (by decide +kernel)
set_option maxRecDepth 20000 in
theorem gX6_thing_X6_within : GoodIn wsX6_thing (va_wsS RX6 69 yX6_within wsX6_within) := goodIn_app (goodIn_of _ (by decide +kernel)) ggX6_thing_X6_within
set_option maxRecDepth 20000 in
theorem ggX6_thing_X5_setThing : GoodIn wsX6_thing wsX5_setThing := goodIn_r _ [13, 14, 15, 16, 17, 48, 49, 50, 51, 52, 53, 54, 55, 56] (by decide +kernel) (by decide +kernel)
set_option maxRecDepth 20000 in
theorem gX6_thing_X5_setThing : GoodIn wsX6_thing (wsV RX6 73 RX5 yX5_setThing wsX5_setThing) := goodIn_app (goodIn_of _ (by decide +kernel)) ggX6_thing_X5_setThing
set_option maxRecDepth 20000 in
theorem ggX6_thing_X6_forgetShelves : GoodIn wsX6_thing wsX6_forgetShelves := goodIn_r _ [21, 22, 23, 24, 25, 26, 27, 28, 29, 30, 31, 32, 33, 34, 35, 36, 37, 38, 39, 40, 41, 42, 43, 44, 45, 46, 47, 57, 58, 59, 60, 61, 62] (by decide +kernel) (by decide +kernel)
set_option maxRecDepth 20000 in
theorem gX6_thing_X6_forgetShelves : GoodIn wsX6_thing (wsV RX6 77 RX6 yX6_forgetShelves wsX6_forgetShelves) := goodIn_app (goodIn_of _ (by decide +kernel)) ggX6_thing_X6_forgetShelves
set_option maxRecDepth 20000 in
theorem ggX6_say_X6_within : GoodIn wsX6_say wsX6_within := goodIn_r _ [5] (by decide +kernel) (by decide +kernel)
set_option maxRecDepth 20000 in
theorem gX6_say_X6_within : GoodIn wsX6_say (va_wsS RX6 69 yX6_within wsX6_within) := goodIn_app (goodIn_of _ (by decide +kernel)) ggX6_say_X6_within
set_option maxRecDepth 20000 in
theorem ggX6_say_X1_add : GoodIn wsX6_say wsX1_add := goodIn_r _ [10, 11, 12, 23, 24, 25] (by decide +kernel) (by decide +kernel)
set_option maxRecDepth 20000 in
theorem gX6_say_X1_add : GoodIn wsX6_say (wsV RX6 80 RX1 yX1_add wsX1_add) := goodIn_app (goodIn_of _ (by decide +kernel)) ggX6_say_X1_add
set_option maxRecDepth 20000 in
theorem ggX6_fault_X1_firstWrong : GoodIn wsX6_fault wsX1_firstWrong := goodIn_r _ [7, 8, 9, 10, 11, 12, 13, 14, 15, 16, 17, 18, 19, 20, 21, 22, 23, 24, 25, 26, 37, 38, 39, 40, 41, 42, 43, 44, 45, 46, 47, 48] (by decide +kernel) (by decide +kernel)
set_option maxRecDepth 20000 in
theorem gX6_fault_X1_firstWrong : GoodIn wsX6_fault (wsV RX6 87 RX1 yX1_firstWrong wsX1_firstWrong) := goodIn_app (goodIn_of _ (by decide +kernel)) ggX6_fault_X1_firstWrong
set_option maxRecDepth 20000 in
theorem ggX6_basket_X6_within : GoodIn wsX6_basket wsX6_within := goodIn_r _ [6] (by decide +kernel) (by decide +kernel)
set_option maxRecDepth 20000 in
theorem gX6_basket_X6_within : GoodIn wsX6_basket (va_wsS RX6 69 yX6_within wsX6_within) := goodIn_app (goodIn_of _ (by decide +kernel)) ggX6_basket_X6_within
set_option maxRecDepth 20000 in
theorem ggX6_basket_X1_firstWrong : GoodIn wsX6_basket wsX1_firstWrong := goodIn_r _ [11, 12, 13, 14, 15, 16, 17, 18, 19, 20, 21, 22, 23, 24, 25, 5, 26, 3, 4, 6, 55, 56, 57, 58, 59, 60, 61, 62, 63, 64, 65, 66] (by decide +kernel) (by decide +kernel)
set_option maxRecDepth 20000 in
theorem gX6_basket_X1_firstWrong : GoodIn wsX6_basket (wsV RX6 87 RX1 yX1_firstWrong wsX1_firstWrong) := goodIn_app (goodIn_of _ (by decide +kernel)) ggX6_basket_X1_firstWrong
set_option maxRecDepth 20000 in
theorem ggX6_basket_X1_priceIn : GoodIn wsX6_basket wsX1_priceIn := goodIn_r _ [30, 12, 55, 56, 57, 58, 59, 60, 61, 62, 63, 64, 65, 66] (by decide +kernel) (by decide +kernel)
set_option maxRecDepth 20000 in
theorem gX6_basket_X1_priceIn : GoodIn wsX6_basket (wsV RX6 91 RX1 yX1_priceIn wsX1_priceIn) := goodIn_app (goodIn_of _ (by decide +kernel)) ggX6_basket_X1_priceIn
set_option maxRecDepth 20000 in
theorem ggX6_basket_X1_worthIn : GoodIn wsX6_basket wsX1_worthIn := goodIn_r _ [34, 12, 35, 36, 37, 22, 38, 39, 40, 41, 42, 43, 44, 55, 56, 57, 58, 59, 60, 61, 62, 63, 64, 65, 66] (by decide +kernel) (by decide +kernel)
set_option maxRecDepth 20000 in
theorem gX6_basket_X1_worthIn : GoodIn wsX6_basket (wsV RX6 94 RX1 yX1_worthIn wsX1_worthIn) := goodIn_app (goodIn_of _ (by decide +kernel)) ggX6_basket_X1_worthIn
set_option maxRecDepth 20000 in
theorem ggX6_ways_X6_isSum : GoodIn wsX6_ways wsX6_isSum := goodIn_r _ [6, 7, 8, 5, 9] (by decide +kernel) (by decide +kernel)
set_option maxRecDepth 20000 in
theorem gX6_ways_X6_isSum : GoodIn wsX6_ways (va_wsS RX6 97 yX6_isSum wsX6_isSum) := goodIn_app (goodIn_of _ (by decide +kernel)) ggX6_ways_X6_isSum
set_option maxRecDepth 20000 in
theorem ggX6_ways_X4_count : GoodIn wsX6_ways wsX4_count := goodIn_r _ [14, 15, 16, 17, 18, 19, 20, 21, 22, 23, 24, 25, 26, 27, 5, 28, 7, 8, 9, 29, 30, 31, 13, 32, 47, 48, 49, 50, 51, 52, 53, 54, 55, 56, 57] (by decide +kernel) (by decide +kernel)
set_option maxRecDepth 20000 in
theorem gX6_ways_X4_count : GoodIn wsX6_ways (wsV RX6 100 RX4 yX4_count wsX4_count) := goodIn_app (goodIn_of _ (by decide +kernel)) ggX6_ways_X4_count
set_option maxRecDepth 20000 in
theorem ggX6_ways_X4_at : GoodIn wsX6_ways wsX4_at := goodIn_r _ [36, 16, 4, 5, 6, 7, 8, 9, 47, 48] (by decide +kernel) (by decide +kernel)
set_option maxRecDepth 20000 in
theorem gX6_ways_X4_at : GoodIn wsX6_ways (wsV RX6 104 RX4 yX4_at wsX4_at) := goodIn_app (goodIn_of _ (by decide +kernel)) ggX6_ways_X4_at
set_option maxRecDepth 20000 in
theorem ggX6_best_X6_isSum : GoodIn wsX6_best wsX6_isSum := goodIn_r _ [4, 5, 6, 3, 7] (by decide +kernel) (by decide +kernel)
set_option maxRecDepth 20000 in
theorem gX6_best_X6_isSum : GoodIn wsX6_best (va_wsS RX6 97 yX6_isSum wsX6_isSum) := goodIn_app (goodIn_of _ (by decide +kernel)) ggX6_best_X6_isSum
set_option maxRecDepth 20000 in
theorem ggX6_best_X6_market : GoodIn wsX6_best wsX6_market := goodIn_r _ [11, 12, 13, 14, 15, 16, 17, 18, 19, 20, 21, 22, 23, 24, 25, 26, 27, 28, 29, 30, 31, 32, 33, 3, 34, 5, 6, 7, 35, 36, 37, 38, 39, 40, 41, 42, 43, 44, 45, 46, 47, 48, 49, 50, 51, 52, 53, 54, 55, 56, 57, 58, 59, 60, 61, 62, 79, 80, 81, 82, 83, 84, 85, 86, 87, 88, 89, 90, 91, 92, 93, 94, 95, 96, 97, 98, 99, 100, 101] (by decide +kernel) (by decide +kernel)
set_option maxRecDepth 20000 in
theorem gX6_best_X6_market : GoodIn wsX6_best (wsV RX6 108 RX6 yX6_market wsX6_market) := goodIn_app (goodIn_of _ (by decide +kernel)) ggX6_best_X6_market
set_option maxRecDepth 20000 in
theorem ggX6_best_X3_comesOut : GoodIn wsX6_best wsX3_comesOut := goodIn_r _ [66, 20, 21, 89, 90, 91, 92] (by decide +kernel) (by decide +kernel)
set_option maxRecDepth 20000 in
theorem gX6_best_X3_comesOut : GoodIn wsX6_best (wsV RX6 112 RX3 yX3_comesOut wsX3_comesOut) := goodIn_app (goodIn_of _ (by decide +kernel)) ggX6_best_X3_comesOut
set_option maxRecDepth 20000 in
theorem ggX6_best_X6_within : GoodIn wsX6_best wsX6_within := goodIn_r _ [7] (by decide +kernel) (by decide +kernel)
set_option maxRecDepth 20000 in
theorem gX6_best_X6_within : GoodIn wsX6_best (va_wsS RX6 69 yX6_within wsX6_within) := goodIn_app (goodIn_of _ (by decide +kernel)) ggX6_best_X6_within
set_option maxRecDepth 20000 in
theorem ggX6_best_X3_worthAt : GoodIn wsX6_best wsX3_worthAt := goodIn_r _ [70, 20, 71, 64, 65, 17, 66, 21, 72, 73, 74, 41, 89, 90, 91, 92] (by decide +kernel) (by decide +kernel)
set_option maxRecDepth 20000 in
theorem gX6_best_X3_worthAt : GoodIn wsX6_best (wsV RX6 115 RX3 yX3_worthAt wsX3_worthAt) := goodIn_app (goodIn_of _ (by decide +kernel)) ggX6_best_X3_worthAt
set_option maxRecDepth 20000 in
theorem ggX6_best_X3_countAt : GoodIn wsX6_best wsX3_countAt := goodIn_r _ [78, 20, 41, 39, 71, 64, 65, 17, 66, 21, 72, 73, 74, 89, 90, 91, 92] (by decide +kernel) (by decide +kernel)
set_option maxRecDepth 20000 in
theorem gX6_best_X3_countAt : GoodIn wsX6_best (wsV RX6 118 RX3 yX3_countAt wsX3_countAt) := goodIn_app (goodIn_of _ (by decide +kernel)) ggX6_best_X3_countAt
set_option maxRecDepth 20000 in
theorem ggX6_stuck_X6_isSpan : GoodIn wsX6_stuck wsX6_isSpan := goodIn_r _ [4, 5, 6, 3, 7, 8, 9, 10] (by decide +kernel) (by decide +kernel)
set_option maxRecDepth 20000 in
theorem gX6_stuck_X6_isSpan : GoodIn wsX6_stuck (va_wsS RX6 122 yX6_isSpan wsX6_isSpan) := goodIn_app (goodIn_of _ (by decide +kernel)) ggX6_stuck_X6_isSpan
set_option maxRecDepth 20000 in
theorem ggX6_stuck_X6_pick : GoodIn wsX6_stuck wsX6_pick := goodIn_r _ [14, 15, 16, 17, 3, 18, 19, 20, 21, 22, 23, 24, 25, 26, 27, 28, 29, 30, 31, 32, 33, 34, 35, 36, 37, 38, 39, 40, 41, 8, 9, 10, 42, 43, 44, 45, 46, 47, 48, 49, 50, 51, 52, 53, 54, 55, 56, 57, 58, 59, 60, 61, 62, 63, 64, 65, 66, 67, 68, 69, 70, 71, 72, 73, 74, 75, 76, 77, 78, 79, 80, 81, 82, 83, 84, 85, 86, 87, 88, 89, 90, 91, 92, 93, 94, 95, 96, 97, 98, 99, 100, 101, 102, 103, 104, 105, 106, 107, 108, 109, 110, 111, 112, 113, 114, 115] (by decide +kernel) (by decide +kernel)
set_option maxRecDepth 20000 in
theorem gX6_stuck_X6_pick : GoodIn wsX6_stuck (wsV RX6 126 RX6 yX6_pick wsX6_pick) := goodIn_app (goodIn_of _ (by decide +kernel)) ggX6_stuck_X6_pick
set_option maxRecDepth 20000 in
theorem ggX6_near_X6_isSum : GoodIn wsX6_near wsX6_isSum := goodIn_r _ [4, 5, 6, 3, 7] (by decide +kernel) (by decide +kernel)
set_option maxRecDepth 20000 in
theorem gX6_near_X6_isSum : GoodIn wsX6_near (va_wsS RX6 97 yX6_isSum wsX6_isSum) := goodIn_app (goodIn_of _ (by decide +kernel)) ggX6_near_X6_isSum
set_option maxRecDepth 20000 in
theorem ggX6_near_X6_within : GoodIn wsX6_near wsX6_within := goodIn_r _ [7] (by decide +kernel) (by decide +kernel)
set_option maxRecDepth 20000 in
theorem gX6_near_X6_within : GoodIn wsX6_near (va_wsS RX6 69 yX6_within wsX6_within) := goodIn_app (goodIn_of _ (by decide +kernel)) ggX6_near_X6_within
set_option maxRecDepth 20000 in
theorem ggX6_near_X6_nearestBelow : GoodIn wsX6_near wsX6_nearestBelow := goodIn_r _ [11, 12, 13, 14, 3, 15, 16, 17, 18, 19, 20, 21, 22, 23, 24, 25, 26, 27, 28, 29, 30, 31, 32, 33, 34, 35, 36, 37, 38, 5, 6, 7, 39, 40, 41, 42, 43, 44, 45, 46, 47, 48, 49, 50, 51, 52, 53, 54, 55, 56, 57, 58, 59, 60, 61, 62, 63, 64, 65, 66, 67, 68, 69, 70, 75, 76, 77, 78, 79, 80, 81, 82, 83, 84, 85, 86, 87, 88, 89, 90, 91, 92, 93, 94, 95, 96, 97] (by decide +kernel) (by decide +kernel)
set_option maxRecDepth 20000 in
theorem gX6_near_X6_nearestBelow : GoodIn wsX6_near (wsV RX6 130 RX6 yX6_nearestBelow wsX6_nearestBelow) := goodIn_app (goodIn_of _ (by decide +kernel)) ggX6_near_X6_nearestBelow
set_option maxRecDepth 20000 in
theorem ggX6_near_X6_nearestAbove : GoodIn wsX6_near wsX6_nearestAbove := goodIn_r _ [74, 12, 13, 14, 3, 15, 16, 17, 18, 19, 20, 21, 22, 23, 24, 25, 26, 27, 28, 29, 30, 31, 32, 33, 34, 35, 36, 37, 38, 5, 6, 7, 39, 40, 41, 42, 43, 44, 45, 46, 47, 48, 49, 50, 51, 52, 53, 54, 55, 56, 57, 58, 59, 60, 61, 62, 63, 64, 65, 66, 67, 68, 69, 70, 75, 76, 77, 78, 79, 80, 81, 82, 83, 84, 85, 86, 87, 88, 89, 90, 91, 92, 93, 94, 95, 96, 97] (by decide +kernel) (by decide +kernel)
set_option maxRecDepth 20000 in
theorem gX6_near_X6_nearestAbove : GoodIn wsX6_near (wsV RX6 133 RX6 yX6_nearestAbove wsX6_nearestAbove) := goodIn_app (goodIn_of _ (by decide +kernel)) ggX6_near_X6_nearestAbove
set_option maxRecDepth 20000 in
theorem ggX6_endless_X6_within : GoodIn wsX6_endless wsX6_within := goodIn_r _ [6] (by decide +kernel) (by decide +kernel)
set_option maxRecDepth 20000 in
theorem gX6_endless_X6_within : GoodIn wsX6_endless (va_wsS RX6 69 yX6_within wsX6_within) := goodIn_app (goodIn_of _ (by decide +kernel)) ggX6_endless_X6_within
set_option maxRecDepth 20000 in
theorem ggX6_endless_X0_measure : GoodIn wsX6_endless wsX0_measure := goodIn_r _ [11, 12, 13, 14, 15, 16, 17, 18, 19, 20, 21, 5, 22, 3, 4, 6, 23, 24, 25, 26, 27, 28, 29, 10, 30, 31, 32, 33, 34, 35, 36, 37, 38, 39, 40, 41, 67, 68, 69, 70, 71, 72, 73, 74, 75, 76, 77] (by decide +kernel) (by decide +kernel)
set_option maxRecDepth 20000 in
theorem gX6_endless_X0_measure : GoodIn wsX6_endless (wsV RX6 136 RX0 yX0_measure wsX0_measure) := goodIn_app (goodIn_of _ (by decide +kernel)) ggX6_endless_X0_measure
set_option maxRecDepth 20000 in
theorem ggX6_endless_X0_leavesGapsForEver : GoodIn wsX6_endless wsX0_leavesGapsForEver := goodIn_r _ [45, 12, 13, 14, 67, 68] (by decide +kernel) (by decide +kernel)
set_option maxRecDepth 20000 in
theorem gX6_endless_X0_leavesGapsForEver : GoodIn wsX6_endless (wsV RX6 139 RX0 yX0_leavesGapsForEver wsX0_leavesGapsForEver) := goodIn_app (goodIn_of _ (by decide +kernel)) ggX6_endless_X0_leavesGapsForEver
set_option maxRecDepth 20000 in
theorem ggX6_endless_X0_stuckSums : GoodIn wsX6_endless wsX0_stuckSums := goodIn_r _ [49, 12, 13, 67, 68] (by decide +kernel) (by decide +kernel)
set_option maxRecDepth 20000 in
theorem gX6_endless_X0_stuckSums : GoodIn wsX6_endless (wsV RX6 143 RX0 yX0_stuckSums wsX0_stuckSums) := goodIn_app (goodIn_of _ (by decide +kernel)) ggX6_endless_X0_stuckSums
set_option maxRecDepth 20000 in
theorem ggX6_endless_X0_greatestStuck : GoodIn wsX6_endless wsX0_greatestStuck := goodIn_r _ [53, 12, 13, 54, 55, 40, 56, 67, 68] (by decide +kernel) (by decide +kernel)
set_option maxRecDepth 20000 in
theorem gX6_endless_X0_greatestStuck : GoodIn wsX6_endless (wsV RX6 147 RX0 yX0_greatestStuck wsX0_greatestStuck) := goodIn_app (goodIn_of _ (by decide +kernel)) ggX6_endless_X0_greatestStuck
set_option maxRecDepth 20000 in
theorem ggX6_pins_X6_isSum : GoodIn wsX6_pins wsX6_isSum := goodIn_r _ [4, 5, 6, 3, 7] (by decide +kernel) (by decide +kernel)
set_option maxRecDepth 20000 in
theorem gX6_pins_X6_isSum : GoodIn wsX6_pins (va_wsS RX6 97 yX6_isSum wsX6_isSum) := goodIn_app (goodIn_of _ (by decide +kernel)) ggX6_pins_X6_isSum
set_option maxRecDepth 20000 in
theorem ggX6_pins_X6_market : GoodIn wsX6_pins wsX6_market := goodIn_r _ [11, 12, 13, 14, 15, 16, 17, 18, 19, 20, 21, 22, 23, 24, 25, 26, 27, 28, 29, 30, 31, 32, 33, 3, 34, 5, 6, 7, 35, 36, 37, 38, 39, 40, 41, 42, 43, 44, 45, 46, 47, 48, 49, 50, 51, 52, 53, 54, 55, 56, 57, 58, 59, 60, 61, 62, 67, 68, 69, 70, 71, 72, 73, 74, 75, 76, 77, 78, 79, 80, 81, 82, 83, 84, 85, 86, 87, 88, 89] (by decide +kernel) (by decide +kernel)
set_option maxRecDepth 20000 in
theorem gX6_pins_X6_market : GoodIn wsX6_pins (wsV RX6 108 RX6 yX6_market wsX6_market) := goodIn_app (goodIn_of _ (by decide +kernel)) ggX6_pins_X6_market
set_option maxRecDepth 20000 in
theorem ggX6_pins_X3_comesOut : GoodIn wsX6_pins wsX3_comesOut := goodIn_r _ [66, 20, 21, 77, 78, 79, 80] (by decide +kernel) (by decide +kernel)
set_option maxRecDepth 20000 in
theorem gX6_pins_X3_comesOut : GoodIn wsX6_pins (wsV RX6 112 RX3 yX3_comesOut wsX3_comesOut) := goodIn_app (goodIn_of _ (by decide +kernel)) ggX6_pins_X3_comesOut
set_option maxRecDepth 20000 in
theorem ggX6_weeks_X6_isSum : GoodIn wsX6_weeks wsX6_isSum := goodIn_r _ [4, 5, 6, 3, 7] (by decide +kernel) (by decide +kernel)
set_option maxRecDepth 20000 in
theorem gX6_weeks_X6_isSum : GoodIn wsX6_weeks (va_wsS RX6 97 yX6_isSum wsX6_isSum) := goodIn_app (goodIn_of _ (by decide +kernel)) ggX6_weeks_X6_isSum
set_option maxRecDepth 20000 in
theorem ggX6_weeks_X6_within : GoodIn wsX6_weeks wsX6_within := goodIn_r _ [7] (by decide +kernel) (by decide +kernel)
set_option maxRecDepth 20000 in
theorem gX6_weeks_X6_within : GoodIn wsX6_weeks (va_wsS RX6 69 yX6_within wsX6_within) := goodIn_app (goodIn_of _ (by decide +kernel)) ggX6_weeks_X6_within
set_option maxRecDepth 20000 in
theorem ggX6_weeks_X6_market : GoodIn wsX6_weeks wsX6_market := goodIn_r _ [11, 12, 13, 14, 15, 16, 17, 18, 19, 20, 21, 22, 23, 24, 25, 26, 27, 28, 29, 30, 31, 32, 33, 3, 34, 5, 6, 7, 35, 36, 37, 38, 39, 40, 41, 42, 43, 44, 45, 46, 47, 48, 49, 50, 51, 52, 53, 54, 55, 56, 57, 58, 59, 60, 61, 62, 67, 68, 69, 70, 71, 72, 73, 74, 75, 76, 77, 78, 79, 80, 81, 82, 83, 84, 85, 86, 87, 88, 89] (by decide +kernel) (by decide +kernel)
set_option maxRecDepth 20000 in
theorem gX6_weeks_X6_market : GoodIn wsX6_weeks (wsV RX6 108 RX6 yX6_market wsX6_market) := goodIn_app (goodIn_of _ (by decide +kernel)) ggX6_weeks_X6_market
set_option maxRecDepth 20000 in
theorem ggX6_weeks_X3_comesOut : GoodIn wsX6_weeks wsX3_comesOut := goodIn_r _ [66, 20, 21, 77, 78, 79, 80] (by decide +kernel) (by decide +kernel)
set_option maxRecDepth 20000 in
theorem gX6_weeks_X3_comesOut : GoodIn wsX6_weeks (wsV RX6 112 RX3 yX3_comesOut wsX3_comesOut) := goodIn_app (goodIn_of _ (by decide +kernel)) ggX6_weeks_X3_comesOut
set_option maxRecDepth 20000 in
theorem ggX6_purse_X6_within : GoodIn wsX6_purse wsX6_within := goodIn_r _ [5] (by decide +kernel) (by decide +kernel)
set_option maxRecDepth 20000 in
theorem gX6_purse_X6_within : GoodIn wsX6_purse (va_wsS RX6 69 yX6_within wsX6_within) := goodIn_app (goodIn_of _ (by decide +kernel)) ggX6_purse_X6_within
set_option maxRecDepth 20000 in
theorem ggX6_together_X5_hasPurse : GoodIn wsX6_together wsX5_hasPurse := goodIn_r _ [7, 8, 9, 10, 11, 115, 116, 117, 118, 119, 120, 121, 122, 123] (by decide +kernel) (by decide +kernel)
set_option maxRecDepth 20000 in
theorem gX6_together_X5_hasPurse : GoodIn wsX6_together (wsV RX6 154 RX5 yX5_hasPurse wsX5_hasPurse) := goodIn_app (goodIn_of _ (by decide +kernel)) ggX6_together_X5_hasPurse
set_option maxRecDepth 20000 in
theorem ggX6_together_X6_market : GoodIn wsX6_together wsX6_market := goodIn_r _ [15, 16, 1, 17, 18, 19, 20, 21, 22, 23, 24, 25, 26, 27, 28, 29, 30, 31, 32, 6, 33, 34, 35, 10, 36, 37, 9, 11, 38, 39, 40, 41, 42, 43, 44, 45, 46, 47, 48, 49, 50, 51, 52, 53, 54, 55, 56, 57, 58, 59, 60, 61, 62, 63, 64, 65, 105, 106, 107, 108, 109, 110, 111, 112, 113, 114, 124, 125, 126, 127, 115, 116, 117, 118, 119, 120, 121, 122, 123] (by decide +kernel) (by decide +kernel)
set_option maxRecDepth 20000 in
theorem gX6_together_X6_market : GoodIn wsX6_together (wsV RX6 108 RX6 yX6_market wsX6_market) := goodIn_app (goodIn_of _ (by decide +kernel)) ggX6_together_X6_market
set_option maxRecDepth 20000 in
theorem ggX6_together_X2_settle : GoodIn wsX6_together wsX2_settle := goodIn_r _ [70, 71, 72, 4, 5, 6, 7, 8, 9, 10, 11, 73, 74, 75, 69, 76, 77, 78, 79, 80, 81, 82, 83, 84, 85, 86, 87, 20, 88, 23, 24, 89, 90, 91, 92, 93, 94, 95, 96, 44, 128, 129, 130, 115, 116, 117, 118, 119, 120, 121, 122, 123, 124, 125, 126, 127] (by decide +kernel) (by decide +kernel)
set_option maxRecDepth 20000 in
theorem gX6_together_X2_settle : GoodIn wsX6_together (wsV RX6 157 RX2 yX2_settle wsX2_settle) := goodIn_app (goodIn_of _ (by decide +kernel)) ggX6_together_X2_settle
set_option maxRecDepth 20000 in
theorem ggX6_together_X2_mostWorth : GoodIn wsX6_together wsX2_mostWorth := goodIn_r _ [100, 77, 71, 128, 129, 130] (by decide +kernel) (by decide +kernel)
set_option maxRecDepth 20000 in
theorem gX6_together_X2_mostWorth : GoodIn wsX6_together (wsV RX6 161 RX2 yX2_mostWorth wsX2_mostWorth) := goodIn_app (goodIn_of _ (by decide +kernel)) ggX6_together_X2_mostWorth
set_option maxRecDepth 20000 in
theorem ggX6_together_X2_leastBeside : GoodIn wsX6_together wsX2_leastBeside := goodIn_r _ [104, 71, 78, 79, 80, 69, 81, 128, 129, 130] (by decide +kernel) (by decide +kernel)
set_option maxRecDepth 20000 in
theorem gX6_together_X2_leastBeside : GoodIn wsX6_together (wsV RX6 164 RX2 yX2_leastBeside wsX2_leastBeside) := goodIn_app (goodIn_of _ (by decide +kernel)) ggX6_together_X2_leastBeside
set_option maxRecDepth 20000 in
theorem ggX6_pays_X5_hasPurse : GoodIn wsX6_pays wsX5_hasPurse := goodIn_r _ [6, 7, 8, 9, 10, 79, 80, 81, 82, 83, 84, 85, 86, 87] (by decide +kernel) (by decide +kernel)
set_option maxRecDepth 20000 in
theorem gX6_pays_X5_hasPurse : GoodIn wsX6_pays (wsV RX6 154 RX5 yX5_hasPurse wsX5_hasPurse) := goodIn_app (goodIn_of _ (by decide +kernel)) ggX6_pays_X5_hasPurse
set_option maxRecDepth 20000 in
theorem ggX6_pays_X6_market : GoodIn wsX6_pays wsX6_market := goodIn_r _ [14, 15, 1, 16, 17, 18, 19, 20, 21, 22, 23, 24, 25, 26, 27, 28, 29, 30, 31, 5, 32, 33, 34, 9, 35, 36, 8, 10, 37, 38, 39, 40, 41, 42, 43, 44, 45, 46, 47, 48, 49, 50, 51, 52, 53, 54, 55, 56, 57, 58, 59, 60, 61, 62, 63, 64, 69, 70, 71, 72, 73, 74, 75, 76, 77, 78, 88, 89, 90, 91, 79, 80, 81, 82, 83, 84, 85, 86, 87] (by decide +kernel) (by decide +kernel)
set_option maxRecDepth 20000 in
theorem gX6_pays_X6_market : GoodIn wsX6_pays (wsV RX6 108 RX6 yX6_market wsX6_market) := goodIn_app (goodIn_of _ (by decide +kernel)) ggX6_pays_X6_market
set_option maxRecDepth 20000 in
theorem ggX6_pays_X3_comesOut : GoodIn wsX6_pays wsX3_comesOut := goodIn_r _ [68, 22, 23, 88, 89, 90, 91] (by decide +kernel) (by decide +kernel)
set_option maxRecDepth 20000 in
theorem gX6_pays_X3_comesOut : GoodIn wsX6_pays (wsV RX6 112 RX3 yX3_comesOut wsX3_comesOut) := goodIn_app (goodIn_of _ (by decide +kernel)) ggX6_pays_X3_comesOut
set_option maxRecDepth 20000 in
theorem ggX6_wage_X6_isSpan : GoodIn wsX6_wage wsX6_isSpan := goodIn_r _ [4, 5, 6, 3, 7, 8, 9, 10] (by decide +kernel) (by decide +kernel)
set_option maxRecDepth 20000 in
theorem gX6_wage_X6_isSpan : GoodIn wsX6_wage (va_wsS RX6 122 yX6_isSpan wsX6_isSpan) := goodIn_app (goodIn_of _ (by decide +kernel)) ggX6_wage_X6_isSpan
set_option maxRecDepth 20000 in
theorem ggX6_wage_X6_within : GoodIn wsX6_wage wsX6_within := goodIn_r _ [10] (by decide +kernel) (by decide +kernel)
set_option maxRecDepth 20000 in
theorem gX6_wage_X6_within : GoodIn wsX6_wage (va_wsS RX6 69 yX6_within wsX6_within) := goodIn_app (goodIn_of _ (by decide +kernel)) ggX6_wage_X6_within
set_option maxRecDepth 20000 in
theorem ggX6_wage_X6_market : GoodIn wsX6_wage wsX6_market := goodIn_r _ [14, 15, 16, 17, 18, 19, 20, 21, 22, 23, 24, 25, 26, 27, 28, 29, 30, 31, 32, 33, 34, 35, 36, 3, 37, 8, 9, 10, 38, 39, 40, 41, 42, 43, 44, 45, 46, 47, 48, 49, 50, 51, 52, 53, 54, 55, 56, 57, 58, 59, 60, 61, 62, 63, 64, 65, 78, 79, 80, 81, 82, 83, 84, 85, 86, 87, 88, 89, 90, 91, 92, 93, 94, 95, 96, 97, 98, 99, 100] (by decide +kernel) (by decide +kernel)
set_option maxRecDepth 20000 in
theorem gX6_wage_X6_market : GoodIn wsX6_wage (wsV RX6 108 RX6 yX6_market wsX6_market) := goodIn_app (goodIn_of _ (by decide +kernel)) ggX6_wage_X6_market
set_option maxRecDepth 20000 in
theorem ggX6_wage_X3_comesOut : GoodIn wsX6_wage wsX3_comesOut := goodIn_r _ [69, 23, 24, 88, 89, 90, 91] (by decide +kernel) (by decide +kernel)
set_option maxRecDepth 20000 in
theorem gX6_wage_X3_comesOut : GoodIn wsX6_wage (wsV RX6 112 RX3 yX3_comesOut wsX3_comesOut) := goodIn_app (goodIn_of _ (by decide +kernel)) ggX6_wage_X3_comesOut
set_option maxRecDepth 20000 in
theorem ggX6_wage_X3_worthAt : GoodIn wsX6_wage wsX3_worthAt := goodIn_r _ [73, 23, 74, 67, 68, 20, 69, 24, 75, 76, 77, 44, 88, 89, 90, 91] (by decide +kernel) (by decide +kernel)
set_option maxRecDepth 20000 in
theorem gX6_wage_X3_worthAt : GoodIn wsX6_wage (wsV RX6 115 RX3 yX3_worthAt wsX3_worthAt) := goodIn_app (goodIn_of _ (by decide +kernel)) ggX6_wage_X3_worthAt
set_option maxRecDepth 20000 in
theorem ggX6_priced_X6_isThing : GoodIn wsX6_priced wsX6_isThing := goodIn_r _ [6, 7, 8, 5, 9] (by decide +kernel) (by decide +kernel)
set_option maxRecDepth 20000 in
theorem gX6_priced_X6_isThing : GoodIn wsX6_priced (va_wsS RX6 65 yX6_isThing wsX6_isThing) := goodIn_app (goodIn_of _ (by decide +kernel)) ggX6_priced_X6_isThing
set_option maxRecDepth 20000 in
theorem ggX6_priced_X6_within : GoodIn wsX6_priced wsX6_within := goodIn_r _ [9] (by decide +kernel) (by decide +kernel)
set_option maxRecDepth 20000 in
theorem gX6_priced_X6_within : GoodIn wsX6_priced (va_wsS RX6 69 yX6_within wsX6_within) := goodIn_app (goodIn_of _ (by decide +kernel)) ggX6_priced_X6_within
set_option maxRecDepth 20000 in
theorem ggX6_priced_X3_fill : GoodIn wsX6_priced wsX3_fill := goodIn_r _ [14, 15, 16, 17, 18, 19, 20, 21, 22, 23, 24, 25, 26, 27, 28, 4, 5, 6, 7, 8, 9, 29, 30, 31, 13, 32, 33, 34, 35, 36, 37, 38, 39, 40, 41, 42, 43, 44, 45, 46, 47, 48, 49, 50, 51, 52, 53, 54, 55, 56, 94, 95, 96, 97, 85, 86, 87, 88, 89, 90, 91, 92, 93] (by decide +kernel) (by decide +kernel)
set_option maxRecDepth 20000 in
theorem gX6_priced_X3_fill : GoodIn wsX6_priced (wsV RX6 167 RX3 yX3_fill wsX3_fill) := goodIn_app (goodIn_of _ (by decide +kernel)) ggX6_priced_X3_fill
set_option maxRecDepth 20000 in
theorem ggX6_priced_X3_weigh : GoodIn wsX6_priced wsX3_weigh := goodIn_r _ [32, 33, 34, 35, 36, 37, 38, 26, 39, 40, 41, 42, 43, 44, 45, 94, 95, 96, 97, 85, 86, 87, 88, 89, 90, 91, 92, 93] (by decide +kernel) (by decide +kernel)
set_option maxRecDepth 20000 in
theorem gX6_priced_X3_weigh : GoodIn wsX6_priced (wsV RX6 171 RX3 yX3_weigh wsX3_weigh) := goodIn_app (goodIn_of _ (by decide +kernel)) ggX6_priced_X3_weigh
set_option maxRecDepth 20000 in
theorem ggX6_priced_X6_boughtAt : GoodIn wsX6_priced wsX6_boughtAt := goodIn_r _ [61, 2, 1, 62, 63, 64, 26, 65, 66, 8, 5, 9, 67, 68, 69, 13, 70, 17, 34, 16, 71, 72, 73, 74, 75, 76, 77, 78, 79, 80, 81, 82, 83, 84, 85, 86, 87, 88, 89, 90, 91, 92, 93, 94, 95, 96, 97] (by decide +kernel) (by decide +kernel)
set_option maxRecDepth 20000 in
theorem gX6_priced_X6_boughtAt : GoodIn wsX6_priced (wsV RX6 177 RX6 yX6_boughtAt wsX6_boughtAt) := goodIn_app (goodIn_of _ (by decide +kernel)) ggX6_priced_X6_boughtAt
set_option maxRecDepth 20000 in
theorem ggX6_penny_X6_isSpan : GoodIn wsX6_penny wsX6_isSpan := goodIn_r _ [4, 5, 6, 3, 7, 8, 9, 10] (by decide +kernel) (by decide +kernel)
set_option maxRecDepth 20000 in
theorem gX6_penny_X6_isSpan : GoodIn wsX6_penny (va_wsS RX6 122 yX6_isSpan wsX6_isSpan) := goodIn_app (goodIn_of _ (by decide +kernel)) ggX6_penny_X6_isSpan
set_option maxRecDepth 20000 in
theorem ggX6_penny_X6_within : GoodIn wsX6_penny wsX6_within := goodIn_r _ [10] (by decide +kernel) (by decide +kernel)
set_option maxRecDepth 20000 in
theorem gX6_penny_X6_within : GoodIn wsX6_penny (va_wsS RX6 69 yX6_within wsX6_within) := goodIn_app (goodIn_of _ (by decide +kernel)) ggX6_penny_X6_within
set_option maxRecDepth 20000 in
theorem ggX6_penny_X6_market : GoodIn wsX6_penny wsX6_market := goodIn_r _ [14, 15, 16, 17, 18, 19, 20, 21, 22, 23, 24, 25, 26, 27, 28, 29, 30, 31, 32, 33, 34, 35, 36, 3, 37, 8, 9, 10, 38, 39, 40, 41, 42, 43, 44, 45, 46, 47, 48, 49, 50, 51, 52, 53, 54, 55, 56, 57, 58, 59, 60, 61, 62, 63, 64, 65, 78, 79, 80, 81, 82, 83, 84, 85, 86, 87, 88, 89, 90, 91, 92, 93, 94, 95, 96, 97, 98, 99, 100] (by decide +kernel) (by decide +kernel)
set_option maxRecDepth 20000 in
theorem gX6_penny_X6_market : GoodIn wsX6_penny (wsV RX6 108 RX6 yX6_market wsX6_market) := goodIn_app (goodIn_of _ (by decide +kernel)) ggX6_penny_X6_market
set_option maxRecDepth 20000 in
theorem ggX6_penny_X3_worthAt : GoodIn wsX6_penny wsX3_worthAt := goodIn_r _ [69, 23, 70, 71, 72, 20, 73, 24, 74, 75, 76, 44, 88, 89, 90, 91] (by decide +kernel) (by decide +kernel)
set_option maxRecDepth 20000 in
theorem gX6_penny_X3_worthAt : GoodIn wsX6_penny (wsV RX6 115 RX3 yX3_worthAt wsX3_worthAt) := goodIn_app (goodIn_of _ (by decide +kernel)) ggX6_penny_X3_worthAt
set_option maxRecDepth 20000 in
theorem ggX6_penny_X3_comesOut : GoodIn wsX6_penny wsX3_comesOut := goodIn_r _ [73, 23, 24, 88, 89, 90, 91] (by decide +kernel) (by decide +kernel)
set_option maxRecDepth 20000 in
theorem gX6_penny_X3_comesOut : GoodIn wsX6_penny (wsV RX6 112 RX3 yX3_comesOut wsX3_comesOut) := goodIn_app (goodIn_of _ (by decide +kernel)) ggX6_penny_X3_comesOut
set_option maxRecDepth 20000 in
theorem ggX6_seen_X6_isThing : GoodIn wsX6_seen wsX6_isThing := goodIn_r _ [5, 6, 7, 4, 8] (by decide +kernel) (by decide +kernel)
set_option maxRecDepth 20000 in
theorem gX6_seen_X6_isThing : GoodIn wsX6_seen (va_wsS RX6 65 yX6_isThing wsX6_isThing) := goodIn_app (goodIn_of _ (by decide +kernel)) ggX6_seen_X6_isThing
set_option maxRecDepth 20000 in
theorem ggX6_seen_X6_within : GoodIn wsX6_seen wsX6_within := goodIn_r _ [8] (by decide +kernel) (by decide +kernel)
set_option maxRecDepth 20000 in
theorem gX6_seen_X6_within : GoodIn wsX6_seen (va_wsS RX6 69 yX6_within wsX6_within) := goodIn_app (goodIn_of _ (by decide +kernel)) ggX6_seen_X6_within
set_option maxRecDepth 20000 in
theorem ggX6_seen_X5_addSight : GoodIn wsX6_seen wsX5_addSight := goodIn_r _ [13, 14, 15, 16, 17, 28, 29, 30, 31, 32, 33, 34, 35, 36] (by decide +kernel) (by decide +kernel)
set_option maxRecDepth 20000 in
theorem gX6_seen_X5_addSight : GoodIn wsX6_seen (wsV RX6 180 RX5 yX5_addSight wsX5_addSight) := goodIn_app (goodIn_of _ (by decide +kernel)) ggX6_seen_X5_addSight
set_option maxRecDepth 20000 in
theorem ggX6_fits_X6_isSpan : GoodIn wsX6_fits wsX6_isSpan := goodIn_r _ [4, 5, 6, 3, 7, 8, 9, 10] (by decide +kernel) (by decide +kernel)
set_option maxRecDepth 20000 in
theorem gX6_fits_X6_isSpan : GoodIn wsX6_fits (va_wsS RX6 122 yX6_isSpan wsX6_isSpan) := goodIn_app (goodIn_of _ (by decide +kernel)) ggX6_fits_X6_isSpan
set_option maxRecDepth 20000 in
theorem ggX6_fits_X6_pick : GoodIn wsX6_fits wsX6_pick := goodIn_r _ [14, 15, 16, 17, 3, 18, 19, 20, 21, 22, 23, 24, 25, 26, 27, 28, 29, 30, 31, 32, 33, 34, 35, 36, 37, 38, 39, 40, 41, 8, 9, 10, 42, 43, 44, 45, 46, 47, 48, 49, 50, 51, 52, 53, 54, 55, 56, 57, 58, 59, 60, 61, 62, 63, 64, 65, 66, 67, 68, 69, 70, 71, 72, 73, 74, 75, 76, 77, 78, 79, 80, 81, 82, 83, 84, 85, 86, 87, 88, 89, 90, 91, 92, 93, 94, 95, 96, 97, 98, 99, 100, 101, 102, 103, 104, 105, 106, 107, 108, 109, 110, 111, 112, 113, 114, 115] (by decide +kernel) (by decide +kernel)
set_option maxRecDepth 20000 in
theorem gX6_fits_X6_pick : GoodIn wsX6_fits (wsV RX6 126 RX6 yX6_pick wsX6_pick) := goodIn_app (goodIn_of _ (by decide +kernel)) ggX6_fits_X6_pick
set_option maxRecDepth 20000 in
theorem ggX6_row_X6_isSum : GoodIn wsX6_row wsX6_isSum := goodIn_r _ [7, 8, 9, 6, 10] (by decide +kernel) (by decide +kernel)
set_option maxRecDepth 20000 in
theorem gX6_row_X6_isSum : GoodIn wsX6_row (va_wsS RX6 97 yX6_isSum wsX6_isSum) := goodIn_app (goodIn_of _ (by decide +kernel)) ggX6_row_X6_isSum
set_option maxRecDepth 20000 in
theorem ggX6_row_X3_fill : GoodIn wsX6_row wsX3_fill := goodIn_r _ [15, 16, 17, 18, 19, 20, 21, 22, 23, 24, 25, 26, 27, 28, 29, 30, 6, 31, 8, 9, 10, 32, 33, 34, 14, 35, 36, 37, 38, 39, 40, 41, 42, 43, 44, 45, 46, 47, 48, 49, 50, 51, 52, 53, 54, 55, 56, 57, 58, 59, 74, 75, 76, 77, 78, 79, 80, 81, 82, 83, 84, 85, 86] (by decide +kernel) (by decide +kernel)
set_option maxRecDepth 20000 in
theorem gX6_row_X3_fill : GoodIn wsX6_row (wsV RX6 167 RX3 yX3_fill wsX3_fill) := goodIn_app (goodIn_of _ (by decide +kernel)) ggX6_row_X3_fill
set_option maxRecDepth 20000 in
theorem ggX6_row_X3_comesOut : GoodIn wsX6_row wsX3_comesOut := goodIn_r _ [63, 17, 18, 74, 75, 76, 77] (by decide +kernel) (by decide +kernel)
set_option maxRecDepth 20000 in
theorem gX6_row_X3_comesOut : GoodIn wsX6_row (wsV RX6 112 RX3 yX3_comesOut wsX3_comesOut) := goodIn_app (goodIn_of _ (by decide +kernel)) ggX6_row_X3_comesOut
set_option maxRecDepth 20000 in
theorem ggX6_year_X6_within : GoodIn wsX6_year wsX6_within := goodIn_r _ [5] (by decide +kernel) (by decide +kernel)
set_option maxRecDepth 20000 in
theorem gX6_year_X6_within : GoodIn wsX6_year (va_wsS RX6 69 yX6_within wsX6_within) := goodIn_app (goodIn_of _ (by decide +kernel)) ggX6_year_X6_within
set_option maxRecDepth 20000 in
theorem ggX6_year_X6_market : GoodIn wsX6_year wsX6_market := goodIn_r _ [9, 10, 11, 12, 13, 14, 15, 16, 17, 18, 19, 20, 21, 22, 23, 24, 25, 26, 27, 28, 29, 30, 31, 4, 32, 2, 3, 5, 33, 34, 35, 36, 37, 38, 39, 40, 41, 42, 43, 44, 45, 46, 47, 48, 49, 50, 51, 52, 53, 54, 55, 56, 57, 58, 59, 60, 73, 74, 75, 76, 77, 78, 79, 80, 81, 82, 83, 84, 85, 86, 87, 88, 89, 90, 91, 92, 93, 94, 95] (by decide +kernel) (by decide +kernel)
set_option maxRecDepth 20000 in
theorem gX6_year_X6_market : GoodIn wsX6_year (wsV RX6 108 RX6 yX6_market wsX6_market) := goodIn_app (goodIn_of _ (by decide +kernel)) ggX6_year_X6_market
set_option maxRecDepth 20000 in
theorem ggX6_year_X3_comesOut : GoodIn wsX6_year wsX3_comesOut := goodIn_r _ [64, 18, 19, 83, 84, 85, 86] (by decide +kernel) (by decide +kernel)
set_option maxRecDepth 20000 in
theorem gX6_year_X3_comesOut : GoodIn wsX6_year (wsV RX6 112 RX3 yX3_comesOut wsX3_comesOut) := goodIn_app (goodIn_of _ (by decide +kernel)) ggX6_year_X3_comesOut
set_option maxRecDepth 20000 in
theorem ggX6_year_X3_worthAt : GoodIn wsX6_year wsX3_worthAt := goodIn_r _ [68, 18, 69, 62, 63, 15, 64, 19, 70, 71, 72, 39, 83, 84, 85, 86] (by decide +kernel) (by decide +kernel)
set_option maxRecDepth 20000 in
theorem gX6_year_X3_worthAt : GoodIn wsX6_year (wsV RX6 115 RX3 yX3_worthAt wsX3_worthAt) := goodIn_app (goodIn_of _ (by decide +kernel)) ggX6_year_X3_worthAt
set_option maxRecDepth 20000 in
theorem ggX6_image_X6_isImage : GoodIn wsX6_image wsX6_isImage := goodIn_r _ [7, 8, 9, 6, 10] (by decide +kernel) (by decide +kernel)
set_option maxRecDepth 20000 in
theorem gX6_image_X6_isImage : GoodIn wsX6_image (va_wsS RX6 187 yX6_isImage wsX6_isImage) := goodIn_app (goodIn_of _ (by decide +kernel)) ggX6_image_X6_isImage
set_option maxRecDepth 20000 in
theorem ggX6_image_X5_copyFrom : GoodIn wsX6_image wsX5_copyFrom := goodIn_r _ [15, 16, 17, 18, 19, 20, 21, 22, 23, 24, 25, 26, 27, 28, 39, 40, 41, 42, 43, 44, 45, 46, 47] (by decide +kernel) (by decide +kernel)
set_option maxRecDepth 20000 in
theorem gX6_image_X5_copyFrom : GoodIn wsX6_image (wsV RX6 190 RX5 yX5_copyFrom wsX5_copyFrom) := goodIn_app (goodIn_of _ (by decide +kernel)) ggX6_image_X5_copyFrom
set_option maxRecDepth 20000 in
theorem ggX6_restore_X6_isImage : GoodIn wsX6_restore wsX6_isImage := goodIn_r _ [7, 8, 9, 6, 10] (by decide +kernel) (by decide +kernel)
set_option maxRecDepth 20000 in
theorem gX6_restore_X6_isImage : GoodIn wsX6_restore (va_wsS RX6 187 yX6_isImage wsX6_isImage) := goodIn_app (goodIn_of _ (by decide +kernel)) ggX6_restore_X6_isImage
set_option maxRecDepth 20000 in
theorem ggX6_restore_X5_copyFrom : GoodIn wsX6_restore wsX5_copyFrom := goodIn_r _ [15, 16, 17, 18, 19, 20, 21, 22, 23, 24, 25, 26, 27, 28, 59, 60, 61, 62, 63, 64, 65, 66, 67] (by decide +kernel) (by decide +kernel)
set_option maxRecDepth 20000 in
theorem gX6_restore_X5_copyFrom : GoodIn wsX6_restore (wsV RX6 190 RX5 yX5_copyFrom wsX5_copyFrom) := goodIn_app (goodIn_of _ (by decide +kernel)) ggX6_restore_X5_copyFrom
set_option maxRecDepth 20000 in
theorem ggX6_restore_X6_forgetShelves : GoodIn wsX6_restore wsX6_forgetShelves := goodIn_r _ [32, 33, 34, 35, 36, 37, 38, 39, 40, 41, 42, 43, 44, 45, 46, 47, 48, 49, 50, 51, 52, 53, 54, 55, 56, 57, 58, 68, 69, 70, 71, 72, 73] (by decide +kernel) (by decide +kernel)
set_option maxRecDepth 20000 in
theorem gX6_restore_X6_forgetShelves : GoodIn wsX6_restore (wsV RX6 77 RX6 yX6_forgetShelves wsX6_forgetShelves) := goodIn_app (goodIn_of _ (by decide +kernel)) ggX6_restore_X6_forgetShelves
set_option maxRecDepth 20000 in
theorem ggX6_told_X6_within : GoodIn wsX6_told wsX6_within := goodIn_r _ [6] (by decide +kernel) (by decide +kernel)
set_option maxRecDepth 20000 in
theorem gX6_told_X6_within : GoodIn wsX6_told (va_wsS RX6 69 yX6_within wsX6_within) := goodIn_app (goodIn_of _ (by decide +kernel)) ggX6_told_X6_within
set_option maxRecDepth 20000 in
theorem ggX6_told_X5_tellThing : GoodIn wsX6_told wsX5_tellThing := goodIn_r _ [11, 12, 13, 14, 15, 29, 30, 31, 32, 33, 34, 35, 36, 37] (by decide +kernel) (by decide +kernel)
set_option maxRecDepth 20000 in
theorem gX6_told_X5_tellThing : GoodIn wsX6_told (wsV RX6 193 RX5 yX5_tellThing wsX5_tellThing) := goodIn_app (goodIn_of _ (by decide +kernel)) ggX6_told_X5_tellThing
set_option maxRecDepth 20000 in
theorem ggX6_isThing_X6_within : GoodIn wsX6_isThing wsX6_within := goodIn_r _ [4] (by decide +kernel) (by decide +kernel)
set_option maxRecDepth 20000 in
theorem gX6_isThing_X6_within : GoodIn wsX6_isThing (va_wsS RX6 69 yX6_within wsX6_within) := goodIn_app (goodIn_of _ (by decide +kernel)) ggX6_isThing_X6_within
set_option maxRecDepth 20000 in
theorem ggX6_isSum_X6_within : GoodIn wsX6_isSum wsX6_within := goodIn_r _ [4] (by decide +kernel) (by decide +kernel)
set_option maxRecDepth 20000 in
theorem gX6_isSum_X6_within : GoodIn wsX6_isSum (va_wsS RX6 69 yX6_within wsX6_within) := goodIn_app (goodIn_of _ (by decide +kernel)) ggX6_isSum_X6_within
set_option maxRecDepth 20000 in
theorem ggX6_isSpan_X6_isSum : GoodIn wsX6_isSpan wsX6_isSum := goodIn_r _ [4, 5, 6, 3, 7] (by decide +kernel) (by decide +kernel)
set_option maxRecDepth 20000 in
theorem gX6_isSpan_X6_isSum : GoodIn wsX6_isSpan (va_wsS RX6 97 yX6_isSum wsX6_isSum) := goodIn_app (goodIn_of _ (by decide +kernel)) ggX6_isSpan_X6_isSum
set_option maxRecDepth 20000 in
theorem ggX6_isImage_X6_within : GoodIn wsX6_isImage wsX6_within := goodIn_r _ [4] (by decide +kernel) (by decide +kernel)
set_option maxRecDepth 20000 in
theorem gX6_isImage_X6_within : GoodIn wsX6_isImage (va_wsS RX6 69 yX6_within wsX6_within) := goodIn_app (goodIn_of _ (by decide +kernel)) ggX6_isImage_X6_within
set_option maxRecDepth 20000 in
theorem ggX6_forgetShelves_X3_empty : GoodIn wsX6_forgetShelves wsX3_empty := goodIn_r _ [9, 10, 27, 28, 29, 30] (by decide +kernel) (by decide +kernel)
set_option maxRecDepth 20000 in
theorem gX6_forgetShelves_X3_empty : GoodIn wsX6_forgetShelves (wsV RX6 196 RX3 yX3_empty wsX3_empty) := goodIn_app (goodIn_of _ (by decide +kernel)) ggX6_forgetShelves_X3_empty
set_option maxRecDepth 20000 in
theorem ggX6_forgetShelves_X4_empty : GoodIn wsX6_forgetShelves wsX4_empty := goodIn_r _ [15, 16, 31, 32] (by decide +kernel) (by decide +kernel)
set_option maxRecDepth 20000 in
theorem gX6_forgetShelves_X4_empty : GoodIn wsX6_forgetShelves (wsV RX6 199 RX4 yX4_empty wsX4_empty) := goodIn_app (goodIn_of _ (by decide +kernel)) ggX6_forgetShelves_X4_empty
set_option maxRecDepth 20000 in
theorem ggX6_market_X3_fill : GoodIn wsX6_market wsX3_fill := goodIn_r _ [7, 8, 9, 10, 11, 12, 13, 14, 15, 16, 17, 18, 19, 20, 21, 22, 23, 24, 25, 26, 27, 28, 29, 30, 6, 31, 32, 33, 34, 35, 36, 37, 38, 39, 40, 41, 42, 43, 44, 45, 46, 47, 48, 49, 50, 51, 52, 53, 54, 55, 66, 67, 68, 69, 70, 71, 72, 73, 74, 75, 76, 77, 78] (by decide +kernel) (by decide +kernel)
set_option maxRecDepth 20000 in
theorem gX6_market_X3_fill : GoodIn wsX6_market (wsV RX6 167 RX3 yX3_fill wsX3_fill) := goodIn_app (goodIn_of _ (by decide +kernel)) ggX6_market_X3_fill
set_option maxRecDepth 20000 in
theorem ggX6_pick_X6_market : GoodIn wsX6_pick wsX6_market := goodIn_r _ [5, 6, 7, 8, 9, 10, 11, 12, 13, 14, 15, 16, 17, 18, 19, 20, 21, 22, 23, 24, 25, 26, 27, 4, 28, 29, 30, 31, 32, 33, 34, 35, 36, 37, 38, 39, 40, 41, 42, 43, 44, 45, 46, 47, 48, 49, 50, 51, 52, 53, 54, 55, 56, 57, 58, 59, 83, 84, 85, 86, 87, 88, 89, 90, 91, 92, 93, 94, 95, 96, 97, 98, 99, 100, 101, 102, 103, 104, 105] (by decide +kernel) (by decide +kernel)
set_option maxRecDepth 20000 in
theorem gX6_pick_X6_market : GoodIn wsX6_pick (wsV RX6 108 RX6 yX6_market wsX6_market) := goodIn_app (goodIn_of _ (by decide +kernel)) ggX6_pick_X6_market
set_option maxRecDepth 20000 in
theorem ggX6_pick_X3_comesOut : GoodIn wsX6_pick wsX3_comesOut := goodIn_r _ [63, 14, 15, 93, 94, 95, 96] (by decide +kernel) (by decide +kernel)
set_option maxRecDepth 20000 in
theorem gX6_pick_X3_comesOut : GoodIn wsX6_pick (wsV RX6 112 RX3 yX3_comesOut wsX3_comesOut) := goodIn_app (goodIn_of _ (by decide +kernel)) ggX6_pick_X3_comesOut
set_option maxRecDepth 20000 in
theorem ggX6_pick_X6_fitsSights : GoodIn wsX6_pick wsX6_fitsSights := goodIn_r _ [67, 7, 60, 61, 62, 11, 63, 14, 15, 68, 69, 70, 24, 71, 72, 73, 74, 75, 76, 77, 78, 38, 36, 79, 80, 81, 82, 83, 84, 85, 86, 87, 88, 89, 90, 91, 92, 97, 98, 99, 100, 101, 102, 103, 104, 105, 93, 94, 95, 96] (by decide +kernel) (by decide +kernel)
set_option maxRecDepth 20000 in
theorem gX6_pick_X6_fitsSights : GoodIn wsX6_pick (wsV RX6 200 RX6 yX6_fitsSights wsX6_fitsSights) := goodIn_app (goodIn_of _ (by decide +kernel)) ggX6_pick_X6_fitsSights
set_option maxRecDepth 20000 in
theorem ggX6_fitsSights_X3_comesOut : GoodIn wsX6_fitsSights wsX3_comesOut := goodIn_r _ [6, 7, 8, 46, 47, 48, 49] (by decide +kernel) (by decide +kernel)
set_option maxRecDepth 20000 in
theorem gX6_fitsSights_X3_comesOut : GoodIn wsX6_fitsSights (wsV RX6 112 RX3 yX3_comesOut wsX3_comesOut) := goodIn_app (goodIn_of _ (by decide +kernel)) ggX6_fitsSights_X3_comesOut
set_option maxRecDepth 20000 in
theorem ggX6_fitsSights_X5_sightHolds : GoodIn wsX6_fitsSights wsX5_sightHolds := goodIn_r _ [13, 14, 15, 16, 17, 18, 19, 5, 20, 7, 21, 22, 23, 3, 4, 6, 8, 24, 25, 26, 37, 38, 39, 40, 41, 42, 43, 44, 45, 46, 47, 48, 49] (by decide +kernel) (by decide +kernel)
set_option maxRecDepth 20000 in
theorem gX6_fitsSights_X5_sightHolds : GoodIn wsX6_fitsSights (wsV RX6 204 RX5 yX5_sightHolds wsX5_sightHolds) := goodIn_app (goodIn_of _ (by decide +kernel)) ggX6_fitsSights_X5_sightHolds
set_option maxRecDepth 20000 in
theorem ggX6_nearestBelow_X6_market : GoodIn wsX6_nearestBelow wsX6_market := goodIn_r _ [5, 6, 7, 8, 9, 10, 11, 12, 13, 14, 15, 16, 17, 18, 19, 20, 21, 22, 23, 24, 25, 26, 27, 4, 28, 29, 30, 31, 32, 33, 34, 35, 36, 37, 38, 39, 40, 41, 42, 43, 44, 45, 46, 47, 48, 49, 50, 51, 52, 53, 54, 55, 56, 57, 58, 59, 64, 65, 66, 67, 68, 69, 70, 71, 72, 73, 74, 75, 76, 77, 78, 79, 80, 81, 82, 83, 84, 85, 86] (by decide +kernel) (by decide +kernel)
set_option maxRecDepth 20000 in
theorem gX6_nearestBelow_X6_market : GoodIn wsX6_nearestBelow (wsV RX6 108 RX6 yX6_market wsX6_market) := goodIn_app (goodIn_of _ (by decide +kernel)) ggX6_nearestBelow_X6_market
set_option maxRecDepth 20000 in
theorem ggX6_nearestBelow_X3_comesOut : GoodIn wsX6_nearestBelow wsX3_comesOut := goodIn_r _ [63, 14, 15, 74, 75, 76, 77] (by decide +kernel) (by decide +kernel)
set_option maxRecDepth 20000 in
theorem gX6_nearestBelow_X3_comesOut : GoodIn wsX6_nearestBelow (wsV RX6 112 RX3 yX3_comesOut wsX3_comesOut) := goodIn_app (goodIn_of _ (by decide +kernel)) ggX6_nearestBelow_X3_comesOut
set_option maxRecDepth 20000 in
theorem ggX6_nearestAbove_X6_market : GoodIn wsX6_nearestAbove wsX6_market := goodIn_r _ [5, 6, 7, 8, 9, 10, 11, 12, 13, 14, 15, 16, 17, 18, 19, 20, 21, 22, 23, 24, 25, 26, 27, 4, 28, 29, 30, 31, 32, 33, 34, 35, 36, 37, 38, 39, 40, 41, 42, 43, 44, 45, 46, 47, 48, 49, 50, 51, 52, 53, 54, 55, 56, 57, 58, 59, 64, 65, 66, 67, 68, 69, 70, 71, 72, 73, 74, 75, 76, 77, 78, 79, 80, 81, 82, 83, 84, 85, 86] (by decide +kernel) (by decide +kernel)
set_option maxRecDepth 20000 in
theorem gX6_nearestAbove_X6_market : GoodIn wsX6_nearestAbove (wsV RX6 108 RX6 yX6_market wsX6_market) := goodIn_app (goodIn_of _ (by decide +kernel)) ggX6_nearestAbove_X6_market
set_option maxRecDepth 20000 in
theorem ggX6_nearestAbove_X3_comesOut : GoodIn wsX6_nearestAbove wsX3_comesOut := goodIn_r _ [63, 14, 15, 74, 75, 76, 77] (by decide +kernel) (by decide +kernel)
set_option maxRecDepth 20000 in
theorem gX6_nearestAbove_X3_comesOut : GoodIn wsX6_nearestAbove (wsV RX6 112 RX3 yX3_comesOut wsX3_comesOut) := goodIn_app (goodIn_of _ (by decide +kernel)) ggX6_nearestAbove_X3_comesOut
set_option maxRecDepth 20000 in
theorem ggX6_boughtAt_X5_hasPurse : GoodIn wsX6_boughtAt wsX5_hasPurse := goodIn_r _ [7, 8, 9, 10, 11, 34, 35, 36, 37, 38, 39, 40, 41, 42] (by decide +kernel) (by decide +kernel)
set_option maxRecDepth 20000 in
theorem gX6_boughtAt_X5_hasPurse : GoodIn wsX6_boughtAt (wsV RX6 154 RX5 yX5_hasPurse wsX5_hasPurse) := goodIn_app (goodIn_of _ (by decide +kernel)) ggX6_boughtAt_X5_hasPurse
set_option maxRecDepth 20000 in
theorem ggX6_boughtAt_X3_countBeside : GoodIn wsX6_boughtAt wsX3_countBeside := goodIn_r _ [16, 17, 18, 19, 20, 21, 22, 15, 23, 43, 44, 45, 46] (by decide +kernel) (by decide +kernel)
set_option maxRecDepth 20000 in
theorem gX6_boughtAt_X3_countBeside : GoodIn wsX6_boughtAt (wsV RX6 208 RX3 yX3_countBeside wsX3_countBeside) := goodIn_app (goodIn_of _ (by decide +kernel)) ggX6_boughtAt_X3_countBeside
set_option maxRecDepth 20000 in
theorem ggX7_isThing_X7_in : GoodIn wsX7_isThing wsX7_in := goodIn_r _ [5] (by decide +kernel) (by decide +kernel)
set_option maxRecDepth 20000 in
theorem gX7_isThing_X7_in : GoodIn wsX7_isThing (va_wsS RX7 67 yX7_in wsX7_in) := goodIn_app (goodIn_of _ (by decide +kernel)) ggX7_isThing_X7_in
set_option maxRecDepth 20000 in
theorem ggX7_isSum_X7_in : GoodIn wsX7_isSum wsX7_in := goodIn_r _ [5] (by decide +kernel) (by decide +kernel)
set_option maxRecDepth 20000 in
theorem gX7_isSum_X7_in : GoodIn wsX7_isSum (va_wsS RX7 67 yX7_in wsX7_in) := goodIn_app (goodIn_of _ (by decide +kernel)) ggX7_isSum_X7_in
set_option maxRecDepth 20000 in
theorem ggX7_thing_X7_isThing : GoodIn wsX7_thing wsX7_isThing := goodIn_r _ [10, 11, 12, 13, 9, 14] (by decide +kernel) (by decide +kernel)
set_option maxRecDepth 20000 in
theorem gX7_thing_X7_isThing : GoodIn wsX7_thing (va_wsS RX7 73 yX7_isThing wsX7_isThing) := goodIn_app (goodIn_of _ (by decide +kernel)) ggX7_thing_X7_isThing
set_option maxRecDepth 20000 in
theorem ggX7_thing_X7_in : GoodIn wsX7_thing wsX7_in := goodIn_r _ [14] (by decide +kernel) (by decide +kernel)
set_option maxRecDepth 20000 in
theorem gX7_thing_X7_in : GoodIn wsX7_thing (va_wsS RX7 67 yX7_in wsX7_in) := goodIn_app (goodIn_of _ (by decide +kernel)) ggX7_thing_X7_in
set_option maxRecDepth 20000 in
theorem ggX7_say_X7_in : GoodIn wsX7_say wsX7_in := goodIn_r _ [8] (by decide +kernel) (by decide +kernel)
set_option maxRecDepth 20000 in
theorem gX7_say_X7_in : GoodIn wsX7_say (va_wsS RX7 67 yX7_in wsX7_in) := goodIn_app (goodIn_of _ (by decide +kernel)) ggX7_say_X7_in
set_option maxRecDepth 20000 in
theorem ggX7_fault_X7_clearBasket : GoodIn wsX7_fault wsX7_clearBasket := goodIn_r _ [10, 4, 18, 19, 20, 21, 22, 23, 24, 25, 26, 27, 28, 29, 30, 31, 32, 33, 34, 35, 36, 37, 38, 39] (by decide +kernel) (by decide +kernel)
set_option maxRecDepth 20000 in
theorem gX7_fault_X7_clearBasket : GoodIn wsX7_fault (wsV RX7 89 RX7 yX7_clearBasket wsX7_clearBasket) := goodIn_app (goodIn_of _ (by decide +kernel)) ggX7_fault_X7_clearBasket
set_option maxRecDepth 20000 in
theorem ggX7_fault_X7_isThing : GoodIn wsX7_fault wsX7_isThing := goodIn_r _ [13, 14, 15, 16, 9, 17] (by decide +kernel) (by decide +kernel)
set_option maxRecDepth 20000 in
theorem gX7_fault_X7_isThing : GoodIn wsX7_fault (va_wsS RX7 73 yX7_isThing wsX7_isThing) := goodIn_app (goodIn_of _ (by decide +kernel)) ggX7_fault_X7_isThing
set_option maxRecDepth 20000 in
theorem ggX7_worthOf_X7_oneWorth : GoodIn wsX7_worthOf wsX7_oneWorth := goodIn_r _ [5, 6, 7, 8, 9, 10, 11, 12, 13, 14, 15, 16, 17, 18, 19, 20, 21, 22, 23, 24, 25, 26, 27, 28, 29] (by decide +kernel) (by decide +kernel)
set_option maxRecDepth 20000 in
theorem gX7_worthOf_X7_oneWorth : GoodIn wsX7_worthOf (wsV RX7 92 RX7 yX7_oneWorth wsX7_oneWorth) := goodIn_app (goodIn_of _ (by decide +kernel)) ggX7_worthOf_X7_oneWorth
set_option maxRecDepth 20000 in
theorem ggX7_basket_X7_in : GoodIn wsX7_basket wsX7_in := goodIn_r _ [7] (by decide +kernel) (by decide +kernel)
set_option maxRecDepth 20000 in
theorem gX7_basket_X7_in : GoodIn wsX7_basket (va_wsS RX7 67 yX7_in wsX7_in) := goodIn_app (goodIn_of _ (by decide +kernel)) ggX7_basket_X7_in
set_option maxRecDepth 20000 in
theorem ggX7_basket_X7_fault : GoodIn wsX7_basket wsX7_fault := goodIn_r _ [11, 12, 13, 3, 2, 14, 15, 16, 17, 6, 18, 19, 20, 21, 22, 4, 5, 7, 33, 34, 35, 36, 37, 38, 39, 40, 41, 42, 43, 44, 45, 46, 47, 48, 49, 50, 51, 52, 53, 54] (by decide +kernel) (by decide +kernel)
set_option maxRecDepth 20000 in
theorem gX7_basket_X7_fault : GoodIn wsX7_basket (wsV RX7 98 RX7 yX7_fault wsX7_fault) := goodIn_app (goodIn_of _ (by decide +kernel)) ggX7_basket_X7_fault
set_option maxRecDepth 20000 in
theorem ggX7_basket_X7_worthOf : GoodIn wsX7_basket wsX7_worthOf := goodIn_r _ [26, 27, 28, 29, 6, 30, 31, 32, 33, 34, 35, 36, 37, 38, 39, 40, 41, 42, 43, 44, 45, 46, 47, 48, 49, 50, 51, 52, 53, 54] (by decide +kernel) (by decide +kernel)
set_option maxRecDepth 20000 in
theorem gX7_basket_X7_worthOf : GoodIn wsX7_basket (wsV RX7 102 RX7 yX7_worthOf wsX7_worthOf) := goodIn_app (goodIn_of _ (by decide +kernel)) ggX7_basket_X7_worthOf
set_option maxRecDepth 20000 in
theorem ggX7_fillRow_X7_most : GoodIn wsX7_fillRow wsX7_most := goodIn_r _ [8, 1, 9, 20, 21, 22, 23, 24, 25, 26, 27, 28, 29, 30, 31, 32, 33, 34, 35, 36, 37, 38, 39, 40, 41] (by decide +kernel) (by decide +kernel)
set_option maxRecDepth 20000 in
theorem gX7_fillRow_X7_most : GoodIn wsX7_fillRow (wsV RX7 105 RX7 yX7_most wsX7_most) := goodIn_app (goodIn_of _ (by decide +kernel)) ggX7_fillRow_X7_most
set_option maxRecDepth 20000 in
theorem ggX7_fillRow_X7_worthOf : GoodIn wsX7_fillRow wsX7_worthOf := goodIn_r _ [13, 14, 15, 16, 7, 17, 18, 19, 20, 21, 22, 23, 24, 25, 26, 27, 28, 29, 30, 31, 32, 33, 34, 35, 36, 37, 38, 39, 40, 41] (by decide +kernel) (by decide +kernel)
set_option maxRecDepth 20000 in
theorem gX7_fillRow_X7_worthOf : GoodIn wsX7_fillRow (wsV RX7 102 RX7 yX7_worthOf wsX7_worthOf) := goodIn_app (goodIn_of _ (by decide +kernel)) ggX7_fillRow_X7_worthOf
set_option maxRecDepth 20000 in
theorem ggX7_fill_X7_fillRow : GoodIn wsX7_fill wsX7_fillRow := goodIn_r _ [7, 8, 1, 2, 9, 10, 11, 6, 12, 13, 14, 15, 16, 17, 18, 19, 20, 21, 22, 23, 24, 25, 26, 27, 28, 29, 30, 31, 32, 33, 34, 35, 36, 37, 38, 39, 40, 41, 42, 43, 44, 45] (by decide +kernel) (by decide +kernel)
set_option maxRecDepth 20000 in
theorem gX7_fill_X7_fillRow : GoodIn wsX7_fill (wsV RX7 109 RX7 yX7_fillRow wsX7_fillRow) := goodIn_app (goodIn_of _ (by decide +kernel)) ggX7_fill_X7_fillRow
set_option maxRecDepth 20000 in
theorem ggX7_fillAll_X7_fill : GoodIn wsX7_fillAll wsX7_fill := goodIn_r _ [5, 6, 7, 8, 9, 10, 4, 11, 12, 13, 14, 15, 16, 17, 18, 19, 20, 21, 22, 23, 24, 25, 26, 27, 28, 29, 30, 31, 32, 33, 34, 35, 36, 37, 38, 39, 40, 41, 42, 43, 44, 45, 46, 47, 48, 49] (by decide +kernel) (by decide +kernel)
set_option maxRecDepth 20000 in
theorem gX7_fillAll_X7_fill : GoodIn wsX7_fillAll (wsV RX7 113 RX7 yX7_fill wsX7_fill) := goodIn_app (goodIn_of _ (by decide +kernel)) ggX7_fillAll_X7_fill
set_option maxRecDepth 20000 in
theorem ggX7_comesOut_X7_isSum : GoodIn wsX7_comesOut wsX7_isSum := goodIn_r _ [5, 6, 7, 8, 4, 9] (by decide +kernel) (by decide +kernel)
set_option maxRecDepth 20000 in
theorem gX7_comesOut_X7_isSum : GoodIn wsX7_comesOut (va_wsS RX7 117 yX7_isSum wsX7_isSum) := goodIn_app (goodIn_of _ (by decide +kernel)) ggX7_comesOut_X7_isSum
set_option maxRecDepth 20000 in
theorem ggX7_layBest_X7_goesOn : GoodIn wsX7_layBest wsX7_goesOn := goodIn_r _ [7, 2, 8, 9, 10, 11, 6, 12, 13, 14, 15, 16, 17, 18, 19, 20, 21, 22, 23, 24, 25, 26, 27, 28, 29, 30, 31, 32, 33, 34, 35, 36, 37, 38, 39, 40] (by decide +kernel) (by decide +kernel)
set_option maxRecDepth 20000 in
theorem gX7_layBest_X7_goesOn : GoodIn wsX7_layBest (wsV RX7 120 RX7 yX7_goesOn wsX7_goesOn) := goodIn_app (goodIn_of _ (by decide +kernel)) ggX7_layBest_X7_goesOn
set_option maxRecDepth 20000 in
theorem ggX7_goesOn_X7_worthOf : GoodIn wsX7_goesOn wsX7_worthOf := goodIn_r _ [7, 8, 9, 10, 6, 11, 12, 13, 14, 15, 16, 17, 18, 19, 20, 21, 22, 23, 24, 25, 26, 27, 28, 29, 30, 31, 32, 33, 34, 35] (by decide +kernel) (by decide +kernel)
set_option maxRecDepth 20000 in
theorem gX7_goesOn_X7_worthOf : GoodIn wsX7_goesOn (wsV RX7 102 RX7 yX7_worthOf wsX7_worthOf) := goodIn_app (goodIn_of _ (by decide +kernel)) ggX7_goesOn_X7_worthOf
set_option maxRecDepth 20000 in
theorem ggX7_ways_X7_isSum : GoodIn wsX7_ways wsX7_isSum := goodIn_r _ [5, 6, 7, 8, 4, 9] (by decide +kernel) (by decide +kernel)
set_option maxRecDepth 20000 in
theorem gX7_ways_X7_isSum : GoodIn wsX7_ways (va_wsS RX7 117 yX7_isSum wsX7_isSum) := goodIn_app (goodIn_of _ (by decide +kernel)) ggX7_ways_X7_isSum
set_option maxRecDepth 20000 in
theorem ggX7_ways_X7_fillAll : GoodIn wsX7_ways wsX7_fillAll := goodIn_r _ [13, 14, 15, 16, 4, 17, 18, 1, 19, 20, 21, 22, 23, 24, 25, 26, 27, 28, 29, 30, 31, 32, 33, 34, 35, 36, 37, 38, 39, 40, 41, 42, 43, 44, 45, 46, 47, 48, 49, 50, 51, 52, 53, 54, 55, 56, 57, 58, 59, 60] (by decide +kernel) (by decide +kernel)
set_option maxRecDepth 20000 in
theorem gX7_ways_X7_fillAll : GoodIn wsX7_ways (wsV RX7 124 RX7 yX7_fillAll wsX7_fillAll) := goodIn_app (goodIn_of _ (by decide +kernel)) ggX7_ways_X7_fillAll
set_option maxRecDepth 20000 in
theorem ggX7_best_X7_isSum : GoodIn wsX7_best wsX7_isSum := goodIn_r _ [6, 7, 8, 9, 5, 10] (by decide +kernel) (by decide +kernel)
set_option maxRecDepth 20000 in
theorem gX7_best_X7_isSum : GoodIn wsX7_best (va_wsS RX7 117 yX7_isSum wsX7_isSum) := goodIn_app (goodIn_of _ (by decide +kernel)) ggX7_best_X7_isSum
set_option maxRecDepth 20000 in
theorem ggX7_best_X7_fillAll : GoodIn wsX7_best wsX7_fillAll := goodIn_r _ [14, 15, 16, 17, 5, 18, 1, 19, 20, 21, 22, 23, 24, 25, 26, 27, 28, 29, 30, 31, 32, 33, 34, 35, 36, 37, 38, 39, 56, 57, 58, 59, 60, 61, 62, 63, 64, 65, 66, 67, 68, 69, 70, 71, 72, 73, 74, 75, 76, 77] (by decide +kernel) (by decide +kernel)
set_option maxRecDepth 20000 in
theorem gX7_best_X7_fillAll : GoodIn wsX7_best (wsV RX7 124 RX7 yX7_fillAll wsX7_fillAll) := goodIn_app (goodIn_of _ (by decide +kernel)) ggX7_best_X7_fillAll
set_option maxRecDepth 20000 in
theorem ggX7_best_X7_comesOut : GoodIn wsX7_best wsX7_comesOut := goodIn_r _ [43, 1, 3, 4, 5, 6, 7, 8, 9, 10, 56, 57, 58, 59, 60, 61, 62, 63, 64, 65, 66, 67, 68, 69, 70, 71, 72, 73, 74, 75, 76, 77] (by decide +kernel) (by decide +kernel)
set_option maxRecDepth 20000 in
theorem gX7_best_X7_comesOut : GoodIn wsX7_best (wsV RX7 127 RX7 yX7_comesOut wsX7_comesOut) := goodIn_app (goodIn_of _ (by decide +kernel)) ggX7_best_X7_comesOut
set_option maxRecDepth 20000 in
theorem ggX7_best_X7_layBest : GoodIn wsX7_best wsX7_layBest := goodIn_r _ [47, 2, 24, 48, 49, 50, 5, 51, 1, 30, 31, 32, 33, 34, 35, 36, 37, 38, 39, 56, 57, 58, 59, 60, 61, 62, 63, 64, 65, 66, 67, 68, 69, 70, 71, 72, 73, 74, 75, 76, 77] (by decide +kernel) (by decide +kernel)
set_option maxRecDepth 20000 in
theorem gX7_best_X7_layBest : GoodIn wsX7_best (wsV RX7 130 RX7 yX7_layBest wsX7_layBest) := goodIn_app (goodIn_of _ (by decide +kernel)) ggX7_best_X7_layBest
set_option maxRecDepth 20000 in
theorem ggX7_best_X7_isThing : GoodIn wsX7_best wsX7_isThing := goodIn_r _ [54, 55, 8, 9, 5, 10] (by decide +kernel) (by decide +kernel)
set_option maxRecDepth 20000 in
theorem gX7_best_X7_isThing : GoodIn wsX7_best (va_wsS RX7 73 yX7_isThing wsX7_isThing) := goodIn_app (goodIn_of _ (by decide +kernel)) ggX7_best_X7_isThing
set_option maxRecDepth 20000 in
theorem ggX7_isSpan_X7_isSum : GoodIn wsX7_isSpan wsX7_isSum := goodIn_r _ [5, 1, 6, 7, 4, 8] (by decide +kernel) (by decide +kernel)
set_option maxRecDepth 20000 in
theorem gX7_isSpan_X7_isSum : GoodIn wsX7_isSpan (va_wsS RX7 117 yX7_isSum wsX7_isSum) := goodIn_app (goodIn_of _ (by decide +kernel)) ggX7_isSpan_X7_isSum
set_option maxRecDepth 20000 in
theorem ggX7_isSpan_X7_in : GoodIn wsX7_isSpan wsX7_in := goodIn_r _ [8] (by decide +kernel) (by decide +kernel)
set_option maxRecDepth 20000 in
theorem gX7_isSpan_X7_in : GoodIn wsX7_isSpan (va_wsS RX7 67 yX7_in wsX7_in) := goodIn_app (goodIn_of _ (by decide +kernel)) ggX7_isSpan_X7_in
set_option maxRecDepth 20000 in
theorem ggX7_stuck_X7_isSpan : GoodIn wsX7_stuck wsX7_isSpan := goodIn_r _ [4, 5, 6, 7, 3, 8, 9, 10, 11] (by decide +kernel) (by decide +kernel)
set_option maxRecDepth 20000 in
theorem gX7_stuck_X7_isSpan : GoodIn wsX7_stuck (va_wsS RX7 133 yX7_isSpan wsX7_isSpan) := goodIn_app (goodIn_of _ (by decide +kernel)) ggX7_stuck_X7_isSpan
set_option maxRecDepth 20000 in
theorem ggX7_stuck_X7_fillAll : GoodIn wsX7_stuck wsX7_fillAll := goodIn_r _ [15, 16, 17, 18, 3, 19, 20, 21, 22, 23, 24, 25, 26, 27, 28, 29, 30, 31, 32, 33, 34, 35, 36, 37, 38, 39, 40, 41, 46, 47, 48, 49, 50, 51, 52, 53, 54, 55, 56, 57, 58, 59, 60, 61, 62, 63, 64, 65, 66, 67] (by decide +kernel) (by decide +kernel)
set_option maxRecDepth 20000 in
theorem gX7_stuck_X7_fillAll : GoodIn wsX7_stuck (wsV RX7 124 RX7 yX7_fillAll wsX7_fillAll) := goodIn_app (goodIn_of _ (by decide +kernel)) ggX7_stuck_X7_fillAll
set_option maxRecDepth 20000 in
theorem ggX7_stuck_X7_comesOut : GoodIn wsX7_stuck wsX7_comesOut := goodIn_r _ [45, 20, 6, 7, 3, 8, 5, 9, 10, 11, 46, 47, 48, 49, 50, 51, 52, 53, 54, 55, 56, 57, 58, 59, 60, 61, 62, 63, 64, 65, 66, 67] (by decide +kernel) (by decide +kernel)
set_option maxRecDepth 20000 in
theorem gX7_stuck_X7_comesOut : GoodIn wsX7_stuck (wsV RX7 127 RX7 yX7_comesOut wsX7_comesOut) := goodIn_app (goodIn_of _ (by decide +kernel)) ggX7_stuck_X7_comesOut
set_option maxRecDepth 20000 in
theorem ggX7_near_X7_isSum : GoodIn wsX7_near wsX7_isSum := goodIn_r _ [4, 5, 6, 7, 3, 8] (by decide +kernel) (by decide +kernel)
set_option maxRecDepth 20000 in
theorem gX7_near_X7_isSum : GoodIn wsX7_near (va_wsS RX7 117 yX7_isSum wsX7_isSum) := goodIn_app (goodIn_of _ (by decide +kernel)) ggX7_near_X7_isSum
set_option maxRecDepth 20000 in
theorem ggX7_near_X7_in : GoodIn wsX7_near wsX7_in := goodIn_r _ [8] (by decide +kernel) (by decide +kernel)
set_option maxRecDepth 20000 in
theorem gX7_near_X7_in : GoodIn wsX7_near (va_wsS RX7 67 yX7_in wsX7_in) := goodIn_app (goodIn_of _ (by decide +kernel)) ggX7_near_X7_in
set_option maxRecDepth 20000 in
theorem ggX7_near_X7_fillAll : GoodIn wsX7_near wsX7_fillAll := goodIn_r _ [12, 13, 14, 15, 3, 16, 17, 18, 19, 20, 21, 22, 23, 24, 25, 26, 27, 28, 29, 30, 31, 32, 33, 34, 35, 36, 37, 38, 43, 44, 45, 46, 47, 48, 49, 50, 51, 52, 53, 54, 55, 56, 57, 58, 59, 60, 61, 62, 63, 64] (by decide +kernel) (by decide +kernel)
set_option maxRecDepth 20000 in
theorem gX7_near_X7_fillAll : GoodIn wsX7_near (wsV RX7 124 RX7 yX7_fillAll wsX7_fillAll) := goodIn_app (goodIn_of _ (by decide +kernel)) ggX7_near_X7_fillAll
set_option maxRecDepth 20000 in
theorem ggX7_near_X7_comesOut : GoodIn wsX7_near wsX7_comesOut := goodIn_r _ [42, 17, 1, 2, 3, 4, 5, 6, 7, 8, 43, 44, 45, 46, 47, 48, 49, 50, 51, 52, 53, 54, 55, 56, 57, 58, 59, 60, 61, 62, 63, 64] (by decide +kernel) (by decide +kernel)
set_option maxRecDepth 20000 in
theorem gX7_near_X7_comesOut : GoodIn wsX7_near (wsV RX7 127 RX7 yX7_comesOut wsX7_comesOut) := goodIn_app (goodIn_of _ (by decide +kernel)) ggX7_near_X7_comesOut
set_option maxRecDepth 20000 in
theorem ggX7_endless_X7_in : GoodIn wsX7_endless wsX7_in := goodIn_r _ [6] (by decide +kernel) (by decide +kernel)
set_option maxRecDepth 20000 in
theorem gX7_endless_X7_in : GoodIn wsX7_endless (va_wsS RX7 67 yX7_in wsX7_in) := goodIn_app (goodIn_of _ (by decide +kernel)) ggX7_endless_X7_in
set_option maxRecDepth 20000 in
theorem ggX7_endless_X7_commonPart : GoodIn wsX7_endless wsX7_commonPart := goodIn_r _ [10, 2, 11, 12, 13, 14, 15, 16, 17, 18, 19, 20, 21, 22, 23, 24, 25, 26, 27, 28, 29, 30, 31, 32] (by decide +kernel) (by decide +kernel)
set_option maxRecDepth 20000 in
theorem gX7_endless_X7_commonPart : GoodIn wsX7_endless (wsV RX7 137 RX7 yX7_commonPart wsX7_commonPart) := goodIn_app (goodIn_of _ (by decide +kernel)) ggX7_endless_X7_commonPart
set_option maxRecDepth 20000 in
theorem ggX7_pins_X7_isSum : GoodIn wsX7_pins wsX7_isSum := goodIn_r _ [4, 5, 6, 7, 3, 8] (by decide +kernel) (by decide +kernel)
set_option maxRecDepth 20000 in
theorem gX7_pins_X7_isSum : GoodIn wsX7_pins (va_wsS RX7 117 yX7_isSum wsX7_isSum) := goodIn_app (goodIn_of _ (by decide +kernel)) ggX7_pins_X7_isSum
set_option maxRecDepth 20000 in
theorem ggX7_pins_X7_fillAll : GoodIn wsX7_pins wsX7_fillAll := goodIn_r _ [12, 13, 14, 15, 3, 16, 17, 18, 19, 20, 21, 22, 23, 24, 25, 26, 27, 28, 29, 30, 31, 32, 33, 34, 35, 36, 37, 38, 43, 44, 45, 46, 47, 48, 49, 50, 51, 52, 53, 54, 55, 56, 57, 58, 59, 60, 61, 62, 63, 64] (by decide +kernel) (by decide +kernel)
set_option maxRecDepth 20000 in
theorem gX7_pins_X7_fillAll : GoodIn wsX7_pins (wsV RX7 124 RX7 yX7_fillAll wsX7_fillAll) := goodIn_app (goodIn_of _ (by decide +kernel)) ggX7_pins_X7_fillAll
set_option maxRecDepth 20000 in
theorem ggX7_pins_X7_comesOut : GoodIn wsX7_pins wsX7_comesOut := goodIn_r _ [42, 17, 1, 2, 3, 4, 5, 6, 7, 8, 43, 44, 45, 46, 47, 48, 49, 50, 51, 52, 53, 54, 55, 56, 57, 58, 59, 60, 61, 62, 63, 64] (by decide +kernel) (by decide +kernel)
set_option maxRecDepth 20000 in
theorem gX7_pins_X7_comesOut : GoodIn wsX7_pins (wsV RX7 127 RX7 yX7_comesOut wsX7_comesOut) := goodIn_app (goodIn_of _ (by decide +kernel)) ggX7_pins_X7_comesOut
set_option maxRecDepth 20000 in
theorem ggX7_weeks_X7_isSum : GoodIn wsX7_weeks wsX7_isSum := goodIn_r _ [5, 1, 6, 7, 4, 8] (by decide +kernel) (by decide +kernel)
set_option maxRecDepth 20000 in
theorem gX7_weeks_X7_isSum : GoodIn wsX7_weeks (va_wsS RX7 117 yX7_isSum wsX7_isSum) := goodIn_app (goodIn_of _ (by decide +kernel)) ggX7_weeks_X7_isSum
set_option maxRecDepth 20000 in
theorem ggX7_weeks_X7_in : GoodIn wsX7_weeks wsX7_in := goodIn_r _ [8] (by decide +kernel) (by decide +kernel)
set_option maxRecDepth 20000 in
theorem gX7_weeks_X7_in : GoodIn wsX7_weeks (va_wsS RX7 67 yX7_in wsX7_in) := goodIn_app (goodIn_of _ (by decide +kernel)) ggX7_weeks_X7_in
set_option maxRecDepth 20000 in
theorem ggX7_weeks_X7_fillAll : GoodIn wsX7_weeks wsX7_fillAll := goodIn_r _ [12, 13, 14, 15, 4, 16, 17, 18, 19, 20, 21, 22, 23, 24, 25, 26, 27, 28, 29, 30, 31, 32, 33, 34, 35, 36, 37, 38, 43, 44, 45, 46, 47, 48, 49, 50, 51, 52, 53, 54, 55, 56, 57, 58, 59, 60, 61, 62, 63, 64] (by decide +kernel) (by decide +kernel)
set_option maxRecDepth 20000 in
theorem gX7_weeks_X7_fillAll : GoodIn wsX7_weeks (wsV RX7 124 RX7 yX7_fillAll wsX7_fillAll) := goodIn_app (goodIn_of _ (by decide +kernel)) ggX7_weeks_X7_fillAll
set_option maxRecDepth 20000 in
theorem ggX7_weeks_X7_comesOut : GoodIn wsX7_weeks wsX7_comesOut := goodIn_r _ [42, 17, 2, 3, 4, 5, 1, 6, 7, 8, 43, 44, 45, 46, 47, 48, 49, 50, 51, 52, 53, 54, 55, 56, 57, 58, 59, 60, 61, 62, 63, 64] (by decide +kernel) (by decide +kernel)
set_option maxRecDepth 20000 in
theorem gX7_weeks_X7_comesOut : GoodIn wsX7_weeks (wsV RX7 127 RX7 yX7_comesOut wsX7_comesOut) := goodIn_app (goodIn_of _ (by decide +kernel)) ggX7_weeks_X7_comesOut
set_option maxRecDepth 20000 in
theorem ggX7_isPurse_X7_in : GoodIn wsX7_isPurse wsX7_in := goodIn_r _ [5] (by decide +kernel) (by decide +kernel)
set_option maxRecDepth 20000 in
theorem gX7_isPurse_X7_in : GoodIn wsX7_isPurse (va_wsS RX7 67 yX7_in wsX7_in) := goodIn_app (goodIn_of _ (by decide +kernel)) ggX7_isPurse_X7_in
set_option maxRecDepth 20000 in
theorem ggX7_isThere_X7_isPurse : GoodIn wsX7_isThere wsX7_isPurse := goodIn_r _ [5, 6, 7, 8, 4, 9] (by decide +kernel) (by decide +kernel)
set_option maxRecDepth 20000 in
theorem gX7_isThere_X7_isPurse : GoodIn wsX7_isThere (va_wsS RX7 142 yX7_isPurse wsX7_isPurse) := goodIn_app (goodIn_of _ (by decide +kernel)) ggX7_isThere_X7_isPurse
set_option maxRecDepth 20000 in
theorem ggX7_purse_X7_isPurse : GoodIn wsX7_purse wsX7_isPurse := goodIn_r _ [7, 8, 9, 10, 6, 11] (by decide +kernel) (by decide +kernel)
set_option maxRecDepth 20000 in
theorem gX7_purse_X7_isPurse : GoodIn wsX7_purse (va_wsS RX7 142 yX7_isPurse wsX7_isPurse) := goodIn_app (goodIn_of _ (by decide +kernel)) ggX7_purse_X7_isPurse
set_option maxRecDepth 20000 in
theorem ggX7_purse_X7_in : GoodIn wsX7_purse wsX7_in := goodIn_r _ [11] (by decide +kernel) (by decide +kernel)
set_option maxRecDepth 20000 in
theorem gX7_purse_X7_in : GoodIn wsX7_purse (va_wsS RX7 67 yX7_in wsX7_in) := goodIn_app (goodIn_of _ (by decide +kernel)) ggX7_purse_X7_in
set_option maxRecDepth 20000 in
theorem ggX7_layGroups_X7_isThere : GoodIn wsX7_layGroups wsX7_isThere := goodIn_r _ [6, 7, 8, 9, 5, 10, 11, 12, 13, 14, 15, 16, 17, 18, 19, 20, 21, 22, 23, 24, 25, 26, 27, 28, 29, 30, 31, 32, 33, 34, 35, 36] (by decide +kernel) (by decide +kernel)
set_option maxRecDepth 20000 in
theorem gX7_layGroups_X7_isThere : GoodIn wsX7_layGroups (wsV RX7 147 RX7 yX7_isThere wsX7_isThere) := goodIn_app (goodIn_of _ (by decide +kernel)) ggX7_layGroups_X7_isThere
set_option maxRecDepth 20000 in
theorem ggX7_groupOf_X7_isThere : GoodIn wsX7_groupOf wsX7_isThere := goodIn_r _ [6, 7, 8, 9, 5, 10, 11, 12, 13, 14, 15, 16, 17, 18, 19, 20, 21, 22, 23, 24, 25, 26, 27, 28, 29, 30, 31, 32, 33, 34, 35, 36] (by decide +kernel) (by decide +kernel)
set_option maxRecDepth 20000 in
theorem gX7_groupOf_X7_isThere : GoodIn wsX7_groupOf (wsV RX7 147 RX7 yX7_isThere wsX7_isThere) := goodIn_app (goodIn_of _ (by decide +kernel)) ggX7_groupOf_X7_isThere
set_option maxRecDepth 20000 in
theorem ggX7_bestGroupOf_X7_isThere : GoodIn wsX7_bestGroupOf wsX7_isThere := goodIn_r _ [6, 7, 8, 9, 5, 10, 11, 12, 13, 14, 15, 16, 17, 18, 19, 20, 21, 22, 23, 24, 25, 26, 27, 28, 29, 30, 31, 32, 33, 34, 35, 36] (by decide +kernel) (by decide +kernel)
set_option maxRecDepth 20000 in
theorem gX7_bestGroupOf_X7_isThere : GoodIn wsX7_bestGroupOf (wsV RX7 147 RX7 yX7_isThere wsX7_isThere) := goodIn_app (goodIn_of _ (by decide +kernel)) ggX7_bestGroupOf_X7_isThere
set_option maxRecDepth 20000 in
theorem ggX7_hasOf_X7_comesOut : GoodIn wsX7_hasOf wsX7_comesOut := goodIn_r _ [7, 2, 8, 9, 6, 10, 11, 12, 13, 14, 15, 16, 17, 18, 19, 20, 21, 22, 23, 24, 25, 26, 27, 28, 29, 30, 31, 32, 33, 34, 35, 36] (by decide +kernel) (by decide +kernel)
set_option maxRecDepth 20000 in
theorem gX7_hasOf_X7_comesOut : GoodIn wsX7_hasOf (wsV RX7 127 RX7 yX7_comesOut wsX7_comesOut) := goodIn_app (goodIn_of _ (by decide +kernel)) ggX7_hasOf_X7_comesOut
set_option maxRecDepth 20000 in
theorem ggX7_hasAll_X7_isThere : GoodIn wsX7_hasAll wsX7_isThere := goodIn_r _ [6, 7, 8, 9, 5, 10, 11, 12, 13, 14, 32, 33, 34, 35, 36, 37, 38, 39, 40, 41, 42, 43, 44, 45, 46, 47, 48, 49, 50, 51, 52, 53] (by decide +kernel) (by decide +kernel)
set_option maxRecDepth 20000 in
theorem gX7_hasAll_X7_isThere : GoodIn wsX7_hasAll (wsV RX7 147 RX7 yX7_isThere wsX7_isThere) := goodIn_app (goodIn_of _ (by decide +kernel)) ggX7_hasAll_X7_isThere
set_option maxRecDepth 20000 in
theorem ggX7_hasAll_X7_groupOf : GoodIn wsX7_hasAll wsX7_groupOf := goodIn_r _ [18, 1, 2, 3, 4, 5, 6, 7, 8, 9, 10, 11, 12, 13, 14, 32, 33, 34, 35, 36, 37, 38, 39, 40, 41, 42, 43, 44, 45, 46, 47, 48, 49, 50, 51, 52, 53] (by decide +kernel) (by decide +kernel)
set_option maxRecDepth 20000 in
theorem gX7_hasAll_X7_groupOf : GoodIn wsX7_hasAll (wsV RX7 150 RX7 yX7_groupOf wsX7_groupOf) := goodIn_app (goodIn_of _ (by decide +kernel)) ggX7_hasAll_X7_groupOf
set_option maxRecDepth 20000 in
theorem ggX7_hasAll_X7_hasOf : GoodIn wsX7_hasAll wsX7_hasOf := goodIn_r _ [22, 7, 23, 24, 25, 26, 5, 27, 28, 29, 30, 31, 12, 13, 14, 32, 33, 34, 35, 36, 37, 38, 39, 40, 41, 42, 43, 44, 45, 46, 47, 48, 49, 50, 51, 52, 53] (by decide +kernel) (by decide +kernel)
set_option maxRecDepth 20000 in
theorem gX7_hasAll_X7_hasOf : GoodIn wsX7_hasAll (wsV RX7 153 RX7 yX7_hasOf wsX7_hasOf) := goodIn_app (goodIn_of _ (by decide +kernel)) ggX7_hasAll_X7_hasOf
set_option maxRecDepth 20000 in
theorem ggX7_areAhead_X7_groupOf : GoodIn wsX7_areAhead wsX7_groupOf := goodIn_r _ [5, 6, 7, 8, 9, 4, 10, 11, 12, 13, 14, 15, 16, 17, 18, 24, 25, 26, 27, 28, 29, 30, 31, 32, 33, 34, 35, 36, 37, 38, 39, 40, 41, 42, 43, 44, 45] (by decide +kernel) (by decide +kernel)
set_option maxRecDepth 20000 in
theorem gX7_areAhead_X7_groupOf : GoodIn wsX7_areAhead (wsV RX7 150 RX7 yX7_groupOf wsX7_groupOf) := goodIn_app (goodIn_of _ (by decide +kernel)) ggX7_areAhead_X7_groupOf
set_option maxRecDepth 20000 in
theorem ggX7_areAhead_X7_bestGroupOf : GoodIn wsX7_areAhead wsX7_bestGroupOf := goodIn_r _ [22, 23, 7, 8, 9, 4, 10, 11, 12, 13, 14, 15, 16, 17, 18, 24, 25, 26, 27, 28, 29, 30, 31, 32, 33, 34, 35, 36, 37, 38, 39, 40, 41, 42, 43, 44, 45] (by decide +kernel) (by decide +kernel)
set_option maxRecDepth 20000 in
theorem gX7_areAhead_X7_bestGroupOf : GoodIn wsX7_areAhead (wsV RX7 156 RX7 yX7_bestGroupOf wsX7_bestGroupOf) := goodIn_app (goodIn_of _ (by decide +kernel)) ggX7_areAhead_X7_bestGroupOf
set_option maxRecDepth 20000 in
theorem ggX7_together_X7_isThere : GoodIn wsX7_together wsX7_isThere := goodIn_r _ [7, 8, 9, 10, 6, 11, 12, 13, 14, 15, 78, 79, 80, 81, 82, 83, 84, 85, 86, 87, 88, 89, 90, 91, 92, 93, 94, 95, 96, 97, 98, 99] (by decide +kernel) (by decide +kernel)
set_option maxRecDepth 20000 in
theorem gX7_together_X7_isThere : GoodIn wsX7_together (wsV RX7 147 RX7 yX7_isThere wsX7_isThere) := goodIn_app (goodIn_of _ (by decide +kernel)) ggX7_together_X7_isThere
set_option maxRecDepth 20000 in
theorem ggX7_together_X7_fillAll : GoodIn wsX7_together wsX7_fillAll := goodIn_r _ [19, 20, 21, 22, 6, 23, 24, 25, 26, 27, 28, 29, 30, 31, 32, 33, 34, 35, 36, 37, 38, 39, 40, 41, 42, 43, 44, 45, 78, 79, 80, 81, 82, 83, 84, 85, 86, 87, 88, 89, 90, 91, 92, 93, 94, 95, 96, 97, 98, 99] (by decide +kernel) (by decide +kernel)
set_option maxRecDepth 20000 in
theorem gX7_together_X7_fillAll : GoodIn wsX7_together (wsV RX7 124 RX7 yX7_fillAll wsX7_fillAll) := goodIn_app (goodIn_of _ (by decide +kernel)) ggX7_together_X7_fillAll
set_option maxRecDepth 20000 in
theorem ggX7_together_X7_layGroups : GoodIn wsX7_together wsX7_layGroups := goodIn_r _ [49, 2, 3, 4, 5, 6, 7, 8, 9, 10, 11, 12, 13, 14, 15, 78, 79, 80, 81, 82, 83, 84, 85, 86, 87, 88, 89, 90, 91, 92, 93, 94, 95, 96, 97, 98, 99] (by decide +kernel) (by decide +kernel)
set_option maxRecDepth 20000 in
theorem gX7_together_X7_layGroups : GoodIn wsX7_together (wsV RX7 159 RX7 yX7_layGroups wsX7_layGroups) := goodIn_app (goodIn_of _ (by decide +kernel)) ggX7_together_X7_layGroups
set_option maxRecDepth 20000 in
theorem ggX7_together_X7_hasAll : GoodIn wsX7_together wsX7_hasAll := goodIn_r _ [53, 2, 3, 4, 5, 6, 7, 8, 9, 10, 11, 12, 13, 14, 15, 54, 55, 56, 57, 58, 59, 60, 61, 24, 62, 63, 64, 65, 66, 67, 68, 69, 78, 79, 80, 81, 82, 83, 84, 85, 86, 87, 88, 89, 90, 91, 92, 93, 94, 95, 96, 97, 98, 99] (by decide +kernel) (by decide +kernel)
set_option maxRecDepth 20000 in
theorem gX7_together_X7_hasAll : GoodIn wsX7_together (wsV RX7 162 RX7 yX7_hasAll wsX7_hasAll) := goodIn_app (goodIn_of _ (by decide +kernel)) ggX7_together_X7_hasAll
set_option maxRecDepth 20000 in
theorem ggX7_together_X7_areAhead : GoodIn wsX7_together wsX7_areAhead := goodIn_r _ [73, 54, 55, 56, 6, 57, 2, 3, 4, 5, 7, 8, 9, 10, 11, 12, 13, 14, 15, 74, 75, 76, 77, 1, 78, 79, 80, 81, 82, 83, 84, 85, 86, 87, 88, 89, 90, 91, 92, 93, 94, 95, 96, 97, 98, 99] (by decide +kernel) (by decide +kernel)
set_option maxRecDepth 20000 in
theorem gX7_together_X7_areAhead : GoodIn wsX7_together (wsV RX7 165 RX7 yX7_areAhead wsX7_areAhead) := goodIn_app (goodIn_of _ (by decide +kernel)) ggX7_together_X7_areAhead
set_option maxRecDepth 20000 in
theorem ggX7_pays_X7_isThere : GoodIn wsX7_pays wsX7_isThere := goodIn_r _ [6, 1, 7, 8, 5, 9, 10, 11, 12, 13, 52, 53, 54, 55, 56, 57, 58, 59, 60, 61, 62, 63, 64, 65, 66, 67, 68, 69, 70, 71, 72, 73] (by decide +kernel) (by decide +kernel)
set_option maxRecDepth 20000 in
theorem gX7_pays_X7_isThere : GoodIn wsX7_pays (wsV RX7 147 RX7 yX7_isThere wsX7_isThere) := goodIn_app (goodIn_of _ (by decide +kernel)) ggX7_pays_X7_isThere
set_option maxRecDepth 20000 in
theorem ggX7_pays_X7_fillAll : GoodIn wsX7_pays wsX7_fillAll := goodIn_r _ [17, 18, 19, 20, 5, 21, 22, 23, 24, 25, 26, 27, 28, 29, 30, 31, 32, 33, 34, 35, 36, 37, 38, 39, 40, 41, 42, 43, 52, 53, 54, 55, 56, 57, 58, 59, 60, 61, 62, 63, 64, 65, 66, 67, 68, 69, 70, 71, 72, 73] (by decide +kernel) (by decide +kernel)
set_option maxRecDepth 20000 in
theorem gX7_pays_X7_fillAll : GoodIn wsX7_pays (wsV RX7 124 RX7 yX7_fillAll wsX7_fillAll) := goodIn_app (goodIn_of _ (by decide +kernel)) ggX7_pays_X7_fillAll
set_option maxRecDepth 20000 in
theorem ggX7_pays_X7_comesOut : GoodIn wsX7_pays wsX7_comesOut := goodIn_r _ [47, 22, 48, 49, 5, 50, 51, 11, 12, 13, 52, 53, 54, 55, 56, 57, 58, 59, 60, 61, 62, 63, 64, 65, 66, 67, 68, 69, 70, 71, 72, 73] (by decide +kernel) (by decide +kernel)
set_option maxRecDepth 20000 in
theorem gX7_pays_X7_comesOut : GoodIn wsX7_pays (wsV RX7 127 RX7 yX7_comesOut wsX7_comesOut) := goodIn_app (goodIn_of _ (by decide +kernel)) ggX7_pays_X7_comesOut
set_option maxRecDepth 20000 in
theorem ggX7_wage_X7_isSpan : GoodIn wsX7_wage wsX7_isSpan := goodIn_r _ [5, 6, 7, 8, 4, 9, 10, 11, 12] (by decide +kernel) (by decide +kernel)
set_option maxRecDepth 20000 in
theorem gX7_wage_X7_isSpan : GoodIn wsX7_wage (va_wsS RX7 133 yX7_isSpan wsX7_isSpan) := goodIn_app (goodIn_of _ (by decide +kernel)) ggX7_wage_X7_isSpan
set_option maxRecDepth 20000 in
theorem ggX7_wage_X7_in : GoodIn wsX7_wage wsX7_in := goodIn_r _ [12] (by decide +kernel) (by decide +kernel)
set_option maxRecDepth 20000 in
theorem gX7_wage_X7_in : GoodIn wsX7_wage (va_wsS RX7 67 yX7_in wsX7_in) := goodIn_app (goodIn_of _ (by decide +kernel)) ggX7_wage_X7_in
set_option maxRecDepth 20000 in
theorem ggX7_wage_X7_fillAll : GoodIn wsX7_wage wsX7_fillAll := goodIn_r _ [16, 17, 18, 19, 4, 20, 1, 21, 22, 23, 24, 25, 26, 27, 28, 29, 30, 31, 32, 33, 34, 35, 36, 37, 38, 39, 40, 41, 46, 47, 48, 49, 50, 51, 52, 53, 54, 55, 56, 57, 58, 59, 60, 61, 62, 63, 64, 65, 66, 67] (by decide +kernel) (by decide +kernel)
set_option maxRecDepth 20000 in
theorem gX7_wage_X7_fillAll : GoodIn wsX7_wage (wsV RX7 124 RX7 yX7_fillAll wsX7_fillAll) := goodIn_app (goodIn_of _ (by decide +kernel)) ggX7_wage_X7_fillAll
set_option maxRecDepth 20000 in
theorem ggX7_wage_X7_comesOut : GoodIn wsX7_wage wsX7_comesOut := goodIn_r _ [45, 1, 7, 8, 4, 9, 6, 10, 11, 12, 46, 47, 48, 49, 50, 51, 52, 53, 54, 55, 56, 57, 58, 59, 60, 61, 62, 63, 64, 65, 66, 67] (by decide +kernel) (by decide +kernel)
set_option maxRecDepth 20000 in
theorem gX7_wage_X7_comesOut : GoodIn wsX7_wage (wsV RX7 127 RX7 yX7_comesOut wsX7_comesOut) := goodIn_app (goodIn_of _ (by decide +kernel)) ggX7_wage_X7_comesOut
set_option maxRecDepth 20000 in
theorem ggX7_boughtOf_X7_fillAll : GoodIn wsX7_boughtOf wsX7_fillAll := goodIn_r _ [7, 8, 9, 10, 6, 11, 12, 13, 14, 15, 16, 17, 18, 19, 20, 21, 22, 23, 24, 25, 26, 27, 28, 29, 30, 31, 32, 33, 61, 62, 63, 64, 65, 66, 67, 68, 69, 70, 71, 72, 73, 74, 75, 76, 77, 78, 79, 80, 81, 82] (by decide +kernel) (by decide +kernel)
set_option maxRecDepth 20000 in
theorem gX7_boughtOf_X7_fillAll : GoodIn wsX7_boughtOf (wsV RX7 124 RX7 yX7_fillAll wsX7_fillAll) := goodIn_app (goodIn_of _ (by decide +kernel)) ggX7_boughtOf_X7_fillAll
set_option maxRecDepth 20000 in
theorem ggX7_boughtOf_X7_isThere : GoodIn wsX7_boughtOf wsX7_isThere := goodIn_r _ [37, 1, 38, 39, 6, 40, 41, 42, 43, 44, 61, 62, 63, 64, 65, 66, 67, 68, 69, 70, 71, 72, 73, 74, 75, 76, 77, 78, 79, 80, 81, 82] (by decide +kernel) (by decide +kernel)
set_option maxRecDepth 20000 in
theorem gX7_boughtOf_X7_isThere : GoodIn wsX7_boughtOf (wsV RX7 147 RX7 yX7_isThere wsX7_isThere) := goodIn_app (goodIn_of _ (by decide +kernel)) ggX7_boughtOf_X7_isThere
set_option maxRecDepth 20000 in
theorem ggX7_boughtOf_X7_comesOut : GoodIn wsX7_boughtOf wsX7_comesOut := goodIn_r _ [48, 12, 49, 50, 6, 51, 52, 42, 43, 44, 61, 62, 63, 64, 65, 66, 67, 68, 69, 70, 71, 72, 73, 74, 75, 76, 77, 78, 79, 80, 81, 82] (by decide +kernel) (by decide +kernel)
set_option maxRecDepth 20000 in
theorem gX7_boughtOf_X7_comesOut : GoodIn wsX7_boughtOf (wsV RX7 127 RX7 yX7_comesOut wsX7_comesOut) := goodIn_app (goodIn_of _ (by decide +kernel)) ggX7_boughtOf_X7_comesOut
set_option maxRecDepth 20000 in
theorem ggX7_boughtOf_X7_layBest : GoodIn wsX7_boughtOf wsX7_layBest := goodIn_r _ [56, 2, 18, 57, 58, 59, 6, 60, 12, 24, 25, 26, 27, 28, 29, 30, 31, 32, 33, 61, 62, 63, 64, 65, 66, 67, 68, 69, 70, 71, 72, 73, 74, 75, 76, 77, 78, 79, 80, 81, 82] (by decide +kernel) (by decide +kernel)
set_option maxRecDepth 20000 in
theorem gX7_boughtOf_X7_layBest : GoodIn wsX7_boughtOf (wsV RX7 130 RX7 yX7_layBest wsX7_layBest) := goodIn_app (goodIn_of _ (by decide +kernel)) ggX7_boughtOf_X7_layBest
set_option maxRecDepth 20000 in
theorem ggX7_priced_X7_isThing : GoodIn wsX7_priced wsX7_isThing := goodIn_r _ [5, 6, 7, 8, 4, 9] (by decide +kernel) (by decide +kernel)
set_option maxRecDepth 20000 in
theorem gX7_priced_X7_isThing : GoodIn wsX7_priced (va_wsS RX7 73 yX7_isThing wsX7_isThing) := goodIn_app (goodIn_of _ (by decide +kernel)) ggX7_priced_X7_isThing
set_option maxRecDepth 20000 in
theorem ggX7_priced_X7_in : GoodIn wsX7_priced wsX7_in := goodIn_r _ [9] (by decide +kernel) (by decide +kernel)
set_option maxRecDepth 20000 in
theorem gX7_priced_X7_in : GoodIn wsX7_priced (va_wsS RX7 67 yX7_in wsX7_in) := goodIn_app (goodIn_of _ (by decide +kernel)) ggX7_priced_X7_in
set_option maxRecDepth 20000 in
theorem ggX7_priced_X7_boughtOf : GoodIn wsX7_priced wsX7_boughtOf := goodIn_r _ [13, 14, 15, 16, 17, 18, 4, 19, 20, 21, 22, 23, 24, 25, 26, 27, 28, 29, 1, 30, 31, 32, 33, 34, 35, 36, 37, 38, 39, 40, 41, 42, 43, 44, 45, 46, 47, 48, 49, 50, 51, 52, 7, 8, 9, 53, 54, 55, 56, 57, 58, 59, 60, 61, 62, 63, 64, 65, 66, 67, 68, 69, 70, 71, 72, 73, 74, 75, 76, 77, 78, 79, 80, 81, 82, 83, 84, 85, 86, 87, 88, 89, 90] (by decide +kernel) (by decide +kernel)
set_option maxRecDepth 20000 in
theorem gX7_priced_X7_boughtOf : GoodIn wsX7_priced (wsV RX7 169 RX7 yX7_boughtOf wsX7_boughtOf) := goodIn_app (goodIn_of _ (by decide +kernel)) ggX7_priced_X7_boughtOf
set_option maxRecDepth 20000 in
theorem ggX7_penny_X7_in : GoodIn wsX7_penny wsX7_in := goodIn_r _ [6] (by decide +kernel) (by decide +kernel)
set_option maxRecDepth 20000 in
theorem gX7_penny_X7_in : GoodIn wsX7_penny (va_wsS RX7 67 yX7_in wsX7_in) := goodIn_app (goodIn_of _ (by decide +kernel)) ggX7_penny_X7_in
set_option maxRecDepth 20000 in
theorem ggX7_penny_X7_fillAll : GoodIn wsX7_penny wsX7_fillAll := goodIn_r _ [10, 11, 12, 13, 5, 14, 2, 15, 16, 17, 18, 19, 20, 21, 22, 23, 24, 25, 26, 27, 28, 29, 30, 31, 32, 33, 34, 35, 43, 44, 45, 46, 47, 48, 49, 50, 51, 52, 53, 54, 55, 56, 57, 58, 59, 60, 61, 62, 63, 64] (by decide +kernel) (by decide +kernel)
set_option maxRecDepth 20000 in
theorem gX7_penny_X7_fillAll : GoodIn wsX7_penny (wsV RX7 124 RX7 yX7_fillAll wsX7_fillAll) := goodIn_app (goodIn_of _ (by decide +kernel)) ggX7_penny_X7_fillAll
set_option maxRecDepth 20000 in
theorem ggX7_penny_X7_comesOut : GoodIn wsX7_penny wsX7_comesOut := goodIn_r _ [39, 2, 40, 41, 5, 42, 1, 3, 4, 6, 43, 44, 45, 46, 47, 48, 49, 50, 51, 52, 53, 54, 55, 56, 57, 58, 59, 60, 61, 62, 63, 64] (by decide +kernel) (by decide +kernel)
set_option maxRecDepth 20000 in
theorem gX7_penny_X7_comesOut : GoodIn wsX7_penny (wsV RX7 127 RX7 yX7_comesOut wsX7_comesOut) := goodIn_app (goodIn_of _ (by decide +kernel)) ggX7_penny_X7_comesOut
set_option maxRecDepth 20000 in
theorem ggX7_seen_X7_isThing : GoodIn wsX7_seen wsX7_isThing := goodIn_r _ [9, 10, 11, 12, 8, 13] (by decide +kernel) (by decide +kernel)
set_option maxRecDepth 20000 in
theorem gX7_seen_X7_isThing : GoodIn wsX7_seen (va_wsS RX7 73 yX7_isThing wsX7_isThing) := goodIn_app (goodIn_of _ (by decide +kernel)) ggX7_seen_X7_isThing
set_option maxRecDepth 20000 in
theorem ggX7_seen_X7_in : GoodIn wsX7_seen wsX7_in := goodIn_r _ [13] (by decide +kernel) (by decide +kernel)
set_option maxRecDepth 20000 in
theorem gX7_seen_X7_in : GoodIn wsX7_seen (va_wsS RX7 67 yX7_in wsX7_in) := goodIn_app (goodIn_of _ (by decide +kernel)) ggX7_seen_X7_in
set_option maxRecDepth 20000 in
theorem ggX7_isAsSeen_X7_comesOut : GoodIn wsX7_isAsSeen wsX7_comesOut := goodIn_r _ [10, 11, 12, 13, 9, 14, 15, 16, 17, 18, 38, 39, 40, 41, 42, 43, 44, 45, 46, 47, 48, 49, 50, 51, 52, 53, 54, 55, 56, 57, 58, 59] (by decide +kernel) (by decide +kernel)
set_option maxRecDepth 20000 in
theorem gX7_isAsSeen_X7_comesOut : GoodIn wsX7_isAsSeen (wsV RX7 127 RX7 yX7_comesOut wsX7_comesOut) := goodIn_app (goodIn_of _ (by decide +kernel)) ggX7_isAsSeen_X7_comesOut
set_option maxRecDepth 20000 in
theorem ggX7_isAsSeen_X7_layBest : GoodIn wsX7_isAsSeen wsX7_layBest := goodIn_r _ [22, 2, 23, 24, 25, 26, 9, 27, 11, 28, 29, 30, 31, 32, 33, 34, 35, 36, 37, 38, 39, 40, 41, 42, 43, 44, 45, 46, 47, 48, 49, 50, 51, 52, 53, 54, 55, 56, 57, 58, 59] (by decide +kernel) (by decide +kernel)
set_option maxRecDepth 20000 in
theorem gX7_isAsSeen_X7_layBest : GoodIn wsX7_isAsSeen (wsV RX7 130 RX7 yX7_layBest wsX7_layBest) := goodIn_app (goodIn_of _ (by decide +kernel)) ggX7_isAsSeen_X7_layBest
set_option maxRecDepth 20000 in
theorem ggX7_fits_X7_isSpan : GoodIn wsX7_fits wsX7_isSpan := goodIn_r _ [4, 5, 6, 7, 3, 8, 9, 10, 11] (by decide +kernel) (by decide +kernel)
set_option maxRecDepth 20000 in
theorem gX7_fits_X7_isSpan : GoodIn wsX7_fits (va_wsS RX7 133 yX7_isSpan wsX7_isSpan) := goodIn_app (goodIn_of _ (by decide +kernel)) ggX7_fits_X7_isSpan
set_option maxRecDepth 20000 in
theorem ggX7_fits_X7_fillAll : GoodIn wsX7_fits wsX7_fillAll := goodIn_r _ [15, 16, 17, 18, 3, 19, 20, 21, 22, 23, 24, 25, 26, 27, 28, 29, 30, 31, 32, 33, 34, 35, 36, 37, 38, 39, 40, 41, 63, 64, 65, 66, 67, 68, 69, 70, 71, 72, 73, 74, 75, 76, 77, 78, 79, 80, 81, 82, 83, 84] (by decide +kernel) (by decide +kernel)
set_option maxRecDepth 20000 in
theorem gX7_fits_X7_fillAll : GoodIn wsX7_fits (wsV RX7 124 RX7 yX7_fillAll wsX7_fillAll) := goodIn_app (goodIn_of _ (by decide +kernel)) ggX7_fits_X7_fillAll
set_option maxRecDepth 20000 in
theorem ggX7_fits_X7_isAsSeen : GoodIn wsX7_fits wsX7_isAsSeen := goodIn_r _ [45, 46, 47, 48, 49, 50, 51, 52, 53, 3, 54, 20, 6, 7, 8, 5, 9, 10, 11, 55, 56, 57, 58, 26, 59, 60, 61, 62, 32, 33, 34, 35, 36, 37, 38, 39, 40, 41, 63, 64, 65, 66, 67, 68, 69, 70, 71, 72, 73, 74, 75, 76, 77, 78, 79, 80, 81, 82, 83, 84] (by decide +kernel) (by decide +kernel)
set_option maxRecDepth 20000 in
theorem gX7_fits_X7_isAsSeen : GoodIn wsX7_fits (wsV RX7 175 RX7 yX7_isAsSeen wsX7_isAsSeen) := goodIn_app (goodIn_of _ (by decide +kernel)) ggX7_fits_X7_isAsSeen
set_option maxRecDepth 20000 in
theorem ggX7_row_X7_isSum : GoodIn wsX7_row wsX7_isSum := goodIn_r _ [6, 7, 8, 9, 5, 10] (by decide +kernel) (by decide +kernel)
set_option maxRecDepth 20000 in
theorem gX7_row_X7_isSum : GoodIn wsX7_row (va_wsS RX7 117 yX7_isSum wsX7_isSum) := goodIn_app (goodIn_of _ (by decide +kernel)) ggX7_row_X7_isSum
set_option maxRecDepth 20000 in
theorem ggX7_row_X7_fill : GoodIn wsX7_row wsX7_fill := goodIn_r _ [14, 2, 15, 16, 17, 18, 5, 19, 20, 21, 22, 23, 24, 25, 26, 27, 28, 29, 30, 31, 32, 33, 34, 35, 36, 37, 38, 39, 40, 41, 42, 43, 44, 45, 46, 47, 48, 49, 50, 51, 52, 53, 54, 55, 56, 57] (by decide +kernel) (by decide +kernel)
set_option maxRecDepth 20000 in
theorem gX7_row_X7_fill : GoodIn wsX7_row (wsV RX7 113 RX7 yX7_fill wsX7_fill) := goodIn_app (goodIn_of _ (by decide +kernel)) ggX7_row_X7_fill
set_option maxRecDepth 20000 in
theorem ggX7_year_X7_in : GoodIn wsX7_year wsX7_in := goodIn_r _ [10] (by decide +kernel) (by decide +kernel)
set_option maxRecDepth 20000 in
theorem gX7_year_X7_in : GoodIn wsX7_year (va_wsS RX7 67 yX7_in wsX7_in) := goodIn_app (goodIn_of _ (by decide +kernel)) ggX7_year_X7_in
set_option maxRecDepth 20000 in
theorem ggX7_year_X7_fillAll : GoodIn wsX7_year wsX7_fillAll := goodIn_r _ [14, 15, 16, 17, 9, 18, 6, 19, 20, 21, 22, 23, 24, 25, 26, 27, 28, 29, 30, 31, 32, 33, 34, 35, 36, 37, 38, 39, 48, 49, 50, 51, 52, 53, 54, 55, 56, 57, 58, 59, 60, 61, 62, 63, 64, 65, 66, 67, 68, 69] (by decide +kernel) (by decide +kernel)
set_option maxRecDepth 20000 in
theorem gX7_year_X7_fillAll : GoodIn wsX7_year (wsV RX7 124 RX7 yX7_fillAll wsX7_fillAll) := goodIn_app (goodIn_of _ (by decide +kernel)) ggX7_year_X7_fillAll
set_option maxRecDepth 20000 in
theorem ggX7_year_X7_comesOut : GoodIn wsX7_year wsX7_comesOut := goodIn_r _ [43, 6, 44, 45, 9, 46, 47, 7, 8, 10, 48, 49, 50, 51, 52, 53, 54, 55, 56, 57, 58, 59, 60, 61, 62, 63, 64, 65, 66, 67, 68, 69] (by decide +kernel) (by decide +kernel)
set_option maxRecDepth 20000 in
theorem gX7_year_X7_comesOut : GoodIn wsX7_year (wsV RX7 127 RX7 yX7_comesOut wsX7_comesOut) := goodIn_app (goodIn_of _ (by decide +kernel)) ggX7_year_X7_comesOut
set_option maxRecDepth 20000 in
theorem ggX7_passAll_X7_pass : GoodIn wsX7_passAll wsX7_pass := goodIn_r _ [14, 15, 16, 17, 18, 19, 20, 21, 22, 23, 24, 25, 26, 27, 28, 29, 30, 31, 32, 33, 34, 35, 36, 37, 38, 39] (by decide +kernel) (by decide +kernel)
set_option maxRecDepth 20000 in
theorem gX7_passAll_X7_pass : GoodIn wsX7_passAll (wsV RX7 193 RX7 yX7_pass wsX7_pass) := goodIn_app (goodIn_of _ (by decide +kernel)) ggX7_passAll_X7_pass
set_option maxRecDepth 20000 in
theorem ggX7_image_X7_in : GoodIn wsX7_image wsX7_in := goodIn_r _ [7] (by decide +kernel) (by decide +kernel)
set_option maxRecDepth 20000 in
theorem gX7_image_X7_in : GoodIn wsX7_image (va_wsS RX7 67 yX7_in wsX7_in) := goodIn_app (goodIn_of _ (by decide +kernel)) ggX7_image_X7_in
set_option maxRecDepth 20000 in
theorem ggX7_image_X7_passAll : GoodIn wsX7_image wsX7_passAll := goodIn_r _ [11, 12, 13, 14, 15, 16, 17, 18, 19, 20, 21, 22, 23, 6, 24, 2, 25, 1, 26, 27, 28, 29, 30, 31, 32, 33, 34, 35, 36, 37, 38, 39, 40, 41, 42, 43, 44, 45, 46, 47] (by decide +kernel) (by decide +kernel)
set_option maxRecDepth 20000 in
theorem gX7_image_X7_passAll : GoodIn wsX7_image (wsV RX7 196 RX7 yX7_passAll wsX7_passAll) := goodIn_app (goodIn_of _ (by decide +kernel)) ggX7_image_X7_passAll
set_option maxRecDepth 20000 in
theorem ggX7_restore_X7_in : GoodIn wsX7_restore wsX7_in := goodIn_r _ [7] (by decide +kernel) (by decide +kernel)
set_option maxRecDepth 20000 in
theorem gX7_restore_X7_in : GoodIn wsX7_restore (va_wsS RX7 67 yX7_in wsX7_in) := goodIn_app (goodIn_of _ (by decide +kernel)) ggX7_restore_X7_in
set_option maxRecDepth 20000 in
theorem ggX7_restore_X7_passAll : GoodIn wsX7_restore wsX7_passAll := goodIn_r _ [11, 12, 13, 14, 15, 16, 17, 18, 19, 20, 21, 22, 23, 6, 24, 3, 25, 2, 26, 27, 28, 29, 30, 31, 32, 33, 34, 35, 36, 37, 38, 39, 40, 41, 42, 43, 44, 45, 46, 47] (by decide +kernel) (by decide +kernel)
set_option maxRecDepth 20000 in
theorem gX7_restore_X7_passAll : GoodIn wsX7_restore (wsV RX7 196 RX7 yX7_passAll wsX7_passAll) := goodIn_app (goodIn_of _ (by decide +kernel)) ggX7_restore_X7_passAll
set_option maxRecDepth 20000 in
theorem ggX7_told_X7_in : GoodIn wsX7_told wsX7_in := goodIn_r _ [15] (by decide +kernel) (by decide +kernel)
set_option maxRecDepth 20000 in
theorem gX7_told_X7_in : GoodIn wsX7_told (va_wsS RX7 67 yX7_in wsX7_in) := goodIn_app (goodIn_of _ (by decide +kernel)) ggX7_told_X7_in
