set_option maxRecDepth 20000 in
theorem ggX1_boardFault_X1_tileAt : GoodIn wsX1_boardFault wsX1_tileAt := goodIn_r _ [7, 2, 8, 9] (by decide +kernel) (by decide +kernel)
set_option maxRecDepth 20000 in
theorem gX1_boardFault_X1_tileAt : GoodIn wsX1_boardFault (wsV RX1 19 RX1 yX1_tileAt wsX1_tileAt) := goodIn_app (goodIn_of _ (by decide +kernel)) ggX1_boardFault_X1_tileAt
set_option maxRecDepth 20000 in
theorem ggX2_begin_J7_fill_53178 : GoodIn wsX2_begin wsJ7_fill_53178 := goodIn_r _ [7] (by decide +kernel) (by decide +kernel)
set_option maxRecDepth 20000 in
theorem gX2_begin_J7_fill_53178 : GoodIn wsX2_begin (va_wsS RX2 25 yJ7_fill_53178 wsJ7_fill_53178) := goodIn_app (goodIn_of _ (by decide +kernel)) ggX2_begin_J7_fill_53178
set_option maxRecDepth 20000 in
theorem ggX2_lackAt_X7_lackOf : GoodIn wsX2_lackAt wsX7_lackOf := goodIn_r _ [4] (by decide +kernel) (by decide +kernel)
set_option maxRecDepth 20000 in
theorem gX2_lackAt_X7_lackOf_n31 : GoodIn wsX2_lackAt (wsX7_lackOf) := ggX2_lackAt_X7_lackOf
set_option maxRecDepth 20000 in
theorem ggX3_begin_J7_fill_53178 : GoodIn wsX3_begin wsJ7_fill_53178 := goodIn_r _ [6] (by decide +kernel) (by decide +kernel)
set_option maxRecDepth 20000 in
theorem gX3_begin_J7_fill_53178 : GoodIn wsX3_begin (va_wsS RX3 19 yJ7_fill_53178 wsJ7_fill_53178) := goodIn_app (goodIn_of _ (by decide +kernel)) ggX3_begin_J7_fill_53178
set_option maxRecDepth 20000 in
theorem ggX3_lackAt_X7_lackOf : GoodIn wsX3_lackAt wsX7_lackOf := goodIn_r _ [4] (by decide +kernel) (by decide +kernel)
set_option maxRecDepth 20000 in
theorem gX3_lackAt_X7_lackOf_n25 : GoodIn wsX3_lackAt (wsX7_lackOf) := ggX3_lackAt_X7_lackOf
set_option maxRecDepth 20000 in
theorem ggX4_floodAll_X4_floodTo : GoodIn wsX4_floodAll wsX4_floodTo := goodIn_r _ [5, 6, 7, 8, 9, 10, 11, 12, 13, 14, 15, 16, 4, 17, 18, 19, 20, 21, 22, 23, 24, 25, 26, 27, 28, 29, 30, 31, 32, 33, 34, 35, 36, 37, 38, 39, 40, 41, 42, 43, 44, 45, 46, 47, 48, 49, 50, 51, 52, 53, 54, 55, 56, 57, 58, 59, 60, 61, 62, 63, 64, 65, 66, 67, 68, 69, 70, 71, 72, 73, 74, 75, 76, 77, 78, 79, 80, 81, 82, 83, 84, 85, 86, 87, 88, 89, 90, 91, 92, 93, 94, 95, 96, 97, 98, 99, 100, 101, 102, 103, 104, 105, 106, 107, 108] (by decide +kernel) (by decide +kernel)
set_option maxRecDepth 20000 in
theorem gX4_floodAll_X4_floodTo : GoodIn wsX4_floodAll (wsV RX4 37 RX4 yX4_floodTo wsX4_floodTo) := goodIn_app (goodIn_of _ (by decide +kernel)) ggX4_floodAll_X4_floodTo
set_option maxRecDepth 20000 in
theorem ggX4_floodTo_J7_fill_53178 : GoodIn wsX4_floodTo wsJ7_fill_53178 := goodIn_r _ [8] (by decide +kernel) (by decide +kernel)
set_option maxRecDepth 20000 in
theorem gX4_floodTo_J7_fill_53178 : GoodIn wsX4_floodTo (va_wsS RX4 41 yJ7_fill_53178 wsJ7_fill_53178) := goodIn_app (goodIn_of _ (by decide +kernel)) ggX4_floodTo_J7_fill_53178
set_option maxRecDepth 20000 in
theorem ggX4_floodTo_X4_add : GoodIn wsX4_floodTo wsX4_add := goodIn_r _ [13, 1, 14, 15, 4, 2, 82, 83, 84, 85, 86, 87, 88, 89] (by decide +kernel) (by decide +kernel)
set_option maxRecDepth 20000 in
theorem gX4_floodTo_X4_add : GoodIn wsX4_floodTo (wsV RX4 52 RX4 yX4_add wsX4_add) := goodIn_app (goodIn_of _ (by decide +kernel)) ggX4_floodTo_X4_add
set_option maxRecDepth 20000 in
theorem ggX4_floodTo_X6_isAt : GoodIn wsX4_floodTo wsX6_isAt := goodIn_r _ [20, 21, 22, 23, 19, 24, 25, 26, 27, 28, 29, 30, 31, 32, 33, 34, 35, 36, 37, 38, 39, 40, 41, 42, 43, 44, 45, 46, 47, 48, 49, 90, 91, 92, 93, 94, 95, 96, 97, 98, 99, 100, 101, 102, 103, 104] (by decide +kernel) (by decide +kernel)
set_option maxRecDepth 20000 in
theorem gX4_floodTo_X6_isAt : GoodIn wsX4_floodTo (wsV RX4 56 RX6 yX6_isAt wsX6_isAt) := goodIn_app (goodIn_of _ (by decide +kernel)) ggX4_floodTo_X6_isAt
set_option maxRecDepth 20000 in
theorem ggX4_floodTo_X6_rolled : GoodIn wsX4_floodTo wsX6_rolled := goodIn_r _ [53, 25, 26, 54, 42, 28, 43, 55, 56, 57, 19, 58, 59, 60, 41, 61, 62, 63, 64, 65, 66, 67, 68, 69, 70, 71, 33, 72, 73, 21, 22, 23, 24, 27, 29, 30, 31, 32, 34, 35, 36, 74, 75, 76, 77, 78, 79, 80, 81, 90, 91, 92, 93, 94, 95, 96, 97, 98, 99, 100, 101, 102, 103, 104] (by decide +kernel) (by decide +kernel)
set_option maxRecDepth 20000 in
theorem gX4_floodTo_X6_rolled : GoodIn wsX4_floodTo (wsV RX4 60 RX6 yX6_rolled wsX6_rolled) := goodIn_app (goodIn_of _ (by decide +kernel)) ggX4_floodTo_X6_rolled
set_option maxRecDepth 20000 in
theorem ggX4_countPlaces_J7_fill_53178 : GoodIn wsX4_countPlaces wsJ7_fill_53178 := goodIn_r _ [7] (by decide +kernel) (by decide +kernel)
set_option maxRecDepth 20000 in
theorem gX4_countPlaces_J7_fill_53178 : GoodIn wsX4_countPlaces (va_wsS RX4 41 yJ7_fill_53178 wsJ7_fill_53178) := goodIn_app (goodIn_of _ (by decide +kernel)) ggX4_countPlaces_J7_fill_53178
set_option maxRecDepth 20000 in
theorem ggX4_facesAt_X6_faceBelow : GoodIn wsX4_facesAt wsX6_faceBelow := goodIn_r _ [7, 8, 9, 10, 11, 12, 13, 14, 15, 16, 17, 18, 19, 20, 21, 30, 31, 32, 33, 34, 35, 36, 37, 38, 39, 40, 41, 42, 43, 44] (by decide +kernel) (by decide +kernel)
set_option maxRecDepth 20000 in
theorem gX4_facesAt_X6_faceBelow : GoodIn wsX4_facesAt (wsV RX4 64 RX6 yX6_faceBelow wsX6_faceBelow) := goodIn_app (goodIn_of _ (by decide +kernel)) ggX4_facesAt_X6_faceBelow
set_option maxRecDepth 20000 in
theorem ggX4_hasEven_J7_fill_53178 : GoodIn wsX4_hasEven wsJ7_fill_53178 := goodIn_r _ [8] (by decide +kernel) (by decide +kernel)
set_option maxRecDepth 20000 in
theorem gX4_hasEven_J7_fill_53178 : GoodIn wsX4_hasEven (va_wsS RX4 41 yJ7_fill_53178 wsJ7_fill_53178) := goodIn_app (goodIn_of _ (by decide +kernel)) ggX4_hasEven_J7_fill_53178
set_option maxRecDepth 20000 in
theorem ggX4_hasEven_X6_rolled : GoodIn wsX4_hasEven wsX6_rolled := goodIn_r _ [13, 14, 15, 16, 17, 18, 19, 20, 21, 22, 12, 23, 24, 25, 26, 27, 28, 29, 30, 31, 32, 33, 34, 35, 36, 37, 38, 39, 40, 41, 42, 43, 44, 45, 46, 47, 48, 49, 50, 51, 52, 53, 54, 55, 56, 57, 58, 59, 60, 69, 70, 71, 72, 73, 74, 75, 76, 77, 78, 79, 80, 81, 82, 83] (by decide +kernel) (by decide +kernel)
set_option maxRecDepth 20000 in
theorem gX4_hasEven_X6_rolled : GoodIn wsX4_hasEven (wsV RX4 60 RX6 yX6_rolled wsX6_rolled) := goodIn_app (goodIn_of _ (by decide +kernel)) ggX4_hasEven_X6_rolled
set_option maxRecDepth 20000 in
theorem ggX4_bestFilled_X4_floodAll : GoodIn wsX4_bestFilled wsX4_floodAll := goodIn_r _ [7, 8, 9, 10, 6, 11, 12, 1, 13, 14, 15, 16, 17, 18, 19, 20, 21, 22, 23, 24, 25, 26, 27, 28, 29, 30, 31, 32, 33, 34, 35, 36, 37, 38, 39, 40, 41, 42, 43, 44, 45, 46, 47, 48, 49, 50, 51, 52, 53, 54, 55, 56, 57, 58, 59, 60, 61, 62, 63, 64, 65, 66, 67, 68, 69, 70, 71, 72, 73, 74, 75, 76, 77, 78, 79, 80, 81, 82, 83, 84, 85, 86, 87, 88, 89, 90, 99, 100, 101, 102, 103, 104, 105, 106, 107, 108, 109, 110, 111, 112, 113, 114, 115, 116, 117, 118, 119, 120, 121] (by decide +kernel) (by decide +kernel)
set_option maxRecDepth 20000 in
theorem gX4_bestFilled_X4_floodAll : GoodIn wsX4_bestFilled (wsV RX4 68 RX4 yX4_floodAll wsX4_floodAll) := goodIn_app (goodIn_of _ (by decide +kernel)) ggX4_bestFilled_X4_floodAll
set_option maxRecDepth 20000 in
theorem ggX4_bestFilled_X6_tileCount : GoodIn wsX4_bestFilled wsX6_tileCount := goodIn_r _ [94, 68, 63, 107, 108, 109, 110, 111, 112, 113, 114, 115] (by decide +kernel) (by decide +kernel)
set_option maxRecDepth 20000 in
theorem gX4_bestFilled_X6_tileCount : GoodIn wsX4_bestFilled (wsV RX4 72 RX6 yX6_tileCount wsX6_tileCount) := goodIn_app (goodIn_of _ (by decide +kernel)) ggX4_bestFilled_X6_tileCount
set_option maxRecDepth 20000 in
theorem ggX4_bestFilled_X4_statesFilled : GoodIn wsX4_bestFilled wsX4_statesFilled := goodIn_r _ [98, 2, 1, 8, 9, 10, 6, 11, 12, 13, 14, 15, 16, 17, 18, 19, 20, 21, 22, 23, 24, 25, 26, 27, 28, 29, 30, 31, 32, 33, 34, 35, 36, 37, 38, 39, 40, 41, 42, 43, 44, 45, 46, 47, 48, 49, 50, 51, 52, 53, 54, 55, 56, 57, 58, 59, 60, 61, 62, 63, 64, 65, 66, 67, 68, 69, 70, 71, 72, 73, 74, 75, 76, 77, 78, 79, 80, 81, 82, 83, 84, 85, 86, 87, 88, 89, 90, 107, 108, 109, 110, 111, 112, 113, 114, 115, 99, 100, 101, 102, 103, 104, 105, 106, 116, 117, 118, 119, 120, 121] (by decide +kernel) (by decide +kernel)
set_option maxRecDepth 20000 in
theorem gX4_bestFilled_X4_statesFilled : GoodIn wsX4_bestFilled (wsV RX4 79 RX4 yX4_statesFilled wsX4_statesFilled) := goodIn_app (goodIn_of _ (by decide +kernel)) ggX4_bestFilled_X4_statesFilled
set_option maxRecDepth 20000 in
theorem ggX4_statesFilled_X4_floodTo : GoodIn wsX4_statesFilled wsX4_floodTo := goodIn_r _ [7, 8, 2, 9, 10, 11, 12, 13, 14, 15, 16, 17, 6, 18, 19, 20, 21, 22, 23, 24, 25, 26, 27, 28, 29, 30, 31, 32, 33, 34, 35, 36, 37, 38, 39, 40, 41, 42, 43, 44, 45, 46, 47, 48, 49, 50, 51, 52, 53, 54, 55, 56, 57, 58, 59, 60, 61, 62, 63, 64, 65, 66, 67, 68, 69, 70, 71, 72, 73, 74, 75, 76, 77, 78, 79, 80, 81, 82, 83, 84, 85, 86, 96, 97, 98, 99, 100, 101, 102, 103, 87, 88, 89, 90, 91, 92, 93, 94, 95, 104, 105, 106, 107, 108, 109] (by decide +kernel) (by decide +kernel)
set_option maxRecDepth 20000 in
theorem gX4_statesFilled_X4_floodTo : GoodIn wsX4_statesFilled (wsV RX4 37 RX4 yX4_floodTo wsX4_floodTo) := goodIn_app (goodIn_of _ (by decide +kernel)) ggX4_statesFilled_X4_floodTo
set_option maxRecDepth 20000 in
theorem ggX4_tilesNeeded_X4_floodTo : GoodIn wsX4_tilesNeeded wsX4_floodTo := goodIn_r _ [8, 1, 9, 2, 10, 11, 12, 13, 14, 15, 16, 17, 7, 18, 19, 20, 21, 22, 23, 24, 25, 26, 27, 28, 29, 30, 31, 32, 33, 34, 35, 36, 37, 38, 39, 40, 41, 42, 43, 44, 45, 46, 47, 48, 49, 50, 51, 52, 53, 54, 55, 56, 57, 58, 59, 60, 61, 62, 63, 64, 65, 66, 67, 68, 69, 70, 71, 72, 73, 74, 75, 76, 77, 78, 79, 80, 81, 82, 83, 84, 85, 86, 105, 106, 107, 108, 109, 110, 111, 112, 113, 114, 115, 116, 117, 118, 119, 120, 121, 122, 123, 124, 125, 126, 127] (by decide +kernel) (by decide +kernel)
set_option maxRecDepth 20000 in
theorem gX4_tilesNeeded_X4_floodTo : GoodIn wsX4_tilesNeeded (wsV RX4 37 RX4 yX4_floodTo wsX4_floodTo) := goodIn_app (goodIn_of _ (by decide +kernel)) ggX4_tilesNeeded_X4_floodTo
set_option maxRecDepth 20000 in
theorem ggX4_tilesNeeded_X4_tilesToward : GoodIn wsX4_tilesNeeded wsX4_tilesToward := goodIn_r _ [90, 1, 19, 91, 92, 93, 24, 94, 30, 95, 59, 47, 33, 48, 26, 27, 28, 29, 31, 32, 34, 35, 36, 37, 38, 39, 40, 41, 105, 106, 107, 108, 109, 110, 111, 112, 113, 114, 115, 116, 117, 118, 119, 120, 121, 122, 123, 124, 125, 126, 127] (by decide +kernel) (by decide +kernel)
set_option maxRecDepth 20000 in
theorem gX4_tilesNeeded_X4_tilesToward : GoodIn wsX4_tilesNeeded (wsV RX4 83 RX4 yX4_tilesToward wsX4_tilesToward) := goodIn_app (goodIn_of _ (by decide +kernel)) ggX4_tilesNeeded_X4_tilesToward
set_option maxRecDepth 20000 in
theorem ggX4_tilesNeeded_X6_tilesUnder : GoodIn wsX4_tilesNeeded wsX6_tilesUnder := goodIn_r _ [94, 30, 95, 59, 47, 33, 48, 26, 27, 28, 24, 29, 31, 32, 34, 35, 36, 37, 38, 39, 40, 41, 113, 114, 115, 116, 117, 118, 119, 120, 121, 122, 123, 124, 125, 126, 127] (by decide +kernel) (by decide +kernel)
set_option maxRecDepth 20000 in
theorem gX4_tilesNeeded_X6_tilesUnder : GoodIn wsX4_tilesNeeded (wsV RX4 87 RX6 yX6_tilesUnder wsX6_tilesUnder) := goodIn_app (goodIn_of _ (by decide +kernel)) ggX4_tilesNeeded_X6_tilesUnder
set_option maxRecDepth 20000 in
theorem ggX4_tilesNeeded_X6_tileCount : GoodIn wsX4_tilesNeeded wsX6_tileCount := goodIn_r _ [99, 64, 59, 113, 114, 115, 116, 117, 118, 119, 120, 121] (by decide +kernel) (by decide +kernel)
set_option maxRecDepth 20000 in
theorem gX4_tilesNeeded_X6_tileCount : GoodIn wsX4_tilesNeeded (wsV RX4 72 RX6 yX6_tileCount wsX6_tileCount) := goodIn_app (goodIn_of _ (by decide +kernel)) ggX4_tilesNeeded_X6_tileCount
set_option maxRecDepth 20000 in
theorem ggX4_tilesNeeded_X4_isLaterWithout : GoodIn wsX4_tilesNeeded wsX4_isLaterWithout := goodIn_r _ [103, 104, 1, 4, 5, 6, 7, 8, 9, 2, 10, 11, 12, 13, 14, 15, 16, 17, 18, 19, 20, 21, 22, 23, 24, 25, 26, 27, 28, 29, 30, 31, 32, 33, 34, 35, 36, 37, 38, 39, 40, 41, 42, 43, 44, 45, 46, 47, 48, 49, 50, 51, 52, 53, 54, 55, 56, 57, 58, 59, 60, 61, 62, 63, 64, 65, 66, 67, 68, 69, 70, 71, 72, 73, 74, 75, 76, 77, 78, 79, 80, 81, 82, 83, 84, 85, 86, 113, 114, 115, 116, 117, 118, 119, 120, 121, 105, 106, 107, 108, 109, 110, 111, 112, 122, 123, 124, 125, 126, 127] (by decide +kernel) (by decide +kernel)
set_option maxRecDepth 20000 in
theorem gX4_tilesNeeded_X4_isLaterWithout : GoodIn wsX4_tilesNeeded (wsV RX4 93 RX4 yX4_isLaterWithout wsX4_isLaterWithout) := goodIn_app (goodIn_of _ (by decide +kernel)) ggX4_tilesNeeded_X4_isLaterWithout
set_option maxRecDepth 20000 in
theorem ggX4_tilesToward_X6_tilesUnder : GoodIn wsX4_tilesToward wsX6_tilesUnder := goodIn_r _ [7, 8, 9, 10, 11, 12, 13, 14, 15, 16, 6, 17, 18, 19, 20, 21, 22, 23, 24, 25, 26, 27, 36, 37, 38, 39, 40, 41, 42, 43, 44, 45, 46, 47, 48, 49, 50] (by decide +kernel) (by decide +kernel)
set_option maxRecDepth 20000 in
theorem gX4_tilesToward_X6_tilesUnder : GoodIn wsX4_tilesToward (wsV RX4 87 RX6 yX6_tilesUnder wsX6_tilesUnder) := goodIn_app (goodIn_of _ (by decide +kernel)) ggX4_tilesToward_X6_tilesUnder
set_option maxRecDepth 20000 in
theorem ggX4_isLaterWithout_X4_floodTo : GoodIn wsX4_isLaterWithout wsX4_floodTo := goodIn_r _ [7, 2, 8, 9, 10, 11, 12, 13, 14, 15, 16, 17, 6, 18, 19, 20, 21, 22, 23, 24, 25, 26, 27, 28, 29, 30, 31, 32, 33, 34, 35, 36, 37, 38, 39, 40, 41, 42, 43, 44, 45, 46, 47, 48, 49, 50, 51, 52, 53, 54, 55, 56, 57, 58, 59, 60, 61, 62, 63, 64, 65, 66, 67, 68, 69, 70, 71, 72, 73, 74, 75, 76, 77, 78, 79, 80, 81, 82, 83, 84, 85, 86, 96, 97, 98, 99, 100, 101, 102, 103, 87, 88, 89, 90, 91, 92, 93, 94, 95, 104, 105, 106, 107, 108, 109] (by decide +kernel) (by decide +kernel)
set_option maxRecDepth 20000 in
theorem gX4_isLaterWithout_X4_floodTo : GoodIn wsX4_isLaterWithout (wsV RX4 37 RX4 yX4_floodTo wsX4_floodTo) := goodIn_app (goodIn_of _ (by decide +kernel)) ggX4_isLaterWithout_X4_floodTo
set_option maxRecDepth 20000 in
theorem ggX4_rollsToPaint_X4_floodAll : GoodIn wsX4_rollsToPaint wsX4_floodAll := goodIn_r _ [8, 9, 10, 11, 7, 12, 3, 1, 13, 2, 14, 15, 16, 17, 18, 19, 20, 21, 22, 23, 24, 25, 26, 27, 28, 29, 30, 31, 32, 33, 34, 35, 36, 37, 38, 39, 40, 41, 42, 43, 44, 45, 46, 47, 48, 49, 50, 51, 52, 53, 54, 55, 56, 57, 58, 59, 60, 61, 62, 63, 64, 65, 66, 67, 68, 69, 70, 71, 72, 73, 74, 75, 76, 77, 78, 79, 80, 81, 82, 83, 84, 85, 86, 87, 88, 89, 96, 97, 98, 99, 100, 101, 102, 103, 104, 105, 106, 107, 108, 109, 110, 111, 112, 113, 114, 115, 116, 117, 118] (by decide +kernel) (by decide +kernel)
set_option maxRecDepth 20000 in
theorem gX4_rollsToPaint_X4_floodAll : GoodIn wsX4_rollsToPaint (wsV RX4 68 RX4 yX4_floodAll wsX4_floodAll) := goodIn_app (goodIn_of _ (by decide +kernel)) ggX4_rollsToPaint_X4_floodAll
set_option maxRecDepth 20000 in
theorem ggX4_rollsToPaint_X6_rolled : GoodIn wsX4_rollsToPaint wsX6_rolled := goodIn_r _ [61, 33, 34, 62, 50, 36, 51, 63, 64, 65, 27, 66, 67, 68, 49, 69, 70, 71, 72, 73, 74, 75, 76, 77, 78, 79, 41, 80, 81, 29, 30, 31, 32, 35, 37, 38, 39, 40, 42, 43, 44, 82, 83, 84, 85, 86, 87, 88, 89, 104, 105, 106, 107, 108, 109, 110, 111, 112, 113, 114, 115, 116, 117, 118] (by decide +kernel) (by decide +kernel)
set_option maxRecDepth 20000 in
theorem gX4_rollsToPaint_X6_rolled : GoodIn wsX4_rollsToPaint (wsV RX4 60 RX6 yX6_rolled wsX6_rolled) := goodIn_app (goodIn_of _ (by decide +kernel)) ggX4_rollsToPaint_X6_rolled
set_option maxRecDepth 20000 in
theorem ggX4_rollsToPaint_X6_faceBelow : GoodIn wsX4_rollsToPaint wsX6_faceBelow := goodIn_r _ [48, 33, 49, 34, 50, 36, 51, 52, 53, 54, 41, 55, 56, 44, 57, 104, 105, 106, 107, 108, 109, 110, 111, 112, 113, 114, 115, 116, 117, 118] (by decide +kernel) (by decide +kernel)
set_option maxRecDepth 20000 in
theorem gX4_rollsToPaint_X6_faceBelow : GoodIn wsX4_rollsToPaint (wsV RX4 64 RX6 yX6_faceBelow wsX6_faceBelow) := goodIn_app (goodIn_of _ (by decide +kernel)) ggX4_rollsToPaint_X6_faceBelow
set_option maxRecDepth 20000 in
theorem ggX4_rollsToPaint_X6_tilesUnder : GoodIn wsX4_rollsToPaint wsX6_tilesUnder := goodIn_r _ [94, 33, 95, 62, 50, 36, 51, 29, 30, 31, 27, 32, 34, 35, 37, 38, 39, 40, 41, 42, 43, 44, 104, 105, 106, 107, 108, 109, 110, 111, 112, 113, 114, 115, 116, 117, 118] (by decide +kernel) (by decide +kernel)
set_option maxRecDepth 20000 in
theorem gX4_rollsToPaint_X6_tilesUnder : GoodIn wsX4_rollsToPaint (wsV RX4 87 RX6 yX6_tilesUnder wsX6_tilesUnder) := goodIn_app (goodIn_of _ (by decide +kernel)) ggX4_rollsToPaint_X6_tilesUnder
set_option maxRecDepth 20000 in
theorem ggX4_walksEndingAt_J7_fill_53178 : GoodIn wsX4_walksEndingAt wsJ7_fill_53178 := goodIn_r _ [6] (by decide +kernel) (by decide +kernel)
set_option maxRecDepth 20000 in
theorem gX4_walksEndingAt_J7_fill_53178 : GoodIn wsX4_walksEndingAt (va_wsS RX4 41 yJ7_fill_53178 wsJ7_fill_53178) := goodIn_app (goodIn_of _ (by decide +kernel)) ggX4_walksEndingAt_J7_fill_53178
set_option maxRecDepth 20000 in
theorem ggX4_walksEndingAt_X4_spread : GoodIn wsX4_walksEndingAt wsX4_spread := goodIn_r _ [11, 12, 1, 13, 14, 15, 16, 3, 4, 5, 6, 17, 18, 19, 20, 21, 22, 23, 24, 25, 26, 27, 28, 29, 30, 31, 32, 33, 34, 35, 36, 37, 38, 39, 40, 41, 42, 43, 44, 45, 46, 47, 48, 49, 50, 51, 52, 53, 54, 55, 56, 57, 58, 59, 60, 61, 62, 63, 64, 65, 66, 67, 68, 69, 70, 71, 72, 73, 74, 75, 76, 77, 78, 79, 80, 81, 82, 83, 84, 85, 86, 87, 88, 89, 90, 91] (by decide +kernel) (by decide +kernel)
set_option maxRecDepth 20000 in
theorem gX4_walksEndingAt_X4_spread : GoodIn wsX4_walksEndingAt (wsV RX4 97 RX4 yX4_spread wsX4_spread) := goodIn_app (goodIn_of _ (by decide +kernel)) ggX4_walksEndingAt_X4_spread
set_option maxRecDepth 20000 in
theorem ggX4_spread_J7_fill_53178 : GoodIn wsX4_spread wsJ7_fill_53178 := goodIn_r _ [10] (by decide +kernel) (by decide +kernel)
set_option maxRecDepth 20000 in
theorem gX4_spread_J7_fill_53178 : GoodIn wsX4_spread (va_wsS RX4 41 yJ7_fill_53178 wsJ7_fill_53178) := goodIn_app (goodIn_of _ (by decide +kernel)) ggX4_spread_J7_fill_53178
set_option maxRecDepth 20000 in
theorem ggX4_spread_X6_rolled : GoodIn wsX4_spread wsX6_rolled := goodIn_r _ [15, 16, 17, 18, 19, 20, 21, 22, 23, 24, 14, 25, 26, 27, 28, 29, 30, 31, 32, 33, 34, 35, 36, 37, 38, 39, 40, 41, 42, 43, 44, 45, 46, 47, 48, 49, 50, 51, 52, 53, 54, 55, 56, 57, 58, 59, 60, 61, 62, 71, 72, 73, 74, 75, 76, 77, 78, 79, 80, 81, 82, 83, 84, 85] (by decide +kernel) (by decide +kernel)
set_option maxRecDepth 20000 in
theorem gX4_spread_X6_rolled : GoodIn wsX4_spread (wsV RX4 60 RX6 yX6_rolled wsX6_rolled) := goodIn_app (goodIn_of _ (by decide +kernel)) ggX4_spread_X6_rolled
set_option maxRecDepth 20000 in
theorem ggX5_init_X5_findTurned : GoodIn wsX5_init wsX5_findTurned := goodIn_r _ [15, 4, 6, 7, 10, 16, 17, 18, 19, 20, 21, 22, 14, 23, 28, 29, 30, 31, 32, 33] (by decide +kernel) (by decide +kernel)
set_option maxRecDepth 20000 in
theorem gX5_init_X5_findTurned : GoodIn wsX5_init (wsV RX5 31 RX5 yX5_findTurned wsX5_findTurned) := goodIn_app (goodIn_of _ (by decide +kernel)) ggX5_init_X5_findTurned
set_option maxRecDepth 20000 in
theorem ggX5_init_X5_tellPositions : GoodIn wsX5_init wsX5_tellPositions := goodIn_r _ [27, 4, 8, 7, 28, 29, 30, 31, 32, 33] (by decide +kernel) (by decide +kernel)
set_option maxRecDepth 20000 in
theorem gX5_init_X5_tellPositions : GoodIn wsX5_init (wsV RX5 35 RX5 yX5_tellPositions wsX5_tellPositions) := goodIn_app (goodIn_of _ (by decide +kernel)) ggX5_init_X5_tellPositions
set_option maxRecDepth 20000 in
theorem ggX5_findTurned_X5_isStance : GoodIn wsX5_findTurned wsX5_isStance := goodIn_r _ [13, 1, 3, 14, 15, 16, 17, 18, 19] (by decide +kernel) (by decide +kernel)
set_option maxRecDepth 20000 in
theorem gX5_findTurned_X5_isStance : GoodIn wsX5_findTurned (wsV RX5 38 RX5 yX5_isStance wsX5_isStance) := goodIn_app (goodIn_of _ (by decide +kernel)) ggX5_findTurned_X5_isStance
set_option maxRecDepth 20000 in
theorem ggX6_init_J7_fill_53178 : GoodIn wsX6_init wsJ7_fill_53178 := goodIn_r _ [17] (by decide +kernel) (by decide +kernel)
set_option maxRecDepth 20000 in
theorem gX6_init_J7_fill_53178 : GoodIn wsX6_init (va_wsS RX6 25 yJ7_fill_53178 wsJ7_fill_53178) := goodIn_app (goodIn_of _ (by decide +kernel)) ggX6_init_J7_fill_53178
set_option maxRecDepth 20000 in
theorem ggX6_readBoard_X1_tileAt : GoodIn wsX6_readBoard wsX1_tileAt := goodIn_r _ [11, 12, 47, 48] (by decide +kernel) (by decide +kernel)
set_option maxRecDepth 20000 in
theorem gX6_readBoard_X1_tileAt : GoodIn wsX6_readBoard (wsV RX6 58 RX1 yX1_tileAt wsX1_tileAt) := goodIn_app (goodIn_of _ (by decide +kernel)) ggX6_readBoard_X1_tileAt
set_option maxRecDepth 20000 in
theorem ggX6_readBoard_X6_clearPrints : GoodIn wsX6_readBoard wsX6_clearPrints := goodIn_r _ [17, 18, 19, 20, 21, 22, 38, 39, 40, 41, 42, 43, 44, 45, 46] (by decide +kernel) (by decide +kernel)
set_option maxRecDepth 20000 in
theorem gX6_readBoard_X6_clearPrints : GoodIn wsX6_readBoard (wsV RX6 62 RX6 yX6_clearPrints wsX6_clearPrints) := goodIn_app (goodIn_of _ (by decide +kernel)) ggX6_readBoard_X6_clearPrints
set_option maxRecDepth 20000 in
theorem ggX6_readBoard_X6_mayBePlaced : GoodIn wsX6_readBoard wsX6_mayBePlaced := goodIn_r _ [26, 27, 28, 29, 30, 31, 32, 16, 33, 3, 38, 39, 40, 41, 42, 43, 44, 45, 46] (by decide +kernel) (by decide +kernel)
set_option maxRecDepth 20000 in
theorem gX6_readBoard_X6_mayBePlaced : GoodIn wsX6_readBoard (wsV RX6 65 RX6 yX6_mayBePlaced wsX6_mayBePlaced) := goodIn_app (goodIn_of _ (by decide +kernel)) ggX6_readBoard_X6_mayBePlaced
set_option maxRecDepth 20000 in
theorem ggX6_readBoard_X6_setSolid : GoodIn wsX6_readBoard wsX6_setSolid := goodIn_r _ [37, 5, 6, 38, 39, 40, 41, 42, 43, 44, 45, 46] (by decide +kernel) (by decide +kernel)
set_option maxRecDepth 20000 in
theorem gX6_readBoard_X6_setSolid : GoodIn wsX6_readBoard (wsV RX6 69 RX6 yX6_setSolid wsX6_setSolid) := goodIn_app (goodIn_of _ (by decide +kernel)) ggX6_readBoard_X6_setSolid
set_option maxRecDepth 20000 in
theorem ggX6_hasTile_X6_tileCount : GoodIn wsX6_hasTile wsX6_tileCount := goodIn_r _ [5, 6, 7, 8, 9, 10, 11, 12, 13, 14, 15, 16] (by decide +kernel) (by decide +kernel)
set_option maxRecDepth 20000 in
theorem gX6_hasTile_X6_tileCount : GoodIn wsX6_hasTile (wsV RX6 73 RX6 yX6_tileCount wsX6_tileCount) := goodIn_app (goodIn_of _ (by decide +kernel)) ggX6_hasTile_X6_tileCount
set_option maxRecDepth 20000 in
theorem ggX6_hasPlace_X7_isTetra : GoodIn wsX6_hasPlace wsX7_isTetra := goodIn_r _ [3] (by decide +kernel) (by decide +kernel)
set_option maxRecDepth 20000 in
theorem gX6_hasPlace_X7_isTetra_n77 : GoodIn wsX6_hasPlace (wsX7_isTetra) := ggX6_hasPlace_X7_isTetra
set_option maxRecDepth 20000 in
theorem ggX6_hasPlace_X6_tileCount : GoodIn wsX6_hasPlace wsX6_tileCount := goodIn_r _ [8, 9, 10, 11, 12, 13, 14, 15, 16, 17, 18, 19] (by decide +kernel) (by decide +kernel)
set_option maxRecDepth 20000 in
theorem gX6_hasPlace_X6_tileCount : GoodIn wsX6_hasPlace (wsV RX6 73 RX6 yX6_tileCount wsX6_tileCount) := goodIn_app (goodIn_of _ (by decide +kernel)) ggX6_hasPlace_X6_tileCount
set_option maxRecDepth 20000 in
theorem ggX6_stances_X7_isTetra : GoodIn wsX6_stances wsX7_isTetra := goodIn_r _ [6] (by decide +kernel) (by decide +kernel)
set_option maxRecDepth 20000 in
theorem gX6_stances_X7_isTetra_n77 : GoodIn wsX6_stances (wsX7_isTetra) := ggX6_stances_X7_isTetra
set_option maxRecDepth 20000 in
theorem ggX6_mayBePlaced_X7_isTetra : GoodIn wsX6_mayBePlaced wsX7_isTetra := goodIn_r _ [3] (by decide +kernel) (by decide +kernel)
set_option maxRecDepth 20000 in
theorem gX6_mayBePlaced_X7_isTetra_n77 : GoodIn wsX6_mayBePlaced (wsX7_isTetra) := ggX6_mayBePlaced_X7_isTetra
set_option maxRecDepth 20000 in
theorem ggX6_mayBePlaced_X6_bears : GoodIn wsX6_mayBePlaced wsX6_bears := goodIn_r _ [8, 9, 10, 11, 12, 13, 14, 15, 16, 17, 18] (by decide +kernel) (by decide +kernel)
set_option maxRecDepth 20000 in
theorem gX6_mayBePlaced_X6_bears : GoodIn wsX6_mayBePlaced (wsV RX6 81 RX6 yX6_bears wsX6_bears) := goodIn_app (goodIn_of _ (by decide +kernel)) ggX6_mayBePlaced_X6_bears
set_option maxRecDepth 20000 in
theorem ggX6_wouldBar_X6_stands : GoodIn wsX6_wouldBar wsX6_stands := goodIn_r _ [7, 8, 9, 10, 6, 11, 1, 12, 13, 14, 15, 16, 17, 18, 19, 20, 21, 22, 23, 24, 25, 26, 27, 28, 29, 30, 31, 32, 33, 34, 35, 36, 37] (by decide +kernel) (by decide +kernel)
set_option maxRecDepth 20000 in
theorem gX6_wouldBar_X6_stands : GoodIn wsX6_wouldBar (wsV RX6 85 RX6 yX6_stands wsX6_stands) := goodIn_app (goodIn_of _ (by decide +kernel)) ggX6_wouldBar_X6_stands
set_option maxRecDepth 20000 in
theorem ggX6_isOn_X6_isNone : GoodIn wsX6_isOn wsX6_isNone := goodIn_r _ [6, 1, 31, 32, 33, 34, 35, 36, 37, 38, 39] (by decide +kernel) (by decide +kernel)
set_option maxRecDepth 20000 in
theorem gX6_isOn_X6_isNone : GoodIn wsX6_isOn (wsV RX6 88 RX6 yX6_isNone wsX6_isNone) := goodIn_app (goodIn_of _ (by decide +kernel)) ggX6_isOn_X6_isNone
set_option maxRecDepth 20000 in
theorem ggX6_isOn_X6_tilesUnder : GoodIn wsX6_isOn wsX6_tilesUnder := goodIn_r _ [10, 11, 12, 13, 14, 15, 16, 17, 18, 19, 5, 20, 21, 22, 23, 24, 25, 26, 27, 28, 29, 30, 31, 32, 33, 34, 35, 36, 37, 38, 39, 40, 41, 42, 43, 44, 45] (by decide +kernel) (by decide +kernel)
set_option maxRecDepth 20000 in
theorem gX6_isOn_X6_tilesUnder : GoodIn wsX6_isOn (wsV RX6 92 RX6 yX6_tilesUnder wsX6_tilesUnder) := goodIn_app (goodIn_of _ (by decide +kernel)) ggX6_isOn_X6_tilesUnder
set_option maxRecDepth 20000 in
theorem ggX6_countTiles_X6_tileCount : GoodIn wsX6_countTiles wsX6_tileCount := goodIn_r _ [6, 7, 8, 9, 10, 11, 12, 13, 14, 15, 16, 17] (by decide +kernel) (by decide +kernel)
set_option maxRecDepth 20000 in
theorem gX6_countTiles_X6_tileCount : GoodIn wsX6_countTiles (wsV RX6 73 RX6 yX6_tileCount wsX6_tileCount) := goodIn_app (goodIn_of _ (by decide +kernel)) ggX6_countTiles_X6_tileCount
set_option maxRecDepth 20000 in
theorem ggX6_countPrints_X6_tileCount : GoodIn wsX6_countPrints wsX6_tileCount := goodIn_r _ [6, 7, 8, 9, 10, 11, 12, 13, 14, 15, 16, 17] (by decide +kernel) (by decide +kernel)
set_option maxRecDepth 20000 in
theorem gX6_countPrints_X6_tileCount : GoodIn wsX6_countPrints (wsV RX6 73 RX6 yX6_tileCount wsX6_tileCount) := goodIn_app (goodIn_of _ (by decide +kernel)) ggX6_countPrints_X6_tileCount
set_option maxRecDepth 20000 in
theorem ggX6_clearPrints_J7_fill_53178 : GoodIn wsX6_clearPrints wsJ7_fill_53178 := goodIn_r _ [5] (by decide +kernel) (by decide +kernel)
set_option maxRecDepth 20000 in
theorem gX6_clearPrints_J7_fill_53178 : GoodIn wsX6_clearPrints (va_wsS RX6 25 yJ7_fill_53178 wsJ7_fill_53178) := goodIn_app (goodIn_of _ (by decide +kernel)) ggX6_clearPrints_J7_fill_53178
set_option maxRecDepth 20000 in
theorem ggX6_printBelow_X6_tilesUnder : GoodIn wsX6_printBelow wsX6_tilesUnder := goodIn_r _ [7, 8, 9, 10, 11, 12, 13, 14, 15, 16, 6, 17, 18, 19, 20, 21, 22, 23, 24, 25, 26, 27, 39, 40, 41, 42, 43, 44, 45, 46, 47, 48, 49, 50, 51, 52, 53] (by decide +kernel) (by decide +kernel)
set_option maxRecDepth 20000 in
theorem gX6_printBelow_X6_tilesUnder : GoodIn wsX6_printBelow (wsV RX6 92 RX6 yX6_tilesUnder wsX6_tilesUnder) := goodIn_app (goodIn_of _ (by decide +kernel)) ggX6_printBelow_X6_tilesUnder
set_option maxRecDepth 20000 in
theorem ggX6_printBelow_X6_faceBelow : GoodIn wsX6_printBelow wsX6_faceBelow := goodIn_r _ [31, 8, 32, 18, 11, 12, 13, 33, 34, 35, 24, 36, 37, 27, 38, 39, 40, 41, 42, 43, 44, 45, 46, 47, 48, 49, 50, 51, 52, 53] (by decide +kernel) (by decide +kernel)
set_option maxRecDepth 20000 in
theorem gX6_printBelow_X6_faceBelow : GoodIn wsX6_printBelow (wsV RX6 96 RX6 yX6_faceBelow wsX6_faceBelow) := goodIn_app (goodIn_of _ (by decide +kernel)) ggX6_printBelow_X6_faceBelow
set_option maxRecDepth 20000 in
theorem ggX6_faceBelow_X7_isTetra : GoodIn wsX6_faceBelow wsX7_isTetra := goodIn_r _ [6] (by decide +kernel) (by decide +kernel)
set_option maxRecDepth 20000 in
theorem gX6_faceBelow_X7_isTetra_n77 : GoodIn wsX6_faceBelow (wsX7_isTetra) := ggX6_faceBelow_X7_isTetra
set_option maxRecDepth 20000 in
theorem ggX6_faceBelow_X5_faceBelow : GoodIn wsX6_faceBelow wsX5_faceBelow := goodIn_r _ [11, 12, 13, 14, 24, 25, 26, 27, 28, 29] (by decide +kernel) (by decide +kernel)
set_option maxRecDepth 20000 in
theorem gX6_faceBelow_X5_faceBelow : GoodIn wsX6_faceBelow (wsV RX6 99 RX5 yX5_faceBelow wsX5_faceBelow) := goodIn_app (goodIn_of _ (by decide +kernel)) ggX6_faceBelow_X5_faceBelow
set_option maxRecDepth 20000 in
theorem ggX6_positionOf_X6_stances : GoodIn wsX6_positionOf wsX6_stances := goodIn_r _ [6, 7, 8, 9, 10, 11, 12, 20, 21, 22, 23, 24, 25, 26, 27, 28] (by decide +kernel) (by decide +kernel)
set_option maxRecDepth 20000 in
theorem gX6_positionOf_X6_stances : GoodIn wsX6_positionOf (wsV RX6 102 RX6 yX6_stances wsX6_stances) := goodIn_app (goodIn_of _ (by decide +kernel)) ggX6_positionOf_X6_stances
set_option maxRecDepth 20000 in
theorem ggX6_positionOf_X5_positionOf : GoodIn wsX6_positionOf wsX5_positionOf := goodIn_r _ [17, 18, 19, 29, 30, 31, 32, 33, 34] (by decide +kernel) (by decide +kernel)
set_option maxRecDepth 20000 in
theorem gX6_positionOf_X5_positionOf : GoodIn wsX6_positionOf (wsV RX6 106 RX5 yX5_positionOf wsX5_positionOf) := goodIn_app (goodIn_of _ (by decide +kernel)) ggX6_positionOf_X5_positionOf
set_option maxRecDepth 20000 in
theorem ggX6_stands_X6_lie : GoodIn wsX6_stands wsX6_lie := goodIn_r _ [5, 6, 7, 8, 9, 10, 11, 12, 13, 14, 15, 16, 17, 18, 19, 20, 21, 22, 23, 24, 25, 26, 27, 28, 29, 30, 31, 32] (by decide +kernel) (by decide +kernel)
set_option maxRecDepth 20000 in
theorem gX6_stands_X6_lie : GoodIn wsX6_stands (wsV RX6 110 RX6 yX6_lie wsX6_lie) := goodIn_app (goodIn_of _ (by decide +kernel)) ggX6_stands_X6_lie
set_option maxRecDepth 20000 in
theorem ggX6_lie_X7_isBlock : GoodIn wsX6_lie wsX7_isBlock := goodIn_r _ [5] (by decide +kernel) (by decide +kernel)
set_option maxRecDepth 20000 in
theorem gX6_lie_X7_isBlock_n113 : GoodIn wsX6_lie (wsX7_isBlock) := ggX6_lie_X7_isBlock
set_option maxRecDepth 20000 in
theorem ggX6_lie_X5_positionOf : GoodIn wsX6_lie wsX5_positionOf := goodIn_r _ [10, 11, 12, 22, 23, 24, 25, 26, 27] (by decide +kernel) (by decide +kernel)
set_option maxRecDepth 20000 in
theorem gX6_lie_X5_positionOf : GoodIn wsX6_lie (wsV RX6 106 RX5 yX5_positionOf wsX5_positionOf) := goodIn_app (goodIn_of _ (by decide +kernel)) ggX6_lie_X5_positionOf
set_option maxRecDepth 20000 in
theorem ggX6_tilesUnder_X7_isTetra : GoodIn wsX6_tilesUnder wsX7_isTetra := goodIn_r _ [6] (by decide +kernel) (by decide +kernel)
set_option maxRecDepth 20000 in
theorem gX6_tilesUnder_X7_isTetra_n77 : GoodIn wsX6_tilesUnder (wsX7_isTetra) := ggX6_tilesUnder_X7_isTetra
set_option maxRecDepth 20000 in
theorem ggX6_tilesUnder_X6_lie : GoodIn wsX6_tilesUnder wsX6_lie := goodIn_r _ [11, 1, 12, 13, 5, 14, 15, 16, 17, 18, 19, 20, 21, 22, 23, 24, 25, 26, 27, 28, 29, 30, 31, 32, 33, 34, 35, 36] (by decide +kernel) (by decide +kernel)
set_option maxRecDepth 20000 in
theorem gX6_tilesUnder_X6_lie : GoodIn wsX6_tilesUnder (wsV RX6 110 RX6 yX6_lie wsX6_lie) := goodIn_app (goodIn_of _ (by decide +kernel)) ggX6_tilesUnder_X6_lie
set_option maxRecDepth 20000 in
theorem ggX6_pointsUp_X6_rowOf : GoodIn wsX6_pointsUp wsX6_rowOf := goodIn_r _ [5] (by decide +kernel) (by decide +kernel)
set_option maxRecDepth 20000 in
theorem gX6_pointsUp_X6_rowOf : GoodIn wsX6_pointsUp (va_wsS RX6 118 yX6_rowOf wsX6_rowOf) := goodIn_app (goodIn_of _ (by decide +kernel)) ggX6_pointsUp_X6_rowOf
set_option maxRecDepth 20000 in
theorem ggX6_rolled_X7_isTetra : GoodIn wsX6_rolled wsX7_isTetra := goodIn_r _ [6] (by decide +kernel) (by decide +kernel)
set_option maxRecDepth 20000 in
theorem gX6_rolled_X7_isTetra_n77 : GoodIn wsX6_rolled (wsX7_isTetra) := ggX6_rolled_X7_isTetra
set_option maxRecDepth 20000 in
theorem ggX6_rolled_X6_rolledTetra : GoodIn wsX6_rolled wsX6_rolledTetra := goodIn_r _ [11, 3, 12, 1, 13, 14, 15, 16, 10, 17, 18, 19, 20, 21, 22, 23, 24, 25, 26, 27, 28, 49, 50, 51, 52, 53, 54, 55, 56, 57, 58, 59, 60, 61, 62, 63] (by decide +kernel) (by decide +kernel)
set_option maxRecDepth 20000 in
theorem gX6_rolled_X6_rolledTetra : GoodIn wsX6_rolled (wsV RX6 121 RX6 yX6_rolledTetra wsX6_rolledTetra) := goodIn_app (goodIn_of _ (by decide +kernel)) ggX6_rolled_X6_rolledTetra
set_option maxRecDepth 20000 in
theorem ggX6_rolled_X5_turnedTo : GoodIn wsX6_rolled wsX5_turnedTo := goodIn_r _ [27, 28, 58, 59, 60, 61, 62, 63] (by decide +kernel) (by decide +kernel)
set_option maxRecDepth 20000 in
theorem gX6_rolled_X5_turnedTo : GoodIn wsX6_rolled (wsV RX6 124 RX5 yX5_turnedTo wsX5_turnedTo) := goodIn_app (goodIn_of _ (by decide +kernel)) ggX6_rolled_X5_turnedTo
set_option maxRecDepth 20000 in
theorem ggX6_rolled_X6_rowOf : GoodIn wsX6_rolled wsX6_rowOf := goodIn_r _ [17] (by decide +kernel) (by decide +kernel)
set_option maxRecDepth 20000 in
theorem gX6_rolled_X6_rowOf : GoodIn wsX6_rolled (va_wsS RX6 118 yX6_rowOf wsX6_rowOf) := goodIn_app (goodIn_of _ (by decide +kernel)) ggX6_rolled_X6_rowOf
set_option maxRecDepth 20000 in
theorem ggX6_rolled_X6_lie : GoodIn wsX6_rolled wsX6_lie := goodIn_r _ [32, 1, 2, 33, 5, 34, 35, 36, 37, 26, 38, 39, 40, 49, 50, 51, 52, 53, 54, 55, 56, 57, 58, 59, 60, 61, 62, 63] (by decide +kernel) (by decide +kernel)
set_option maxRecDepth 20000 in
theorem gX6_rolled_X6_lie : GoodIn wsX6_rolled (wsV RX6 110 RX6 yX6_lie wsX6_lie) := goodIn_app (goodIn_of _ (by decide +kernel)) ggX6_rolled_X6_lie
set_option maxRecDepth 20000 in
theorem ggX6_rolled_X6_reach : GoodIn wsX6_rolled wsX6_reach := goodIn_r _ [44, 1, 33, 5, 34, 49, 50, 51, 52, 53, 54, 55, 56, 57] (by decide +kernel) (by decide +kernel)
set_option maxRecDepth 20000 in
theorem gX6_rolled_X6_reach : GoodIn wsX6_rolled (wsV RX6 127 RX6 yX6_reach wsX6_reach) := goodIn_app (goodIn_of _ (by decide +kernel)) ggX6_rolled_X6_reach
set_option maxRecDepth 20000 in
theorem ggX6_rolled_X6_mayLie : GoodIn wsX6_rolled wsX6_mayLie := goodIn_r _ [48, 12, 3, 1, 18, 19, 20, 10, 21, 22, 49, 50, 51, 52, 53, 54, 55, 56, 57] (by decide +kernel) (by decide +kernel)
set_option maxRecDepth 20000 in
theorem gX6_rolled_X6_mayLie : GoodIn wsX6_rolled (wsV RX6 130 RX6 yX6_mayLie wsX6_mayLie) := goodIn_app (goodIn_of _ (by decide +kernel)) ggX6_rolled_X6_mayLie
set_option maxRecDepth 20000 in
theorem ggX6_reach_X7_isBlock : GoodIn wsX6_reach wsX7_isBlock := goodIn_r _ [4] (by decide +kernel) (by decide +kernel)
set_option maxRecDepth 20000 in
theorem gX6_reach_X7_isBlock_n113 : GoodIn wsX6_reach (wsX7_isBlock) := ggX6_reach_X7_isBlock
set_option maxRecDepth 20000 in
theorem ggX6_mayLie_X6_bears : GoodIn wsX6_mayLie wsX6_bears := goodIn_r _ [8, 9, 10, 11, 12, 13, 14, 15, 16, 17, 18] (by decide +kernel) (by decide +kernel)
set_option maxRecDepth 20000 in
theorem gX6_mayLie_X6_bears : GoodIn wsX6_mayLie (wsV RX6 81 RX6 yX6_bears wsX6_bears) := goodIn_app (goodIn_of _ (by decide +kernel)) ggX6_mayLie_X6_bears
set_option maxRecDepth 20000 in
theorem ggX6_rolledTetra_X6_rowOf : GoodIn wsX6_rolledTetra wsX6_rowOf := goodIn_r _ [9] (by decide +kernel) (by decide +kernel)
set_option maxRecDepth 20000 in
theorem gX6_rolledTetra_X6_rowOf : GoodIn wsX6_rolledTetra (va_wsS RX6 118 yX6_rowOf wsX6_rowOf) := goodIn_app (goodIn_of _ (by decide +kernel)) ggX6_rolledTetra_X6_rowOf
set_option maxRecDepth 20000 in
theorem ggX6_rolledTetra_X6_bears : GoodIn wsX6_rolledTetra wsX6_bears := goodIn_r _ [13, 14, 21, 22, 23, 24, 25, 26, 27, 28, 29] (by decide +kernel) (by decide +kernel)
set_option maxRecDepth 20000 in
theorem gX6_rolledTetra_X6_bears : GoodIn wsX6_rolledTetra (wsV RX6 81 RX6 yX6_bears wsX6_bears) := goodIn_app (goodIn_of _ (by decide +kernel)) ggX6_rolledTetra_X6_bears
set_option maxRecDepth 20000 in
theorem ggX6_rolledTetra_X5_turnedTo : GoodIn wsX6_rolledTetra wsX5_turnedTo := goodIn_r _ [19, 20, 30, 31, 32, 33, 34, 35] (by decide +kernel) (by decide +kernel)
set_option maxRecDepth 20000 in
theorem gX6_rolledTetra_X5_turnedTo : GoodIn wsX6_rolledTetra (wsV RX6 124 RX5 yX5_turnedTo wsX5_turnedTo) := goodIn_app (goodIn_of _ (by decide +kernel)) ggX6_rolledTetra_X5_turnedTo
set_option maxRecDepth 20000 in
theorem ggX6_isAt_X6_lie : GoodIn wsX6_isAt wsX6_lie := goodIn_r _ [5, 6, 7, 8, 9, 10, 11, 12, 13, 14, 15, 16, 17, 31, 32, 33, 34, 35, 36, 37, 38, 39, 40, 41, 42, 43, 44, 45] (by decide +kernel) (by decide +kernel)
set_option maxRecDepth 20000 in
theorem gX6_isAt_X6_lie : GoodIn wsX6_isAt (wsV RX6 110 RX6 yX6_lie wsX6_lie) := goodIn_app (goodIn_of _ (by decide +kernel)) ggX6_isAt_X6_lie
set_option maxRecDepth 20000 in
theorem ggX6_isAt_X6_faceBelow : GoodIn wsX6_isAt wsX6_faceBelow := goodIn_r _ [21, 6, 22, 7, 23, 9, 24, 25, 26, 27, 14, 28, 29, 17, 30, 31, 32, 33, 34, 35, 36, 37, 38, 39, 40, 41, 42, 43, 44, 45] (by decide +kernel) (by decide +kernel)
set_option maxRecDepth 20000 in
theorem gX6_isAt_X6_faceBelow : GoodIn wsX6_isAt (wsV RX6 96 RX6 yX6_faceBelow wsX6_faceBelow) := goodIn_app (goodIn_of _ (by decide +kernel)) ggX6_isAt_X6_faceBelow
set_option maxRecDepth 20000 in
theorem ggX7_init_X5_init : GoodIn wsX7_init wsX5_init := goodIn_r _ [39, 40, 2, 3, 41, 42, 35, 43, 44, 45, 46, 47, 48, 49, 6, 50, 51, 52, 53, 54, 55, 56, 57, 58, 59, 60, 61, 62, 120, 121, 122, 123, 124, 125] (by decide +kernel) (by decide +kernel)
set_option maxRecDepth 20000 in
theorem gX7_init_X5_init : GoodIn wsX7_init (wsX5_init) := ggX7_init_X5_init
set_option maxRecDepth 20000 in
theorem ggX7_init_X6_init : GoodIn wsX7_init wsX6_init := goodIn_r _ [65, 66, 2, 3, 67, 68, 35, 69, 70, 71, 72, 73, 74, 75, 76, 77, 78, 79, 126, 127, 128, 129, 130, 131, 132, 133, 134] (by decide +kernel) (by decide +kernel)
set_option maxRecDepth 20000 in
theorem gX7_init_X6_init : GoodIn wsX7_init (wsX6_init) := ggX7_init_X6_init
set_option maxRecDepth 20000 in
theorem ggX7_init_X1_init : GoodIn wsX7_init wsX1_init := goodIn_r _ [82, 83, 2, 3, 35, 84, 85, 144, 145] (by decide +kernel) (by decide +kernel)
set_option maxRecDepth 20000 in
theorem gX7_init_X1_init : GoodIn wsX7_init (wsX1_init) := ggX7_init_X1_init
set_option maxRecDepth 20000 in
theorem ggX7_init_X4_init : GoodIn wsX7_init wsX4_init := goodIn_r _ [88, 89, 2, 3, 35, 90, 91, 92, 93, 94, 95, 96, 97, 146, 147, 148, 149, 150, 151, 152, 153] (by decide +kernel) (by decide +kernel)
set_option maxRecDepth 20000 in
theorem gX7_init_X4_init : GoodIn wsX7_init (wsX4_init) := ggX7_init_X4_init
set_option maxRecDepth 20000 in
theorem ggX7_init_X0_init : GoodIn wsX7_init wsX0_init := goodIn_r _ [100, 101, 2, 3, 35, 102, 103, 104, 105, 154, 155, 156, 157] (by decide +kernel) (by decide +kernel)
set_option maxRecDepth 20000 in
theorem gX7_init_X0_init : GoodIn wsX7_init (wsX0_init) := ggX7_init_X0_init
set_option maxRecDepth 20000 in
theorem ggX7_init_X3_init : GoodIn wsX7_init wsX3_init := goodIn_r _ [108, 109, 2, 3, 35, 110, 111, 158, 159] (by decide +kernel) (by decide +kernel)
set_option maxRecDepth 20000 in
theorem gX7_init_X3_init : GoodIn wsX7_init (wsX3_init) := ggX7_init_X3_init
set_option maxRecDepth 20000 in
theorem ggX7_init_X2_init : GoodIn wsX7_init wsX2_init := goodIn_r _ [114, 115, 2, 3, 35, 116, 117, 118, 119, 160, 161, 162, 163] (by decide +kernel) (by decide +kernel)
set_option maxRecDepth 20000 in
theorem gX7_init_X2_init : GoodIn wsX7_init (wsX2_init) := ggX7_init_X2_init
set_option maxRecDepth 20000 in
theorem ggX7_letter_X7_refuse : GoodIn wsX7_letter wsX7_refuse := goodIn_r _ [7, 8, 20, 21, 22, 23, 24, 25, 26, 27, 28] (by decide +kernel) (by decide +kernel)
set_option maxRecDepth 20000 in
theorem gX7_letter_X7_refuse : GoodIn wsX7_letter (wsV RX7 75 RX7 yX7_refuse wsX7_refuse) := goodIn_app (goodIn_of _ (by decide +kernel)) ggX7_letter_X7_refuse
set_option maxRecDepth 20000 in
theorem ggX7_letter_X1_isFull : GoodIn wsX7_letter wsX1_isFull := goodIn_r _ [13, 14, 29, 30] (by decide +kernel) (by decide +kernel)
set_option maxRecDepth 20000 in
theorem gX7_letter_X1_isFull : GoodIn wsX7_letter (wsV RX7 79 RX1 yX1_isFull wsX1_isFull) := goodIn_app (goodIn_of _ (by decide +kernel)) ggX7_letter_X1_isFull
set_option maxRecDepth 20000 in
theorem ggX7_letter_X1_append : GoodIn wsX7_letter wsX1_append := goodIn_r _ [18, 19, 14, 29, 30] (by decide +kernel) (by decide +kernel)
set_option maxRecDepth 20000 in
theorem gX7_letter_X1_append : GoodIn wsX7_letter (wsV RX7 83 RX1 yX1_append wsX1_append) := goodIn_app (goodIn_of _ (by decide +kernel)) ggX7_letter_X1_append
set_option maxRecDepth 20000 in
theorem ggX7_board_X1_boardFault : GoodIn wsX7_board wsX1_boardFault := goodIn_r _ [8, 9, 10, 11, 12, 13, 7, 14, 74, 75] (by decide +kernel) (by decide +kernel)
set_option maxRecDepth 20000 in
theorem gX7_board_X1_boardFault : GoodIn wsX7_board (wsV RX7 91 RX1 yX1_boardFault wsX1_boardFault) := goodIn_app (goodIn_of _ (by decide +kernel)) ggX7_board_X1_boardFault
set_option maxRecDepth 20000 in
theorem ggX7_board_X6_readBoard : GoodIn wsX7_board wsX6_readBoard := goodIn_r _ [19, 20, 21, 22, 23, 24, 25, 26, 12, 13, 7, 14, 10, 27, 28, 29, 18, 30, 31, 32, 33, 34, 35, 36, 37, 38, 39, 40, 41, 42, 43, 44, 45, 46, 47, 48, 49, 50, 76, 77, 78, 79, 80, 81, 82, 83, 84, 74, 75] (by decide +kernel) (by decide +kernel)
set_option maxRecDepth 20000 in
theorem gX7_board_X6_readBoard : GoodIn wsX7_board (wsV RX7 95 RX6 yX6_readBoard wsX6_readBoard) := goodIn_app (goodIn_of _ (by decide +kernel)) ggX7_board_X6_readBoard
set_option maxRecDepth 20000 in
theorem ggX7_board_X0_forget : GoodIn wsX7_board wsX0_forget := goodIn_r _ [55, 56, 85, 86, 87, 88] (by decide +kernel) (by decide +kernel)
set_option maxRecDepth 20000 in
theorem gX7_board_X0_forget : GoodIn wsX7_board (wsV RX7 99 RX0 yX0_forget wsX0_forget) := goodIn_app (goodIn_of _ (by decide +kernel)) ggX7_board_X0_forget
set_option maxRecDepth 20000 in
theorem ggX7_board_X1_clear : GoodIn wsX7_board wsX1_clear := goodIn_r _ [60, 9, 74, 75] (by decide +kernel) (by decide +kernel)
set_option maxRecDepth 20000 in
theorem gX7_board_X1_clear : GoodIn wsX7_board (wsV RX7 102 RX1 yX1_clear wsX1_clear) := goodIn_app (goodIn_of _ (by decide +kernel)) ggX7_board_X1_clear
set_option maxRecDepth 20000 in
theorem ggX7_board_X6_tileCount : GoodIn wsX7_board wsX6_tileCount := goodIn_r _ [64, 20, 23, 76, 77, 78, 79, 80, 81, 82, 83, 84] (by decide +kernel) (by decide +kernel)
set_option maxRecDepth 20000 in
theorem gX7_board_X6_tileCount : GoodIn wsX7_board (wsV RX7 105 RX6 yX6_tileCount wsX6_tileCount) := goodIn_app (goodIn_of _ (by decide +kernel)) ggX7_board_X6_tileCount
set_option maxRecDepth 20000 in
theorem ggX7_tile_X6_hasTile : GoodIn wsX7_tile wsX6_hasTile := goodIn_r _ [7, 8, 9, 10, 6, 11, 12, 13, 68, 69, 70, 71, 72, 73, 74, 75, 76] (by decide +kernel) (by decide +kernel)
set_option maxRecDepth 20000 in
theorem gX7_tile_X6_hasTile : GoodIn wsX7_tile (wsV RX7 108 RX6 yX6_hasTile wsX6_hasTile) := goodIn_app (goodIn_of _ (by decide +kernel)) ggX7_tile_X6_hasTile
set_option maxRecDepth 20000 in
theorem ggX7_tile_X7_refuse : GoodIn wsX7_tile wsX7_refuse := goodIn_r _ [18, 19, 59, 60, 61, 62, 63, 64, 65, 66, 67] (by decide +kernel) (by decide +kernel)
set_option maxRecDepth 20000 in
theorem gX7_tile_X7_refuse : GoodIn wsX7_tile (wsV RX7 75 RX7 yX7_refuse wsX7_refuse) := goodIn_app (goodIn_of _ (by decide +kernel)) ggX7_tile_X7_refuse
set_option maxRecDepth 20000 in
theorem ggX7_tile_X6_isOn : GoodIn wsX7_tile wsX6_isOn := goodIn_r _ [23, 24, 25, 26, 27, 6, 28, 29, 30, 31, 32, 33, 34, 13, 35, 17, 36, 37, 38, 39, 40, 41, 42, 43, 44, 45, 46, 47, 48, 49, 50, 68, 69, 70, 71, 72, 73, 74, 75, 76, 77, 78, 79, 80, 81, 82] (by decide +kernel) (by decide +kernel)
set_option maxRecDepth 20000 in
theorem gX7_tile_X6_isOn : GoodIn wsX7_tile (wsV RX7 112 RX6 yX6_isOn wsX6_isOn) := goodIn_app (goodIn_of _ (by decide +kernel)) ggX7_tile_X6_isOn
set_option maxRecDepth 20000 in
theorem ggX7_tile_X6_wouldBar : GoodIn wsX7_tile wsX6_wouldBar := goodIn_r _ [54, 33, 24, 55, 56, 57, 6, 58, 37, 38, 39, 40, 41, 42, 17, 43, 44, 45, 46, 47, 48, 49, 50, 68, 69, 70, 71, 72, 73, 74, 75, 76, 77, 78, 79, 80, 81, 82] (by decide +kernel) (by decide +kernel)
set_option maxRecDepth 20000 in
theorem gX7_tile_X6_wouldBar : GoodIn wsX7_tile (wsV RX7 115 RX6 yX6_wouldBar wsX6_wouldBar) := goodIn_app (goodIn_of _ (by decide +kernel)) ggX7_tile_X6_wouldBar
set_option maxRecDepth 20000 in
theorem ggX7_of_X6_hasTile : GoodIn wsX7_of wsX6_hasTile := goodIn_r _ [8, 9, 10, 11, 7, 12, 13, 14, 30, 31, 32, 33, 34, 35, 36, 37, 38] (by decide +kernel) (by decide +kernel)
set_option maxRecDepth 20000 in
theorem gX7_of_X6_hasTile : GoodIn wsX7_of (wsV RX7 108 RX6 yX6_hasTile wsX6_hasTile) := goodIn_app (goodIn_of _ (by decide +kernel)) ggX7_of_X6_hasTile
set_option maxRecDepth 20000 in
theorem ggX7_of_X7_refuse : GoodIn wsX7_of wsX7_refuse := goodIn_r _ [19, 20, 21, 22, 23, 24, 25, 26, 27, 28, 29] (by decide +kernel) (by decide +kernel)
set_option maxRecDepth 20000 in
theorem gX7_of_X7_refuse : GoodIn wsX7_of (wsV RX7 75 RX7 yX7_refuse wsX7_refuse) := goodIn_app (goodIn_of _ (by decide +kernel)) ggX7_of_X7_refuse
set_option maxRecDepth 20000 in
theorem ggX7_places_X7_isKind : GoodIn wsX7_places wsX7_isKind := goodIn_r _ [6] (by decide +kernel) (by decide +kernel)
set_option maxRecDepth 20000 in
theorem gX7_places_X7_isKind : GoodIn wsX7_places (va_wsS RX7 124 yX7_isKind wsX7_isKind) := goodIn_app (goodIn_of _ (by decide +kernel)) ggX7_places_X7_isKind
set_option maxRecDepth 20000 in
theorem ggX7_places_X7_refuse : GoodIn wsX7_places wsX7_refuse := goodIn_r _ [10, 11, 46, 47, 48, 49, 50, 51, 52, 53, 54] (by decide +kernel) (by decide +kernel)
set_option maxRecDepth 20000 in
theorem gX7_places_X7_refuse : GoodIn wsX7_places (wsV RX7 75 RX7 yX7_refuse wsX7_refuse) := goodIn_app (goodIn_of _ (by decide +kernel)) ggX7_places_X7_refuse
set_option maxRecDepth 20000 in
theorem ggX7_places_X6_hasPlace : GoodIn wsX7_places wsX6_hasPlace := goodIn_r _ [16, 17, 5, 18, 19, 20, 21, 15, 22, 23, 24, 55, 56, 57, 58, 59, 60, 61, 62, 63] (by decide +kernel) (by decide +kernel)
set_option maxRecDepth 20000 in
theorem gX7_places_X6_hasPlace : GoodIn wsX7_places (wsV RX7 127 RX6 yX6_hasPlace wsX6_hasPlace) := goodIn_app (goodIn_of _ (by decide +kernel)) ggX7_places_X6_hasPlace
set_option maxRecDepth 20000 in
theorem ggX7_places_X6_mayBePlaced : GoodIn wsX7_places wsX6_mayBePlaced := goodIn_r _ [28, 17, 5, 18, 29, 30, 31, 15, 32, 33, 55, 56, 57, 58, 59, 60, 61, 62, 63] (by decide +kernel) (by decide +kernel)
set_option maxRecDepth 20000 in
theorem gX7_places_X6_mayBePlaced : GoodIn wsX7_places (wsV RX7 131 RX6 yX6_mayBePlaced wsX6_mayBePlaced) := goodIn_app (goodIn_of _ (by decide +kernel)) ggX7_places_X6_mayBePlaced
set_option maxRecDepth 20000 in
theorem ggX7_places_X6_setSolid : GoodIn wsX7_places wsX6_setSolid := goodIn_r _ [37, 38, 39, 55, 56, 57, 58, 59, 60, 61, 62, 63] (by decide +kernel) (by decide +kernel)
set_option maxRecDepth 20000 in
theorem gX7_places_X6_setSolid : GoodIn wsX7_places (wsV RX7 134 RX6 yX6_setSolid wsX6_setSolid) := goodIn_app (goodIn_of _ (by decide +kernel)) ggX7_places_X6_setSolid
set_option maxRecDepth 20000 in
theorem ggX7_places_X0_forget : GoodIn wsX7_places wsX0_forget := goodIn_r _ [44, 45, 64, 65, 66, 67] (by decide +kernel) (by decide +kernel)
set_option maxRecDepth 20000 in
theorem gX7_places_X0_forget : GoodIn wsX7_places (wsV RX7 99 RX0 yX0_forget wsX0_forget) := goodIn_app (goodIn_of _ (by decide +kernel)) ggX7_places_X0_forget
set_option maxRecDepth 20000 in
theorem ggX7_ink_X7_refuse : GoodIn wsX7_ink wsX7_refuse := goodIn_r _ [7, 8, 9, 10, 11, 12, 13, 14, 15, 16, 17] (by decide +kernel) (by decide +kernel)
set_option maxRecDepth 20000 in
theorem gX7_ink_X7_refuse : GoodIn wsX7_ink (wsV RX7 75 RX7 yX7_refuse wsX7_refuse) := goodIn_app (goodIn_of _ (by decide +kernel)) ggX7_ink_X7_refuse
set_option maxRecDepth 20000 in
theorem ggX7_wipes_X6_countPrints : GoodIn wsX7_wipes wsX6_countPrints := goodIn_r _ [6, 7, 8, 9, 10, 5, 11, 12, 13, 31, 32, 33, 34, 35, 36, 37, 38, 39] (by decide +kernel) (by decide +kernel)
set_option maxRecDepth 20000 in
theorem gX7_wipes_X6_countPrints : GoodIn wsX7_wipes (wsV RX7 141 RX6 yX6_countPrints wsX6_countPrints) := goodIn_app (goodIn_of _ (by decide +kernel)) ggX7_wipes_X6_countPrints
set_option maxRecDepth 20000 in
theorem ggX7_wipes_X6_clearPrints : GoodIn wsX7_wipes wsX6_clearPrints := goodIn_r _ [17, 7, 18, 19, 20, 21, 31, 32, 33, 34, 35, 36, 37, 38, 39] (by decide +kernel) (by decide +kernel)
set_option maxRecDepth 20000 in
theorem gX7_wipes_X6_clearPrints : GoodIn wsX7_wipes (wsV RX7 144 RX6 yX6_clearPrints wsX6_clearPrints) := goodIn_app (goodIn_of _ (by decide +kernel)) ggX7_wipes_X6_clearPrints
set_option maxRecDepth 20000 in
theorem ggX7_solid_X6_stances : GoodIn wsX7_solid wsX6_stances := goodIn_r _ [7, 8, 9, 10, 11, 12, 13, 103, 104, 105, 106, 107, 108, 109, 110, 111] (by decide +kernel) (by decide +kernel)
set_option maxRecDepth 20000 in
theorem gX7_solid_X6_stances : GoodIn wsX7_solid (wsV RX7 147 RX6 yX6_stances wsX6_stances) := goodIn_app (goodIn_of _ (by decide +kernel)) ggX7_solid_X6_stances
set_option maxRecDepth 20000 in
theorem ggX7_solid_X7_refuse : GoodIn wsX7_solid wsX7_refuse := goodIn_r _ [17, 18, 88, 89, 90, 91, 92, 93, 94, 95, 96] (by decide +kernel) (by decide +kernel)
set_option maxRecDepth 20000 in
theorem gX7_solid_X7_refuse : GoodIn wsX7_solid (wsV RX7 75 RX7 yX7_refuse wsX7_refuse) := goodIn_app (goodIn_of _ (by decide +kernel)) ggX7_solid_X7_refuse
set_option maxRecDepth 20000 in
theorem ggX7_solid_X6_isNone : GoodIn wsX7_solid wsX6_isNone := goodIn_r _ [22, 23, 103, 104, 105, 106, 107, 108, 109, 110, 111] (by decide +kernel) (by decide +kernel)
set_option maxRecDepth 20000 in
theorem gX7_solid_X6_isNone : GoodIn wsX7_solid (wsV RX7 154 RX6 yX6_isNone wsX6_isNone) := goodIn_app (goodIn_of _ (by decide +kernel)) ggX7_solid_X6_isNone
set_option maxRecDepth 20000 in
theorem ggX7_solid_X6_positionOf : GoodIn wsX7_solid wsX6_positionOf := goodIn_r _ [27, 23, 28, 4, 5, 6, 7, 8, 9, 10, 11, 12, 13, 29, 30, 31, 32, 33, 34, 35, 103, 104, 105, 106, 107, 108, 109, 110, 111, 97, 98, 99, 100, 101, 102] (by decide +kernel) (by decide +kernel)
set_option maxRecDepth 20000 in
theorem gX7_solid_X6_positionOf : GoodIn wsX7_solid (wsV RX7 157 RX6 yX6_positionOf wsX6_positionOf) := goodIn_app (goodIn_of _ (by decide +kernel)) ggX7_solid_X6_positionOf
set_option maxRecDepth 20000 in
theorem ggX7_solid_X7_aboutSolid : GoodIn wsX7_solid wsX7_aboutSolid := goodIn_r _ [39, 1, 40, 41, 42, 43, 44, 6, 45, 23, 46, 47, 48, 49, 8, 9, 10, 11, 12, 13, 50, 51, 52, 32, 53, 54, 35, 55, 56, 57, 58, 59, 60, 61, 62, 63, 64, 65, 66, 67, 29, 30, 31, 33, 34, 68, 69, 70, 71, 72, 73, 74, 75, 76, 77, 78, 79, 80, 81, 82, 83, 84, 85, 86, 87, 88, 89, 90, 91, 92, 93, 94, 95, 96, 103, 104, 105, 106, 107, 108, 109, 110, 111, 97, 98, 99, 100, 101, 102] (by decide +kernel) (by decide +kernel)
set_option maxRecDepth 20000 in
theorem gX7_solid_X7_aboutSolid : GoodIn wsX7_solid (wsV RX7 160 RX7 yX7_aboutSolid wsX7_aboutSolid) := goodIn_app (goodIn_of _ (by decide +kernel)) ggX7_solid_X7_aboutSolid
set_option maxRecDepth 20000 in
theorem ggX7_aboutSolid_X6_placeNow : GoodIn wsX7_aboutSolid wsX6_placeNow := goodIn_r _ [8, 9, 74, 75, 76, 77, 78, 79, 80, 81, 82] (by decide +kernel) (by decide +kernel)
set_option maxRecDepth 20000 in
theorem gX7_aboutSolid_X6_placeNow : GoodIn wsX7_aboutSolid (wsV RX7 166 RX6 yX6_placeNow wsX6_placeNow) := goodIn_app (goodIn_of _ (by decide +kernel)) ggX7_aboutSolid_X6_placeNow
set_option maxRecDepth 20000 in
theorem ggX7_aboutSolid_X6_faceBelow : GoodIn wsX7_aboutSolid wsX6_faceBelow := goodIn_r _ [13, 14, 15, 16, 17, 18, 19, 20, 21, 22, 23, 24, 25, 26, 27, 74, 75, 76, 77, 78, 79, 80, 81, 82, 83, 84, 85, 86, 87, 88] (by decide +kernel) (by decide +kernel)
set_option maxRecDepth 20000 in
theorem gX7_aboutSolid_X6_faceBelow : GoodIn wsX7_aboutSolid (wsV RX7 172 RX6 yX6_faceBelow wsX6_faceBelow) := goodIn_app (goodIn_of _ (by decide +kernel)) ggX7_aboutSolid_X6_faceBelow
set_option maxRecDepth 20000 in
theorem ggX7_aboutSolid_X6_tilesUnder : GoodIn wsX7_aboutSolid wsX6_tilesUnder := goodIn_r _ [31, 14, 32, 33, 17, 18, 19, 34, 35, 36, 7, 37, 16, 38, 39, 40, 41, 42, 23, 43, 44, 26, 74, 75, 76, 77, 78, 79, 80, 81, 82, 83, 84, 85, 86, 87, 88] (by decide +kernel) (by decide +kernel)
set_option maxRecDepth 20000 in
theorem gX7_aboutSolid_X6_tilesUnder : GoodIn wsX7_aboutSolid (wsV RX7 175 RX6 yX6_tilesUnder wsX6_tilesUnder) := goodIn_app (goodIn_of _ (by decide +kernel)) ggX7_aboutSolid_X6_tilesUnder
set_option maxRecDepth 20000 in
theorem ggX7_aboutSolid_J13_bitCount_95d88 : GoodIn wsX7_aboutSolid wsJ13_bitCount_95d88 := goodIn_r _ [48, 49, 50, 51] (by decide +kernel) (by decide +kernel)
set_option maxRecDepth 20000 in
theorem gX7_aboutSolid_J13_bitCount_95d88 : GoodIn wsX7_aboutSolid (va_wsS RX7 179 yJ13_bitCount_95d88 wsJ13_bitCount_95d88) := goodIn_app (goodIn_of _ (by decide +kernel)) ggX7_aboutSolid_J13_bitCount_95d88
set_option maxRecDepth 20000 in
theorem ggX7_aboutSolid_X7_isBlock : GoodIn wsX7_aboutSolid wsX7_isBlock := goodIn_r _ [39] (by decide +kernel) (by decide +kernel)
set_option maxRecDepth 20000 in
theorem gX7_aboutSolid_X7_isBlock : GoodIn wsX7_aboutSolid (va_wsS RX7 185 yX7_isBlock wsX7_isBlock) := goodIn_app (goodIn_of _ (by decide +kernel)) ggX7_aboutSolid_X7_isBlock
set_option maxRecDepth 20000 in
theorem ggX7_aboutSolid_X6_stands : GoodIn wsX7_aboutSolid wsX6_stands := goodIn_r _ [56, 34, 35, 36, 7, 37, 14, 16, 38, 18, 39, 40, 41, 42, 23, 43, 44, 26, 74, 75, 76, 77, 78, 79, 80, 81, 82, 83, 84, 85, 86, 87, 88] (by decide +kernel) (by decide +kernel)
set_option maxRecDepth 20000 in
theorem gX7_aboutSolid_X6_stands : GoodIn wsX7_aboutSolid (wsV RX7 188 RX6 yX6_stands wsX6_stands) := goodIn_app (goodIn_of _ (by decide +kernel)) ggX7_aboutSolid_X6_stands
set_option maxRecDepth 20000 in
theorem ggX7_aboutSolid_X7_isTetra : GoodIn wsX7_aboutSolid wsX7_isTetra := goodIn_r _ [19] (by decide +kernel) (by decide +kernel)
set_option maxRecDepth 20000 in
theorem gX7_aboutSolid_X7_isTetra : GoodIn wsX7_aboutSolid (va_wsS RX7 191 yX7_isTetra wsX7_isTetra) := goodIn_app (goodIn_of _ (by decide +kernel)) ggX7_aboutSolid_X7_isTetra
set_option maxRecDepth 20000 in
theorem ggX7_aboutSolid_X6_pointsUp : GoodIn wsX7_aboutSolid wsX6_pointsUp := goodIn_r _ [61, 33, 62, 63, 7, 64, 74, 75, 76, 77, 78, 79, 80, 81, 82] (by decide +kernel) (by decide +kernel)
set_option maxRecDepth 20000 in
theorem gX7_aboutSolid_X6_pointsUp : GoodIn wsX7_aboutSolid (wsV RX7 194 RX6 yX6_pointsUp wsX6_pointsUp) := goodIn_app (goodIn_of _ (by decide +kernel)) ggX7_aboutSolid_X6_pointsUp
set_option maxRecDepth 20000 in
theorem ggX7_roll_X7_refuse : GoodIn wsX7_roll wsX7_refuse := goodIn_r _ [7, 8, 110, 111, 112, 113, 114, 115, 116, 117, 118] (by decide +kernel) (by decide +kernel)
set_option maxRecDepth 20000 in
theorem gX7_roll_X7_refuse : GoodIn wsX7_roll (wsV RX7 75 RX7 yX7_refuse wsX7_refuse) := goodIn_app (goodIn_of _ (by decide +kernel)) ggX7_roll_X7_refuse
set_option maxRecDepth 20000 in
theorem ggX7_roll_X6_isNone : GoodIn wsX7_roll wsX6_isNone := goodIn_r _ [13, 14, 119, 120, 121, 122, 123, 124, 125, 126, 127] (by decide +kernel) (by decide +kernel)
set_option maxRecDepth 20000 in
theorem gX7_roll_X6_isNone : GoodIn wsX7_roll (wsV RX7 154 RX6 yX6_isNone wsX6_isNone) := goodIn_app (goodIn_of _ (by decide +kernel)) ggX7_roll_X6_isNone
set_option maxRecDepth 20000 in
theorem ggX7_roll_X7_rollTruly : GoodIn wsX7_roll wsX7_rollTruly := goodIn_r _ [18, 1, 2, 19, 20, 21, 22, 23, 12, 24, 25, 26, 27, 28, 6, 29, 30, 31, 32, 33, 34, 35, 36, 37, 38, 39, 40, 41, 42, 43, 44, 45, 46, 47, 48, 49, 50, 51, 52, 53, 54, 55, 56, 57, 58, 59, 60, 61, 62, 63, 64, 65, 66, 67, 68, 69, 70, 71, 72, 73, 74, 75, 76, 77, 78, 79, 80, 81, 82, 83, 84, 85, 86, 87, 88, 89, 90, 91, 92, 93, 14, 94, 95, 96, 97, 98, 99, 100, 101, 102, 103, 104, 105, 106, 107, 108, 110, 111, 112, 113, 114, 115, 116, 117, 118, 119, 120, 121, 122, 123, 124, 125, 126, 127, 128, 129, 130, 131, 132, 133, 134, 135, 136, 137] (by decide +kernel) (by decide +kernel)
set_option maxRecDepth 20000 in
theorem gX7_roll_X7_rollTruly : GoodIn wsX7_roll (wsV RX7 197 RX7 yX7_rollTruly wsX7_rollTruly) := goodIn_app (goodIn_of _ (by decide +kernel)) ggX7_roll_X7_rollTruly
set_option maxRecDepth 20000 in
theorem ggX7_roll_X6_faceBelow : GoodIn wsX7_roll wsX6_faceBelow := goodIn_r _ [102, 25, 36, 26, 28, 6, 29, 103, 104, 105, 48, 106, 107, 62, 108, 119, 120, 121, 122, 123, 124, 125, 126, 127, 128, 129, 130, 131, 132, 133] (by decide +kernel) (by decide +kernel)
set_option maxRecDepth 20000 in
theorem gX7_roll_X6_faceBelow : GoodIn wsX7_roll (wsV RX7 172 RX6 yX6_faceBelow wsX6_faceBelow) := goodIn_app (goodIn_of _ (by decide +kernel)) ggX7_roll_X6_faceBelow
set_option maxRecDepth 20000 in
theorem ggX7_rollTruly_X6_rolled : GoodIn wsX7_rollTruly wsX6_rolled := goodIn_r _ [9, 10, 11, 12, 13, 14, 15, 16, 17, 18, 8, 19, 20, 21, 22, 23, 24, 25, 26, 27, 28, 29, 30, 31, 32, 33, 34, 35, 36, 37, 38, 39, 40, 41, 42, 43, 44, 45, 46, 47, 48, 49, 50, 51, 52, 53, 54, 55, 56, 105, 106, 107, 108, 109, 110, 111, 112, 113, 114, 115, 116, 117, 118, 119] (by decide +kernel) (by decide +kernel)
set_option maxRecDepth 20000 in
theorem gX7_rollTruly_X6_rolled : GoodIn wsX7_rollTruly (wsV RX7 200 RX6 yX6_rolled wsX6_rolled) := goodIn_app (goodIn_of _ (by decide +kernel)) ggX7_rollTruly_X6_rolled
set_option maxRecDepth 20000 in
theorem ggX7_rollTruly_X0_keep : GoodIn wsX7_rollTruly wsX0_keep := goodIn_r _ [61, 62, 63, 64, 65, 66, 67, 68, 69, 70, 71, 72, 73, 74, 75, 120, 121, 122, 123, 105, 106, 107, 108, 109, 110, 111, 112, 113] (by decide +kernel) (by decide +kernel)
set_option maxRecDepth 20000 in
theorem gX7_rollTruly_X0_keep : GoodIn wsX7_rollTruly (wsV RX7 204 RX0 yX0_keep wsX0_keep) := goodIn_app (goodIn_of _ (by decide +kernel)) ggX7_rollTruly_X0_keep
set_option maxRecDepth 20000 in
theorem ggX7_rollTruly_X6_printBelow : GoodIn wsX7_rollTruly wsX6_printBelow := goodIn_r _ [79, 80, 21, 81, 82, 83, 8, 84, 10, 85, 12, 13, 14, 15, 37, 38, 39, 40, 11, 41, 42, 43, 44, 45, 34, 46, 47, 48, 86, 87, 88, 89, 22, 90, 91, 92, 93, 94, 95, 105, 106, 107, 108, 109, 110, 111, 112, 113, 114, 115, 116, 117, 118, 119] (by decide +kernel) (by decide +kernel)
set_option maxRecDepth 20000 in
theorem gX7_rollTruly_X6_printBelow : GoodIn wsX7_rollTruly (wsV RX7 208 RX6 yX6_printBelow wsX6_printBelow) := goodIn_app (goodIn_of _ (by decide +kernel)) ggX7_rollTruly_X6_printBelow
set_option maxRecDepth 20000 in
theorem ggX7_ways_X6_isNone : GoodIn wsX7_ways wsX6_isNone := goodIn_r _ [7, 8, 74, 75, 76, 77, 78, 79, 80, 81, 82] (by decide +kernel) (by decide +kernel)
set_option maxRecDepth 20000 in
theorem gX7_ways_X6_isNone : GoodIn wsX7_ways (wsV RX7 154 RX6 yX6_isNone wsX6_isNone) := goodIn_app (goodIn_of _ (by decide +kernel)) ggX7_ways_X6_isNone
set_option maxRecDepth 20000 in
theorem ggX7_ways_X7_refuse : GoodIn wsX7_ways wsX7_refuse := goodIn_r _ [13, 14, 65, 66, 67, 68, 69, 70, 71, 72, 73] (by decide +kernel) (by decide +kernel)
set_option maxRecDepth 20000 in
theorem gX7_ways_X7_refuse : GoodIn wsX7_ways (wsV RX7 75 RX7 yX7_refuse wsX7_refuse) := goodIn_app (goodIn_of _ (by decide +kernel)) ggX7_ways_X7_refuse
set_option maxRecDepth 20000 in
theorem ggX7_ways_X6_rolled : GoodIn wsX7_ways wsX6_rolled := goodIn_r _ [18, 19, 20, 21, 22, 12, 23, 24, 25, 26, 6, 27, 28, 29, 30, 31, 32, 33, 34, 35, 36, 37, 38, 39, 40, 41, 42, 43, 44, 45, 46, 47, 48, 49, 50, 51, 52, 53, 54, 55, 56, 57, 58, 59, 60, 61, 62, 63, 64, 74, 75, 76, 77, 78, 79, 80, 81, 82, 83, 84, 85, 86, 87, 88] (by decide +kernel) (by decide +kernel)
set_option maxRecDepth 20000 in
theorem gX7_ways_X6_rolled : GoodIn wsX7_ways (wsV RX7 200 RX6 yX6_rolled wsX6_rolled) := goodIn_app (goodIn_of _ (by decide +kernel)) ggX7_ways_X6_rolled
set_option maxRecDepth 20000 in
theorem ggX7_walks_X6_isNone : GoodIn wsX7_walks wsX6_isNone := goodIn_r _ [8, 9, 133, 134, 135, 136, 137, 138, 139, 140, 141] (by decide +kernel) (by decide +kernel)
set_option maxRecDepth 20000 in
theorem gX7_walks_X6_isNone : GoodIn wsX7_walks (wsV RX7 154 RX6 yX6_isNone wsX6_isNone) := goodIn_app (goodIn_of _ (by decide +kernel)) ggX7_walks_X6_isNone
set_option maxRecDepth 20000 in
theorem ggX7_walks_X7_refuse : GoodIn wsX7_walks wsX7_refuse := goodIn_r _ [14, 15, 122, 123, 124, 125, 126, 127, 128, 129, 130] (by decide +kernel) (by decide +kernel)
set_option maxRecDepth 20000 in
theorem gX7_walks_X7_refuse : GoodIn wsX7_walks (wsV RX7 75 RX7 yX7_refuse wsX7_refuse) := goodIn_app (goodIn_of _ (by decide +kernel)) ggX7_walks_X7_refuse
set_option maxRecDepth 20000 in
theorem ggX7_walks_X1_wayAt : GoodIn wsX7_walks wsX1_wayAt := goodIn_r _ [20, 21, 131, 132] (by decide +kernel) (by decide +kernel)
set_option maxRecDepth 20000 in
theorem gX7_walks_X1_wayAt : GoodIn wsX7_walks (wsV RX7 211 RX1 yX1_wayAt wsX1_wayAt) := goodIn_app (goodIn_of _ (by decide +kernel)) ggX7_walks_X1_wayAt
set_option maxRecDepth 20000 in
theorem ggX7_walks_X7_rollTruly : GoodIn wsX7_walks wsX7_rollTruly := goodIn_r _ [25, 1, 26, 27, 28, 29, 30, 31, 7, 32, 33, 34, 35, 36, 13, 37, 38, 39, 40, 41, 42, 43, 44, 45, 46, 47, 48, 49, 50, 51, 52, 53, 54, 55, 56, 57, 58, 59, 60, 61, 62, 63, 64, 65, 66, 67, 68, 69, 70, 71, 72, 73, 74, 75, 76, 77, 78, 79, 80, 81, 82, 83, 84, 85, 86, 87, 88, 89, 90, 91, 92, 93, 94, 95, 96, 97, 98, 99, 100, 101, 9, 102, 103, 104, 105, 106, 107, 108, 109, 110, 111, 112, 113, 114, 115, 116, 122, 123, 124, 125, 126, 127, 128, 129, 130, 133, 134, 135, 136, 137, 138, 139, 140, 141, 142, 143, 144, 145, 146, 147, 148, 149, 150, 151] (by decide +kernel) (by decide +kernel)
set_option maxRecDepth 20000 in
theorem gX7_walks_X7_rollTruly : GoodIn wsX7_walks (wsV RX7 197 RX7 yX7_rollTruly wsX7_rollTruly) := goodIn_app (goodIn_of _ (by decide +kernel)) ggX7_walks_X7_rollTruly
set_option maxRecDepth 20000 in
theorem ggX7_walks_X1_clear : GoodIn wsX7_walks wsX1_clear := goodIn_r _ [120, 121, 131, 132] (by decide +kernel) (by decide +kernel)
set_option maxRecDepth 20000 in
theorem gX7_walks_X1_clear : GoodIn wsX7_walks (wsV RX7 102 RX1 yX1_clear wsX1_clear) := goodIn_app (goodIn_of _ (by decide +kernel)) ggX7_walks_X1_clear
set_option maxRecDepth 20000 in
theorem ggX7_judge_X6_isNone : GoodIn wsX7_judge wsX6_isNone := goodIn_r _ [9, 10, 82, 83, 84, 85, 86, 87, 88, 89, 90] (by decide +kernel) (by decide +kernel)
set_option maxRecDepth 20000 in
theorem gX7_judge_X6_isNone : GoodIn wsX7_judge (wsV RX7 154 RX6 yX6_isNone wsX6_isNone) := goodIn_app (goodIn_of _ (by decide +kernel)) ggX7_judge_X6_isNone
set_option maxRecDepth 20000 in
theorem ggX7_judge_X7_refuse : GoodIn wsX7_judge wsX7_refuse := goodIn_r _ [15, 16, 73, 74, 75, 76, 77, 78, 79, 80, 81] (by decide +kernel) (by decide +kernel)
set_option maxRecDepth 20000 in
theorem gX7_judge_X7_refuse : GoodIn wsX7_judge (wsV RX7 75 RX7 yX7_refuse wsX7_refuse) := goodIn_app (goodIn_of _ (by decide +kernel)) ggX7_judge_X7_refuse
set_option maxRecDepth 20000 in
theorem ggX7_judge_X1_wayAt : GoodIn wsX7_judge wsX1_wayAt := goodIn_r _ [21, 22, 91, 92] (by decide +kernel) (by decide +kernel)
set_option maxRecDepth 20000 in
theorem gX7_judge_X1_wayAt : GoodIn wsX7_judge (wsV RX7 211 RX1 yX1_wayAt wsX1_wayAt) := goodIn_app (goodIn_of _ (by decide +kernel)) ggX7_judge_X1_wayAt
set_option maxRecDepth 20000 in
theorem ggX7_judge_X6_rolled : GoodIn wsX7_judge wsX6_rolled := goodIn_r _ [26, 27, 28, 29, 30, 14, 31, 32, 33, 34, 8, 35, 36, 37, 38, 39, 40, 41, 42, 43, 44, 45, 46, 47, 48, 49, 50, 51, 52, 53, 54, 55, 56, 57, 58, 59, 60, 61, 62, 63, 64, 65, 66, 67, 68, 69, 70, 71, 72, 82, 83, 84, 85, 86, 87, 88, 89, 90, 93, 94, 95, 96, 97, 98] (by decide +kernel) (by decide +kernel)
set_option maxRecDepth 20000 in
theorem gX7_judge_X6_rolled : GoodIn wsX7_judge (wsV RX7 200 RX6 yX6_rolled wsX6_rolled) := goodIn_app (goodIn_of _ (by decide +kernel)) ggX7_judge_X6_rolled
set_option maxRecDepth 20000 in
theorem ggX7_undo_X7_refuse : GoodIn wsX7_undo wsX7_refuse := goodIn_r _ [8, 9, 25, 26, 27, 28, 29, 30, 31, 32, 33] (by decide +kernel) (by decide +kernel)
set_option maxRecDepth 20000 in
theorem gX7_undo_X7_refuse : GoodIn wsX7_undo (wsV RX7 75 RX7 yX7_refuse wsX7_refuse) := goodIn_app (goodIn_of _ (by decide +kernel)) ggX7_undo_X7_refuse
set_option maxRecDepth 20000 in
theorem ggX7_undo_X0_bringBack : GoodIn wsX7_undo wsX0_bringBack := goodIn_r _ [14, 15, 16, 17, 18, 19, 20, 21, 22, 23, 24, 34, 35, 36, 37, 38, 39, 40, 41, 42, 43, 44, 45, 46] (by decide +kernel) (by decide +kernel)
set_option maxRecDepth 20000 in
theorem gX7_undo_X0_bringBack : GoodIn wsX7_undo (wsV RX7 215 RX0 yX0_bringBack wsX0_bringBack) := goodIn_app (goodIn_of _ (by decide +kernel)) ggX7_undo_X0_bringBack
set_option maxRecDepth 20000 in
theorem ggX7_reached_X7_refuse : GoodIn wsX7_reached wsX7_refuse := goodIn_r _ [8, 9, 116, 117, 118, 119, 120, 121, 122, 123, 124] (by decide +kernel) (by decide +kernel)
set_option maxRecDepth 20000 in
theorem gX7_reached_X7_refuse : GoodIn wsX7_reached (wsV RX7 75 RX7 yX7_refuse wsX7_refuse) := goodIn_app (goodIn_of _ (by decide +kernel)) ggX7_reached_X7_refuse
set_option maxRecDepth 20000 in
theorem ggX7_reached_X6_isNone : GoodIn wsX7_reached wsX6_isNone := goodIn_r _ [14, 15, 133, 134, 135, 136, 137, 138, 139, 140, 141] (by decide +kernel) (by decide +kernel)
set_option maxRecDepth 20000 in
theorem gX7_reached_X6_isNone : GoodIn wsX7_reached (wsV RX7 154 RX6 yX6_isNone wsX6_isNone) := goodIn_app (goodIn_of _ (by decide +kernel)) ggX7_reached_X6_isNone
set_option maxRecDepth 20000 in
theorem ggX7_reached_X4_hasEven : GoodIn wsX7_reached wsX4_hasEven := goodIn_r _ [20, 21, 22, 23, 24, 25, 26, 27, 28, 29, 30, 31, 13, 32, 33, 34, 35, 36, 7, 37, 38, 39, 40, 41, 42, 43, 44, 45, 46, 47, 48, 49, 50, 51, 52, 53, 54, 55, 56, 57, 58, 59, 60, 61, 62, 63, 64, 65, 66, 67, 68, 69, 70, 71, 72, 73, 74, 75, 76, 77, 78, 125, 126, 127, 128, 129, 130, 131, 132, 133, 134, 135, 136, 137, 138, 139, 140, 141, 142, 143, 144, 145, 146, 147] (by decide +kernel) (by decide +kernel)
set_option maxRecDepth 20000 in
theorem gX7_reached_X4_hasEven : GoodIn wsX7_reached (wsV RX7 218 RX4 yX4_hasEven wsX4_hasEven) := goodIn_app (goodIn_of _ (by decide +kernel)) ggX7_reached_X4_hasEven
set_option maxRecDepth 20000 in
theorem ggX7_reached_X4_floodAll : GoodIn wsX7_reached wsX4_floodAll := goodIn_r _ [82, 83, 84, 85, 19, 86, 87, 24, 22, 23, 25, 26, 27, 28, 88, 89, 90, 91, 92, 93, 94, 95, 96, 13, 97, 59, 60, 61, 62, 33, 34, 63, 7, 64, 65, 66, 67, 56, 68, 69, 70, 98, 99, 100, 101, 44, 36, 37, 102, 103, 104, 105, 106, 107, 29, 30, 31, 32, 35, 38, 39, 40, 41, 42, 43, 45, 46, 47, 48, 49, 50, 51, 52, 53, 54, 55, 57, 58, 71, 72, 73, 74, 75, 76, 77, 78, 125, 126, 127, 128, 129, 130, 131, 132, 133, 134, 135, 136, 137, 138, 139, 140, 141, 142, 143, 144, 145, 146, 147] (by decide +kernel) (by decide +kernel)
set_option maxRecDepth 20000 in
theorem gX7_reached_X4_floodAll : GoodIn wsX7_reached (wsV RX7 222 RX4 yX4_floodAll wsX4_floodAll) := goodIn_app (goodIn_of _ (by decide +kernel)) ggX7_reached_X4_floodAll
set_option maxRecDepth 20000 in
theorem ggX7_reached_X4_countPlaces : GoodIn wsX7_reached wsX4_countPlaces := goodIn_r _ [111, 21, 24, 23, 25, 26, 27, 28, 125, 126, 127, 128, 129, 130, 131, 132] (by decide +kernel) (by decide +kernel)
set_option maxRecDepth 20000 in
theorem gX7_reached_X4_countPlaces : GoodIn wsX7_reached (wsV RX7 226 RX4 yX4_countPlaces wsX4_countPlaces) := goodIn_app (goodIn_of _ (by decide +kernel)) ggX7_reached_X4_countPlaces
set_option maxRecDepth 20000 in
theorem ggX7_reached_X4_farthest : GoodIn wsX7_reached wsX4_farthest := goodIn_r _ [115, 24, 87, 23, 125, 126, 127, 128, 129, 130, 131, 132] (by decide +kernel) (by decide +kernel)
set_option maxRecDepth 20000 in
theorem gX7_reached_X4_farthest : GoodIn wsX7_reached (wsV RX7 229 RX4 yX4_farthest wsX4_farthest) := goodIn_app (goodIn_of _ (by decide +kernel)) ggX7_reached_X4_farthest
set_option maxRecDepth 20000 in
theorem ggX7_soonest_X7_isGoal : GoodIn wsX7_soonest wsX7_isGoal := goodIn_r _ [8, 1, 9, 10, 11, 12, 13, 14, 15, 7, 16, 17, 18, 19, 20, 21, 22, 23, 24, 25, 26, 27, 28, 29, 30, 31, 32, 33, 34, 121, 122, 123, 124, 125, 126, 127, 128, 129, 138, 139, 140, 141, 142, 143, 144, 145, 146, 147, 148, 149, 150, 151, 152] (by decide +kernel) (by decide +kernel)
set_option maxRecDepth 20000 in
theorem gX7_soonest_X7_isGoal : GoodIn wsX7_soonest (wsV RX7 232 RX7 yX7_isGoal wsX7_isGoal) := goodIn_app (goodIn_of _ (by decide +kernel)) ggX7_soonest_X7_isGoal
set_option maxRecDepth 20000 in
theorem ggX7_soonest_X7_refuse : GoodIn wsX7_soonest wsX7_refuse := goodIn_r _ [38, 39, 121, 122, 123, 124, 125, 126, 127, 128, 129] (by decide +kernel) (by decide +kernel)
set_option maxRecDepth 20000 in
theorem gX7_soonest_X7_refuse : GoodIn wsX7_soonest (wsV RX7 75 RX7 yX7_refuse wsX7_refuse) := goodIn_app (goodIn_of _ (by decide +kernel)) ggX7_soonest_X7_refuse
set_option maxRecDepth 20000 in
theorem ggX7_soonest_X6_isNone : GoodIn wsX7_soonest wsX6_isNone := goodIn_r _ [43, 44, 138, 139, 140, 141, 142, 143, 144, 145, 146] (by decide +kernel) (by decide +kernel)
set_option maxRecDepth 20000 in
theorem gX7_soonest_X6_isNone : GoodIn wsX7_soonest (wsV RX7 154 RX6 yX6_isNone wsX6_isNone) := goodIn_app (goodIn_of _ (by decide +kernel)) ggX7_soonest_X6_isNone
set_option maxRecDepth 20000 in
theorem ggX7_soonest_X4_floodTo : GoodIn wsX7_soonest wsX4_floodTo := goodIn_r _ [49, 50, 51, 52, 53, 54, 55, 56, 57, 58, 59, 60, 48, 61, 62, 63, 64, 65, 66, 13, 67, 68, 69, 70, 71, 32, 34, 72, 7, 73, 74, 75, 76, 77, 78, 79, 80, 81, 82, 83, 84, 33, 15, 16, 85, 86, 87, 88, 89, 90, 91, 92, 93, 94, 22, 95, 96, 97, 98, 21, 99, 100, 101, 102, 103, 104, 105, 106, 107, 108, 109, 110, 111, 112, 113, 114, 115, 116, 117, 118, 119, 120, 130, 131, 132, 133, 134, 135, 136, 137, 138, 139, 140, 141, 142, 143, 144, 145, 146, 147, 148, 149, 150, 151, 152] (by decide +kernel) (by decide +kernel)
set_option maxRecDepth 20000 in
theorem gX7_soonest_X4_floodTo : GoodIn wsX7_soonest (wsV RX7 235 RX4 yX4_floodTo wsX4_floodTo) := goodIn_app (goodIn_of _ (by decide +kernel)) ggX7_soonest_X4_floodTo
set_option maxRecDepth 20000 in
theorem ggX7_walk_X7_isGoal : GoodIn wsX7_walk wsX7_isGoal := goodIn_r _ [8, 1, 9, 10, 11, 12, 13, 14, 15, 7, 16, 17, 18, 19, 20, 21, 22, 23, 24, 25, 26, 27, 28, 29, 30, 31, 32, 33, 34, 125, 126, 127, 128, 129, 130, 131, 132, 133, 142, 143, 144, 145, 146, 147, 148, 149, 150, 151, 152, 153, 154, 155, 156] (by decide +kernel) (by decide +kernel)
set_option maxRecDepth 20000 in
theorem gX7_walk_X7_isGoal : GoodIn wsX7_walk (wsV RX7 232 RX7 yX7_isGoal wsX7_isGoal) := goodIn_app (goodIn_of _ (by decide +kernel)) ggX7_walk_X7_isGoal
set_option maxRecDepth 20000 in
theorem ggX7_walk_X7_refuse : GoodIn wsX7_walk wsX7_refuse := goodIn_r _ [38, 39, 125, 126, 127, 128, 129, 130, 131, 132, 133] (by decide +kernel) (by decide +kernel)
set_option maxRecDepth 20000 in
theorem gX7_walk_X7_refuse : GoodIn wsX7_walk (wsV RX7 75 RX7 yX7_refuse wsX7_refuse) := goodIn_app (goodIn_of _ (by decide +kernel)) ggX7_walk_X7_refuse
set_option maxRecDepth 20000 in
theorem ggX7_walk_X6_isNone : GoodIn wsX7_walk wsX6_isNone := goodIn_r _ [43, 44, 142, 143, 144, 145, 146, 147, 148, 149, 150] (by decide +kernel) (by decide +kernel)
set_option maxRecDepth 20000 in
theorem gX7_walk_X6_isNone : GoodIn wsX7_walk (wsV RX7 154 RX6 yX6_isNone wsX6_isNone) := goodIn_app (goodIn_of _ (by decide +kernel)) ggX7_walk_X6_isNone
set_option maxRecDepth 20000 in
theorem ggX7_walk_X4_floodTo : GoodIn wsX7_walk wsX4_floodTo := goodIn_r _ [49, 50, 51, 52, 53, 54, 55, 56, 57, 58, 59, 60, 48, 61, 62, 63, 64, 65, 66, 13, 67, 68, 69, 70, 71, 32, 34, 72, 7, 73, 74, 75, 76, 77, 78, 79, 80, 81, 82, 83, 84, 33, 15, 16, 85, 86, 87, 88, 89, 90, 91, 92, 93, 94, 22, 95, 96, 97, 98, 21, 99, 100, 101, 102, 103, 104, 105, 106, 107, 108, 109, 110, 111, 112, 113, 114, 115, 116, 117, 118, 119, 120, 134, 135, 136, 137, 138, 139, 140, 141, 142, 143, 144, 145, 146, 147, 148, 149, 150, 151, 152, 153, 154, 155, 156] (by decide +kernel) (by decide +kernel)
set_option maxRecDepth 20000 in
theorem gX7_walk_X4_floodTo : GoodIn wsX7_walk (wsV RX7 235 RX4 yX4_floodTo wsX4_floodTo) := goodIn_app (goodIn_of _ (by decide +kernel)) ggX7_walk_X4_floodTo
set_option maxRecDepth 20000 in
theorem ggX7_walk_X4_wayToward : GoodIn wsX7_walk wsX4_wayToward := goodIn_r _ [124, 50, 62, 63, 134, 135, 136, 137, 138, 139, 140, 141] (by decide +kernel) (by decide +kernel)
set_option maxRecDepth 20000 in
theorem gX7_walk_X4_wayToward : GoodIn wsX7_walk (wsV RX7 242 RX4 yX4_wayToward wsX4_wayToward) := goodIn_app (goodIn_of _ (by decide +kernel)) ggX7_walk_X4_wayToward
set_option maxRecDepth 20000 in
theorem ggX7_faces_X6_hasPlace : GoodIn wsX7_faces wsX6_hasPlace := goodIn_r _ [8, 9, 10, 11, 12, 13, 14, 7, 15, 16, 17, 125, 126, 127, 128, 129, 130, 131, 132, 133] (by decide +kernel) (by decide +kernel)
set_option maxRecDepth 20000 in
theorem gX7_faces_X6_hasPlace : GoodIn wsX7_faces (wsV RX7 127 RX6 yX6_hasPlace wsX6_hasPlace) := goodIn_app (goodIn_of _ (by decide +kernel)) ggX7_faces_X6_hasPlace
set_option maxRecDepth 20000 in
theorem ggX7_faces_X7_refuse : GoodIn wsX7_faces wsX7_refuse := goodIn_r _ [21, 22, 116, 117, 118, 119, 120, 121, 122, 123, 124] (by decide +kernel) (by decide +kernel)
set_option maxRecDepth 20000 in
theorem gX7_faces_X7_refuse : GoodIn wsX7_faces (wsV RX7 75 RX7 yX7_refuse wsX7_refuse) := goodIn_app (goodIn_of _ (by decide +kernel)) ggX7_faces_X7_refuse
set_option maxRecDepth 20000 in
theorem ggX7_faces_X6_isNone : GoodIn wsX7_faces wsX6_isNone := goodIn_r _ [26, 27, 125, 126, 127, 128, 129, 130, 131, 132, 133] (by decide +kernel) (by decide +kernel)
set_option maxRecDepth 20000 in
theorem gX7_faces_X6_isNone : GoodIn wsX7_faces (wsV RX7 154 RX6 yX6_isNone wsX6_isNone) := goodIn_app (goodIn_of _ (by decide +kernel)) ggX7_faces_X6_isNone
set_option maxRecDepth 20000 in
theorem ggX7_faces_X4_floodAll : GoodIn wsX7_faces wsX4_floodAll := goodIn_r _ [32, 33, 34, 35, 31, 36, 37, 38, 39, 40, 41, 42, 43, 44, 45, 46, 47, 48, 49, 50, 51, 52, 53, 7, 54, 55, 56, 57, 58, 59, 60, 61, 10, 62, 63, 64, 65, 66, 67, 68, 69, 70, 71, 72, 73, 74, 9, 11, 75, 76, 77, 78, 79, 80, 81, 82, 83, 84, 17, 85, 86, 87, 88, 16, 89, 90, 91, 92, 93, 94, 95, 96, 97, 98, 99, 100, 101, 102, 103, 104, 105, 106, 107, 108, 109, 110, 134, 135, 136, 137, 138, 139, 140, 141, 125, 126, 127, 128, 129, 130, 131, 132, 133, 142, 143, 144, 145, 146, 147] (by decide +kernel) (by decide +kernel)
set_option maxRecDepth 20000 in
theorem gX7_faces_X4_floodAll : GoodIn wsX7_faces (wsV RX7 222 RX4 yX4_floodAll wsX4_floodAll) := goodIn_app (goodIn_of _ (by decide +kernel)) ggX7_faces_X4_floodAll
set_option maxRecDepth 20000 in
theorem ggX7_faces_X4_facesAt : GoodIn wsX7_faces wsX4_facesAt := goodIn_r _ [114, 38, 40, 115, 71, 72, 7, 73, 59, 74, 60, 9, 10, 11, 75, 76, 77, 66, 78, 79, 69, 80, 134, 135, 136, 137, 138, 139, 140, 141, 125, 126, 127, 128, 129, 130, 131, 132, 133, 142, 143, 144, 145, 146, 147] (by decide +kernel) (by decide +kernel)
set_option maxRecDepth 20000 in
theorem gX7_faces_X4_facesAt : GoodIn wsX7_faces (wsV RX7 245 RX4 yX4_facesAt wsX4_facesAt) := goodIn_app (goodIn_of _ (by decide +kernel)) ggX7_faces_X4_facesAt
set_option maxRecDepth 20000 in
theorem ggX7_fill_X7_refuse : GoodIn wsX7_fill wsX7_refuse := goodIn_r _ [7, 8, 116, 117, 118, 119, 120, 121, 122, 123, 124] (by decide +kernel) (by decide +kernel)
set_option maxRecDepth 20000 in
theorem gX7_fill_X7_refuse : GoodIn wsX7_fill (wsV RX7 75 RX7 yX7_refuse wsX7_refuse) := goodIn_app (goodIn_of _ (by decide +kernel)) ggX7_fill_X7_refuse
set_option maxRecDepth 20000 in
theorem ggX7_fill_X6_isNone : GoodIn wsX7_fill wsX6_isNone := goodIn_r _ [13, 14, 125, 126, 127, 128, 129, 130, 131, 132, 133] (by decide +kernel) (by decide +kernel)
set_option maxRecDepth 20000 in
theorem gX7_fill_X6_isNone : GoodIn wsX7_fill (wsV RX7 154 RX6 yX6_isNone wsX6_isNone) := goodIn_app (goodIn_of _ (by decide +kernel)) ggX7_fill_X6_isNone
set_option maxRecDepth 20000 in
theorem ggX7_fill_X4_bestFilled : GoodIn wsX7_fill wsX4_bestFilled := goodIn_r _ [19, 20, 21, 22, 23, 24, 18, 25, 26, 27, 28, 29, 30, 31, 32, 33, 34, 35, 36, 37, 38, 39, 40, 41, 42, 43, 44, 45, 12, 46, 47, 48, 49, 50, 51, 52, 53, 6, 54, 55, 56, 57, 58, 59, 60, 61, 62, 63, 64, 65, 66, 67, 68, 69, 70, 71, 72, 73, 74, 75, 76, 77, 78, 79, 80, 81, 82, 83, 84, 85, 86, 87, 88, 89, 90, 91, 92, 93, 94, 95, 96, 97, 98, 99, 100, 101, 102, 103, 104, 105, 106, 107, 108, 109, 110, 111, 112, 113, 114, 134, 135, 136, 137, 138, 139, 140, 141, 125, 126, 127, 128, 129, 130, 131, 132, 133, 142, 143, 144, 145, 146, 147] (by decide +kernel) (by decide +kernel)
set_option maxRecDepth 20000 in
theorem gX7_fill_X4_bestFilled : GoodIn wsX7_fill (wsV RX7 249 RX4 yX4_bestFilled wsX4_bestFilled) := goodIn_app (goodIn_of _ (by decide +kernel)) ggX7_fill_X4_bestFilled
set_option maxRecDepth 20000 in
theorem ggX7_fill_X4_statesFilled : GoodIn wsX7_fill wsX4_statesFilled := goodIn_r _ [114, 21, 20, 26, 27, 28, 18, 29, 30, 31, 32, 33, 34, 35, 36, 37, 38, 39, 40, 41, 42, 43, 44, 45, 12, 46, 47, 48, 49, 50, 51, 52, 53, 6, 54, 55, 56, 57, 58, 59, 60, 61, 62, 63, 64, 65, 66, 67, 68, 69, 70, 71, 72, 73, 74, 75, 76, 77, 78, 79, 80, 81, 82, 83, 84, 85, 86, 87, 88, 89, 90, 91, 92, 93, 94, 95, 96, 97, 98, 99, 100, 101, 102, 103, 104, 105, 106, 125, 126, 127, 128, 129, 130, 131, 132, 133, 134, 135, 136, 137, 138, 139, 140, 141, 142, 143, 144, 145, 146, 147] (by decide +kernel) (by decide +kernel)
set_option maxRecDepth 20000 in
theorem gX7_fill_X4_statesFilled : GoodIn wsX7_fill (wsV RX7 253 RX4 yX4_statesFilled wsX4_statesFilled) := goodIn_app (goodIn_of _ (by decide +kernel)) ggX7_fill_X4_statesFilled
set_option maxRecDepth 20000 in
theorem ggX7_needed_X6_hasPlace : GoodIn wsX7_needed wsX6_hasPlace := goodIn_r _ [8, 9, 10, 11, 12, 13, 14, 7, 15, 16, 17, 141, 142, 143, 144, 145, 146, 147, 148, 149] (by decide +kernel) (by decide +kernel)
set_option maxRecDepth 20000 in
theorem gX7_needed_X6_hasPlace : GoodIn wsX7_needed (wsV RX7 127 RX6 yX6_hasPlace wsX6_hasPlace) := goodIn_app (goodIn_of _ (by decide +kernel)) ggX7_needed_X6_hasPlace
set_option maxRecDepth 20000 in
theorem ggX7_needed_X7_refuseLong : GoodIn wsX7_needed wsX7_refuseLong := goodIn_r _ [21, 22, 23, 24, 25, 10, 26, 27, 132, 133, 134, 135, 136, 137, 138, 139, 140] (by decide +kernel) (by decide +kernel)
set_option maxRecDepth 20000 in
theorem gX7_needed_X7_refuseLong : GoodIn wsX7_needed (wsV RX7 256 RX7 yX7_refuseLong wsX7_refuseLong) := goodIn_app (goodIn_of _ (by decide +kernel)) ggX7_needed_X7_refuseLong
set_option maxRecDepth 20000 in
theorem ggX7_needed_X6_isNone : GoodIn wsX7_needed wsX6_isNone := goodIn_r _ [31, 32, 141, 142, 143, 144, 145, 146, 147, 148, 149] (by decide +kernel) (by decide +kernel)
set_option maxRecDepth 20000 in
theorem gX7_needed_X6_isNone : GoodIn wsX7_needed (wsV RX7 154 RX6 yX6_isNone wsX6_isNone) := goodIn_app (goodIn_of _ (by decide +kernel)) ggX7_needed_X6_isNone
set_option maxRecDepth 20000 in
theorem ggX7_needed_X4_tilesNeeded : GoodIn wsX7_needed wsX4_tilesNeeded := goodIn_r _ [37, 38, 39, 40, 41, 42, 43, 36, 44, 45, 46, 47, 48, 49, 50, 51, 52, 53, 54, 55, 56, 57, 58, 59, 7, 60, 61, 62, 63, 64, 65, 66, 67, 10, 68, 69, 70, 71, 72, 73, 74, 75, 76, 77, 78, 79, 80, 9, 11, 81, 82, 83, 84, 85, 86, 87, 88, 89, 90, 17, 91, 92, 93, 94, 16, 95, 96, 97, 98, 99, 100, 101, 102, 103, 104, 105, 106, 107, 108, 109, 110, 111, 112, 113, 114, 115, 116, 117, 118, 119, 120, 121, 122, 123, 124, 125, 126, 13, 14, 15, 127, 128, 129, 130, 131, 150, 151, 152, 153, 154, 155, 156, 157, 141, 142, 143, 144, 145, 146, 147, 148, 149, 158, 159, 160, 161, 162, 163] (by decide +kernel) (by decide +kernel)
set_option maxRecDepth 20000 in
theorem gX7_needed_X4_tilesNeeded : GoodIn wsX7_needed (wsV RX7 259 RX4 yX4_tilesNeeded wsX4_tilesNeeded) := goodIn_app (goodIn_of _ (by decide +kernel)) ggX7_needed_X4_tilesNeeded
set_option maxRecDepth 20000 in
theorem ggX7_paint_X6_hasTile : GoodIn wsX7_paint wsX6_hasTile := goodIn_r _ [8, 9, 10, 11, 7, 12, 13, 14, 139, 140, 141, 142, 143, 144, 145, 146, 147] (by decide +kernel) (by decide +kernel)
set_option maxRecDepth 20000 in
theorem gX7_paint_X6_hasTile : GoodIn wsX7_paint (wsV RX7 108 RX6 yX6_hasTile wsX6_hasTile) := goodIn_app (goodIn_of _ (by decide +kernel)) ggX7_paint_X6_hasTile
set_option maxRecDepth 20000 in
theorem ggX7_paint_X7_isFace : GoodIn wsX7_paint wsX7_isFace := goodIn_r _ [19, 1, 20, 21, 22, 23, 7, 24, 25, 26, 27, 28, 18, 29, 130, 131, 132, 133, 134, 135, 136, 137, 138, 148, 149, 150, 151, 152, 153, 139, 140, 141, 142, 143, 144, 145, 146, 147] (by decide +kernel) (by decide +kernel)
set_option maxRecDepth 20000 in
theorem gX7_paint_X7_isFace : GoodIn wsX7_paint (wsV RX7 263 RX7 yX7_isFace wsX7_isFace) := goodIn_app (goodIn_of _ (by decide +kernel)) ggX7_paint_X7_isFace
set_option maxRecDepth 20000 in
theorem ggX7_paint_X7_refuse : GoodIn wsX7_paint wsX7_refuse := goodIn_r _ [33, 34, 130, 131, 132, 133, 134, 135, 136, 137, 138] (by decide +kernel) (by decide +kernel)
set_option maxRecDepth 20000 in
theorem gX7_paint_X7_refuse : GoodIn wsX7_paint (wsV RX7 75 RX7 yX7_refuse wsX7_refuse) := goodIn_app (goodIn_of _ (by decide +kernel)) ggX7_paint_X7_refuse
set_option maxRecDepth 20000 in
theorem ggX7_paint_X6_isNone : GoodIn wsX7_paint wsX6_isNone := goodIn_r _ [38, 39, 139, 140, 141, 142, 143, 144, 145, 146, 147] (by decide +kernel) (by decide +kernel)
set_option maxRecDepth 20000 in
theorem gX7_paint_X6_isNone : GoodIn wsX7_paint (wsV RX7 154 RX6 yX6_isNone wsX6_isNone) := goodIn_app (goodIn_of _ (by decide +kernel)) ggX7_paint_X6_isNone
set_option maxRecDepth 20000 in
theorem ggX7_paint_X4_rollsToPaint : GoodIn wsX7_paint wsX4_rollsToPaint := goodIn_r _ [44, 45, 46, 47, 48, 49, 50, 43, 51, 52, 53, 54, 55, 56, 57, 58, 59, 60, 61, 62, 63, 64, 65, 66, 67, 68, 69, 7, 70, 71, 72, 73, 74, 25, 27, 75, 18, 76, 77, 78, 79, 80, 81, 82, 83, 84, 85, 86, 87, 26, 28, 29, 88, 89, 90, 91, 92, 93, 94, 95, 96, 97, 14, 98, 99, 100, 101, 13, 102, 103, 104, 105, 106, 107, 108, 109, 110, 111, 112, 113, 114, 115, 116, 117, 118, 119, 120, 121, 122, 123, 124, 125, 126, 127, 128, 129, 154, 155, 156, 157, 158, 159, 160, 161, 139, 140, 141, 142, 143, 144, 145, 146, 147, 148, 149, 150, 151, 152, 153] (by decide +kernel) (by decide +kernel)
set_option maxRecDepth 20000 in
theorem gX7_paint_X4_rollsToPaint : GoodIn wsX7_paint (wsV RX7 266 RX4 yX4_rollsToPaint wsX4_rollsToPaint) := goodIn_app (goodIn_of _ (by decide +kernel)) ggX7_paint_X4_rollsToPaint
set_option maxRecDepth 20000 in
theorem ggX7_likely_X6_hasPlace : GoodIn wsX7_likely wsX6_hasPlace := goodIn_r _ [8, 9, 10, 11, 12, 13, 14, 7, 15, 16, 17, 112, 113, 114, 115, 116, 117, 118, 119, 120] (by decide +kernel) (by decide +kernel)
set_option maxRecDepth 20000 in
theorem gX7_likely_X6_hasPlace : GoodIn wsX7_likely (wsV RX7 127 RX6 yX6_hasPlace wsX6_hasPlace) := goodIn_app (goodIn_of _ (by decide +kernel)) ggX7_likely_X6_hasPlace
set_option maxRecDepth 20000 in
theorem ggX7_likely_X7_refuseLong : GoodIn wsX7_likely wsX7_refuseLong := goodIn_r _ [21, 22, 23, 24, 25, 10, 26, 27, 103, 104, 105, 106, 107, 108, 109, 110, 111] (by decide +kernel) (by decide +kernel)
set_option maxRecDepth 20000 in
theorem gX7_likely_X7_refuseLong : GoodIn wsX7_likely (wsV RX7 256 RX7 yX7_refuseLong wsX7_refuseLong) := goodIn_app (goodIn_of _ (by decide +kernel)) ggX7_likely_X7_refuseLong
set_option maxRecDepth 20000 in
theorem ggX7_likely_X6_isNone : GoodIn wsX7_likely wsX6_isNone := goodIn_r _ [31, 32, 112, 113, 114, 115, 116, 117, 118, 119, 120] (by decide +kernel) (by decide +kernel)
set_option maxRecDepth 20000 in
theorem gX7_likely_X6_isNone : GoodIn wsX7_likely (wsV RX7 154 RX6 yX6_isNone wsX6_isNone) := goodIn_app (goodIn_of _ (by decide +kernel)) ggX7_likely_X6_isNone
set_option maxRecDepth 20000 in
theorem ggX7_likely_X4_walksEndingAt : GoodIn wsX7_likely wsX4_walksEndingAt := goodIn_r _ [37, 38, 39, 40, 41, 42, 43, 44, 45, 46, 36, 47, 48, 49, 50, 51, 52, 53, 54, 55, 7, 56, 57, 58, 17, 9, 10, 11, 59, 60, 61, 62, 16, 63, 64, 65, 66, 67, 68, 69, 70, 71, 72, 73, 74, 75, 76, 77, 78, 79, 80, 81, 82, 83, 84, 85, 86, 87, 88, 89, 90, 91, 92, 93, 94, 95, 96, 97, 98, 121, 122, 123, 124, 125, 126, 127, 128, 112, 113, 114, 115, 116, 117, 118, 119, 120, 129, 130, 131, 132, 133, 134] (by decide +kernel) (by decide +kernel)
set_option maxRecDepth 20000 in
theorem gX7_likely_X4_walksEndingAt : GoodIn wsX7_likely (wsV RX7 269 RX4 yX4_walksEndingAt wsX4_walksEndingAt) := goodIn_app (goodIn_of _ (by decide +kernel)) ggX7_likely_X4_walksEndingAt
set_option maxRecDepth 20000 in
theorem ggX7_likely_X7_partInLeastTerms : GoodIn wsX7_likely wsX7_partInLeastTerms := goodIn_r _ [101, 102] (by decide +kernel) (by decide +kernel)
set_option maxRecDepth 20000 in
theorem gX7_likely_X7_partInLeastTerms : GoodIn wsX7_likely (va_wsS RX7 273 yX7_partInLeastTerms wsX7_partInLeastTerms) := goodIn_app (goodIn_of _ (by decide +kernel)) ggX7_likely_X7_partInLeastTerms
set_option maxRecDepth 20000 in
theorem ggX7_lots_X7_refuse : GoodIn wsX7_lots wsX7_refuse := goodIn_r _ [10, 11, 68, 69, 70, 71, 72, 73, 74, 75, 76] (by decide +kernel) (by decide +kernel)
set_option maxRecDepth 20000 in
theorem gX7_lots_X7_refuse : GoodIn wsX7_lots (wsV RX7 75 RX7 yX7_refuse wsX7_refuse) := goodIn_app (goodIn_of _ (by decide +kernel)) ggX7_lots_X7_refuse
set_option maxRecDepth 20000 in
theorem ggX7_lots_X6_isNone : GoodIn wsX7_lots wsX6_isNone := goodIn_r _ [16, 17, 77, 78, 79, 80, 81, 82, 83, 84, 85] (by decide +kernel) (by decide +kernel)
set_option maxRecDepth 20000 in
theorem gX7_lots_X6_isNone : GoodIn wsX7_lots (wsV RX7 154 RX6 yX6_isNone wsX6_isNone) := goodIn_app (goodIn_of _ (by decide +kernel)) ggX7_lots_X6_isNone
set_option maxRecDepth 20000 in
theorem ggX7_lots_X6_rolled : GoodIn wsX7_lots wsX6_rolled := goodIn_r _ [21, 22, 23, 24, 25, 9, 26, 27, 28, 29, 15, 30, 31, 32, 33, 34, 35, 36, 37, 38, 39, 40, 41, 42, 43, 44, 45, 46, 47, 48, 49, 50, 51, 52, 53, 54, 55, 56, 57, 58, 59, 60, 61, 62, 63, 64, 65, 66, 67, 77, 78, 79, 80, 81, 82, 83, 84, 85, 86, 87, 88, 89, 90, 91] (by decide +kernel) (by decide +kernel)
set_option maxRecDepth 20000 in
theorem gX7_lots_X6_rolled : GoodIn wsX7_lots (wsV RX7 200 RX6 yX6_rolled wsX6_rolled) := goodIn_app (goodIn_of _ (by decide +kernel)) ggX7_lots_X6_rolled
set_option maxRecDepth 20000 in
theorem ggX7_list_X7_isList : GoodIn wsX7_list wsX7_isList := goodIn_r _ [5] (by decide +kernel) (by decide +kernel)
set_option maxRecDepth 20000 in
theorem gX7_list_X7_isList : GoodIn wsX7_list (va_wsS RX7 282 yX7_isList wsX7_isList) := goodIn_app (goodIn_of _ (by decide +kernel)) ggX7_list_X7_isList
set_option maxRecDepth 20000 in
theorem ggX7_list_X7_refuse : GoodIn wsX7_list wsX7_refuse := goodIn_r _ [9, 10, 22, 23, 24, 25, 26, 27, 28, 29, 30] (by decide +kernel) (by decide +kernel)
set_option maxRecDepth 20000 in
theorem gX7_list_X7_refuse : GoodIn wsX7_list (wsV RX7 75 RX7 yX7_refuse wsX7_refuse) := goodIn_app (goodIn_of _ (by decide +kernel)) ggX7_list_X7_refuse
set_option maxRecDepth 20000 in
theorem ggX7_list_X3_begin : GoodIn wsX7_list wsX3_begin := goodIn_r _ [15, 16, 17, 18, 19, 20, 21, 31, 32] (by decide +kernel) (by decide +kernel)
set_option maxRecDepth 20000 in
theorem gX7_list_X3_begin : GoodIn wsX7_list (wsV RX7 285 RX3 yX3_begin wsX3_begin) := goodIn_app (goodIn_of _ (by decide +kernel)) ggX7_list_X3_begin
set_option maxRecDepth 20000 in
theorem ggX7_put_X7_isList : GoodIn wsX7_put wsX7_isList := goodIn_r _ [6] (by decide +kernel) (by decide +kernel)
set_option maxRecDepth 20000 in
theorem gX7_put_X7_isList : GoodIn wsX7_put (va_wsS RX7 282 yX7_isList wsX7_isList) := goodIn_app (goodIn_of _ (by decide +kernel)) ggX7_put_X7_isList
set_option maxRecDepth 20000 in
theorem ggX7_put_X7_refuse : GoodIn wsX7_put wsX7_refuse := goodIn_r _ [10, 11, 20, 21, 22, 23, 24, 25, 26, 27, 28] (by decide +kernel) (by decide +kernel)
set_option maxRecDepth 20000 in
theorem gX7_put_X7_refuse : GoodIn wsX7_put (wsV RX7 75 RX7 yX7_refuse wsX7_refuse) := goodIn_app (goodIn_of _ (by decide +kernel)) ggX7_put_X7_refuse
set_option maxRecDepth 20000 in
theorem ggX7_put_X3_lackAt : GoodIn wsX7_put wsX3_lackAt := goodIn_r _ [16, 17, 18, 5, 19, 29, 30] (by decide +kernel) (by decide +kernel)
set_option maxRecDepth 20000 in
theorem gX7_put_X3_lackAt : GoodIn wsX7_put (wsV RX7 288 RX3 yX3_lackAt wsX3_lackAt) := goodIn_app (goodIn_of _ (by decide +kernel)) ggX7_put_X3_lackAt
set_option maxRecDepth 20000 in
theorem ggX7_look_X7_isList : GoodIn wsX7_look wsX7_isList := goodIn_r _ [7] (by decide +kernel) (by decide +kernel)
set_option maxRecDepth 20000 in
theorem gX7_look_X7_isList : GoodIn wsX7_look (va_wsS RX7 282 yX7_isList wsX7_isList) := goodIn_app (goodIn_of _ (by decide +kernel)) ggX7_look_X7_isList
set_option maxRecDepth 20000 in
theorem ggX7_look_X7_refuseLong : GoodIn wsX7_look wsX7_refuseLong := goodIn_r _ [11, 2, 12, 13, 14, 6, 15, 16, 25, 26, 27, 28, 29, 30, 31, 32, 33] (by decide +kernel) (by decide +kernel)
set_option maxRecDepth 20000 in
theorem gX7_look_X7_refuseLong : GoodIn wsX7_look (wsV RX7 256 RX7 yX7_refuseLong wsX7_refuseLong) := goodIn_app (goodIn_of _ (by decide +kernel)) ggX7_look_X7_refuseLong
set_option maxRecDepth 20000 in
theorem ggX7_look_X3_lackAt : GoodIn wsX7_look wsX3_lackAt := goodIn_r _ [21, 22, 23, 6, 24, 34, 35] (by decide +kernel) (by decide +kernel)
set_option maxRecDepth 20000 in
theorem gX7_look_X3_lackAt : GoodIn wsX7_look (wsV RX7 288 RX3 yX3_lackAt wsX3_lackAt) := goodIn_app (goodIn_of _ (by decide +kernel)) ggX7_look_X3_lackAt
set_option maxRecDepth 20000 in
theorem ggX7_lays_X7_isList : GoodIn wsX7_lays wsX7_isList := goodIn_r _ [8] (by decide +kernel) (by decide +kernel)
set_option maxRecDepth 20000 in
theorem gX7_lays_X7_isList : GoodIn wsX7_lays (va_wsS RX7 282 yX7_isList wsX7_isList) := goodIn_app (goodIn_of _ (by decide +kernel)) ggX7_lays_X7_isList
set_option maxRecDepth 20000 in
theorem ggX7_lays_X7_refuse : GoodIn wsX7_lays wsX7_refuse := goodIn_r _ [12, 13, 29, 30, 31, 32, 33, 34, 35, 36, 37] (by decide +kernel) (by decide +kernel)
set_option maxRecDepth 20000 in
theorem gX7_lays_X7_refuse : GoodIn wsX7_lays (wsV RX7 75 RX7 yX7_refuse wsX7_refuse) := goodIn_app (goodIn_of _ (by decide +kernel)) ggX7_lays_X7_refuse
set_option maxRecDepth 20000 in
theorem ggX7_lays_X6_tileCount : GoodIn wsX7_lays wsX6_tileCount := goodIn_r _ [18, 19, 20, 40, 41, 42, 43, 44, 45, 46, 47, 48] (by decide +kernel) (by decide +kernel)
set_option maxRecDepth 20000 in
theorem gX7_lays_X6_tileCount : GoodIn wsX7_lays (wsV RX7 105 RX6 yX6_tileCount wsX6_tileCount) := goodIn_app (goodIn_of _ (by decide +kernel)) ggX7_lays_X6_tileCount
set_option maxRecDepth 20000 in
theorem ggX7_lays_X3_lackAt : GoodIn wsX7_lays wsX3_lackAt := goodIn_r _ [25, 26, 27, 7, 28, 38, 39] (by decide +kernel) (by decide +kernel)
set_option maxRecDepth 20000 in
theorem gX7_lays_X3_lackAt : GoodIn wsX7_lays (wsV RX7 288 RX3 yX3_lackAt wsX3_lackAt) := goodIn_app (goodIn_of _ (by decide +kernel)) ggX7_lays_X3_lackAt
set_option maxRecDepth 20000 in
theorem ggX7_tells_X7_isList : GoodIn wsX7_tells wsX7_isList := goodIn_r _ [9] (by decide +kernel) (by decide +kernel)
set_option maxRecDepth 20000 in
theorem gX7_tells_X7_isList : GoodIn wsX7_tells (va_wsS RX7 282 yX7_isList wsX7_isList) := goodIn_app (goodIn_of _ (by decide +kernel)) ggX7_tells_X7_isList
set_option maxRecDepth 20000 in
theorem ggX7_tells_X7_refuse : GoodIn wsX7_tells wsX7_refuse := goodIn_r _ [13, 14, 32, 33, 34, 35, 36, 37, 38, 39, 40] (by decide +kernel) (by decide +kernel)
set_option maxRecDepth 20000 in
theorem gX7_tells_X7_refuse : GoodIn wsX7_tells (wsV RX7 75 RX7 yX7_refuse wsX7_refuse) := goodIn_app (goodIn_of _ (by decide +kernel)) ggX7_tells_X7_refuse
set_option maxRecDepth 20000 in
theorem ggX7_tells_X3_isMissing : GoodIn wsX7_tells wsX3_isMissing := goodIn_r _ [19, 20, 41, 42] (by decide +kernel) (by decide +kernel)
set_option maxRecDepth 20000 in
theorem gX7_tells_X3_isMissing : GoodIn wsX7_tells (wsV RX7 296 RX3 yX3_isMissing wsX3_isMissing) := goodIn_app (goodIn_of _ (by decide +kernel)) ggX7_tells_X3_isMissing
set_option maxRecDepth 20000 in
theorem ggX7_tells_X6_hasTile : GoodIn wsX7_tells wsX6_hasTile := goodIn_r _ [25, 26, 27, 28, 24, 29, 30, 31, 43, 44, 45, 46, 47, 48, 49, 50, 51] (by decide +kernel) (by decide +kernel)
set_option maxRecDepth 20000 in
theorem gX7_tells_X6_hasTile : GoodIn wsX7_tells (wsV RX7 108 RX6 yX6_hasTile wsX6_hasTile) := goodIn_app (goodIn_of _ (by decide +kernel)) ggX7_tells_X6_hasTile
set_option maxRecDepth 20000 in
theorem ggX7_rack_X7_isRack : GoodIn wsX7_rack wsX7_isRack := goodIn_r _ [5] (by decide +kernel) (by decide +kernel)
set_option maxRecDepth 20000 in
theorem gX7_rack_X7_isRack : GoodIn wsX7_rack (va_wsS RX7 300 yX7_isRack wsX7_isRack) := goodIn_app (goodIn_of _ (by decide +kernel)) ggX7_rack_X7_isRack
set_option maxRecDepth 20000 in
theorem ggX7_rack_X7_refuse : GoodIn wsX7_rack wsX7_refuse := goodIn_r _ [9, 10, 26, 27, 28, 29, 30, 31, 32, 33, 34] (by decide +kernel) (by decide +kernel)
set_option maxRecDepth 20000 in
theorem gX7_rack_X7_refuse : GoodIn wsX7_rack (wsV RX7 75 RX7 yX7_refuse wsX7_refuse) := goodIn_app (goodIn_of _ (by decide +kernel)) ggX7_rack_X7_refuse
set_option maxRecDepth 20000 in
theorem ggX7_rack_X7_isKind : GoodIn wsX7_rack wsX7_isKind := goodIn_r _ [13] (by decide +kernel) (by decide +kernel)
set_option maxRecDepth 20000 in
theorem gX7_rack_X7_isKind : GoodIn wsX7_rack (va_wsS RX7 124 yX7_isKind wsX7_isKind) := goodIn_app (goodIn_of _ (by decide +kernel)) ggX7_rack_X7_isKind
set_option maxRecDepth 20000 in
theorem ggX7_rack_X2_begin : GoodIn wsX7_rack wsX2_begin := goodIn_r _ [18, 19, 20, 21, 22, 23, 24, 25, 35, 36, 37, 38] (by decide +kernel) (by decide +kernel)
set_option maxRecDepth 20000 in
theorem gX7_rack_X2_begin : GoodIn wsX7_rack (wsV RX7 303 RX2 yX2_begin wsX2_begin) := goodIn_app (goodIn_of _ (by decide +kernel)) ggX7_rack_X2_begin
set_option maxRecDepth 20000 in
theorem ggX7_racks_X7_isRack : GoodIn wsX7_racks wsX7_isRack := goodIn_r _ [9] (by decide +kernel) (by decide +kernel)
set_option maxRecDepth 20000 in
theorem gX7_racks_X7_isRack : GoodIn wsX7_racks (va_wsS RX7 300 yX7_isRack wsX7_isRack) := goodIn_app (goodIn_of _ (by decide +kernel)) ggX7_racks_X7_isRack
set_option maxRecDepth 20000 in
theorem ggX7_racks_X7_refuse : GoodIn wsX7_racks wsX7_refuse := goodIn_r _ [13, 14, 59, 60, 61, 62, 63, 64, 65, 66, 67] (by decide +kernel) (by decide +kernel)
set_option maxRecDepth 20000 in
theorem gX7_racks_X7_refuse : GoodIn wsX7_racks (wsV RX7 75 RX7 yX7_refuse wsX7_refuse) := goodIn_app (goodIn_of _ (by decide +kernel)) ggX7_racks_X7_refuse
set_option maxRecDepth 20000 in
theorem ggX7_racks_X6_isNone : GoodIn wsX7_racks wsX6_isNone := goodIn_r _ [19, 20, 68, 69, 70, 71, 72, 73, 74, 75, 76] (by decide +kernel) (by decide +kernel)
set_option maxRecDepth 20000 in
theorem gX7_racks_X6_isNone : GoodIn wsX7_racks (wsV RX7 154 RX6 yX6_isNone wsX6_isNone) := goodIn_app (goodIn_of _ (by decide +kernel)) ggX7_racks_X6_isNone
set_option maxRecDepth 20000 in
theorem ggX7_racks_X2_lackAt : GoodIn wsX7_racks wsX2_lackAt := goodIn_r _ [25, 26, 27, 8, 28, 77, 78, 79, 80] (by decide +kernel) (by decide +kernel)
set_option maxRecDepth 20000 in
theorem gX7_racks_X2_lackAt : GoodIn wsX7_racks (wsV RX7 305 RX2 yX2_lackAt wsX2_lackAt) := goodIn_app (goodIn_of _ (by decide +kernel)) ggX7_racks_X2_lackAt
set_option maxRecDepth 20000 in
theorem ggX7_racks_X2_empty : GoodIn wsX7_racks wsX2_empty := goodIn_r _ [32, 33, 77, 78, 79, 80] (by decide +kernel) (by decide +kernel)
set_option maxRecDepth 20000 in
theorem gX7_racks_X2_empty : GoodIn wsX7_racks (wsV RX7 306 RX2 yX2_empty wsX2_empty) := goodIn_app (goodIn_of _ (by decide +kernel)) ggX7_racks_X2_empty
set_option maxRecDepth 20000 in
theorem ggX7_racks_X7_isUnder : GoodIn wsX7_racks wsX7_isUnder := goodIn_r _ [36] (by decide +kernel) (by decide +kernel)
set_option maxRecDepth 20000 in
theorem gX7_racks_X7_isUnder : GoodIn wsX7_racks (va_wsS RX7 312 yX7_isUnder wsX7_isUnder) := goodIn_app (goodIn_of _ (by decide +kernel)) ggX7_racks_X7_isUnder
set_option maxRecDepth 20000 in
theorem ggX7_racks_X6_faceBelow : GoodIn wsX7_racks wsX6_faceBelow := goodIn_r _ [40, 41, 42, 43, 44, 8, 45, 46, 47, 48, 49, 50, 51, 52, 53, 68, 69, 70, 71, 72, 73, 74, 75, 76, 81, 82, 83, 84, 85, 86] (by decide +kernel) (by decide +kernel)
set_option maxRecDepth 20000 in
theorem gX7_racks_X6_faceBelow : GoodIn wsX7_racks (wsV RX7 172 RX6 yX6_faceBelow wsX6_faceBelow) := goodIn_app (goodIn_of _ (by decide +kernel)) ggX7_racks_X6_faceBelow
set_option maxRecDepth 20000 in
theorem ggX7_racks_X2_store : GoodIn wsX7_racks wsX2_store := goodIn_r _ [57, 33, 58, 77, 78, 79, 80] (by decide +kernel) (by decide +kernel)
set_option maxRecDepth 20000 in
theorem gX7_racks_X2_store : GoodIn wsX7_racks (wsV RX7 315 RX2 yX2_store wsX2_store) := goodIn_app (goodIn_of _ (by decide +kernel)) ggX7_racks_X2_store
set_option maxRecDepth 20000 in
theorem ggX7_racked_X7_isRack : GoodIn wsX7_racked wsX7_isRack := goodIn_r _ [7] (by decide +kernel) (by decide +kernel)
set_option maxRecDepth 20000 in
theorem gX7_racked_X7_isRack : GoodIn wsX7_racked (va_wsS RX7 300 yX7_isRack wsX7_isRack) := goodIn_app (goodIn_of _ (by decide +kernel)) ggX7_racked_X7_isRack
set_option maxRecDepth 20000 in
theorem ggX7_racked_X7_refuse : GoodIn wsX7_racked wsX7_refuse := goodIn_r _ [11, 12, 26, 27, 28, 29, 30, 31, 32, 33, 34] (by decide +kernel) (by decide +kernel)
set_option maxRecDepth 20000 in
theorem gX7_racked_X7_refuse : GoodIn wsX7_racked (wsV RX7 75 RX7 yX7_refuse wsX7_refuse) := goodIn_app (goodIn_of _ (by decide +kernel)) ggX7_racked_X7_refuse
set_option maxRecDepth 20000 in
theorem ggX7_racked_X2_lackAt : GoodIn wsX7_racked wsX2_lackAt := goodIn_r _ [17, 18, 19, 6, 20, 35, 36, 37, 38] (by decide +kernel) (by decide +kernel)
set_option maxRecDepth 20000 in
theorem gX7_racked_X2_lackAt : GoodIn wsX7_racked (wsV RX7 305 RX2 yX2_lackAt wsX2_lackAt) := goodIn_app (goodIn_of _ (by decide +kernel)) ggX7_racked_X2_lackAt
set_option maxRecDepth 20000 in
theorem ggX7_racked_X2_isEmptyAt : GoodIn wsX7_racked wsX2_isEmptyAt := goodIn_r _ [24, 25, 35, 36, 37, 38] (by decide +kernel) (by decide +kernel)
set_option maxRecDepth 20000 in
theorem gX7_racked_X2_isEmptyAt : GoodIn wsX7_racked (wsV RX7 319 RX2 yX2_isEmptyAt wsX2_isEmptyAt) := goodIn_app (goodIn_of _ (by decide +kernel)) ggX7_racked_X2_isEmptyAt
set_option maxRecDepth 20000 in
theorem ggX7_like_X7_isRack : GoodIn wsX7_like wsX7_isRack := goodIn_r _ [6] (by decide +kernel) (by decide +kernel)
set_option maxRecDepth 20000 in
theorem gX7_like_X7_isRack : GoodIn wsX7_like (va_wsS RX7 300 yX7_isRack wsX7_isRack) := goodIn_app (goodIn_of _ (by decide +kernel)) ggX7_like_X7_isRack
set_option maxRecDepth 20000 in
theorem ggX7_like_X7_refuse : GoodIn wsX7_like wsX7_refuse := goodIn_r _ [10, 11, 29, 30, 31, 32, 33, 34, 35, 36, 37] (by decide +kernel) (by decide +kernel)
set_option maxRecDepth 20000 in
theorem gX7_like_X7_refuse : GoodIn wsX7_like (wsV RX7 75 RX7 yX7_refuse wsX7_refuse) := goodIn_app (goodIn_of _ (by decide +kernel)) ggX7_like_X7_refuse
set_option maxRecDepth 20000 in
theorem ggX7_like_X2_isMissing : GoodIn wsX7_like wsX2_isMissing := goodIn_r _ [16, 17, 38, 39, 40, 41] (by decide +kernel) (by decide +kernel)
set_option maxRecDepth 20000 in
theorem gX7_like_X2_isMissing : GoodIn wsX7_like (wsV RX7 328 RX2 yX2_isMissing wsX2_isMissing) := goodIn_app (goodIn_of _ (by decide +kernel)) ggX7_like_X2_isMissing
set_option maxRecDepth 20000 in
theorem ggX7_like_X2_copyFrom : GoodIn wsX7_like wsX2_copyFrom := goodIn_r _ [21, 22, 23, 24, 25, 26, 27, 28, 17, 38, 39, 40, 41] (by decide +kernel) (by decide +kernel)
set_option maxRecDepth 20000 in
theorem gX7_like_X2_copyFrom : GoodIn wsX7_like (wsV RX7 329 RX2 yX2_copyFrom wsX2_copyFrom) := goodIn_app (goodIn_of _ (by decide +kernel)) ggX7_like_X2_copyFrom
set_option maxRecDepth 20000 in
theorem ggX7_image_X6_copyFrom : GoodIn wsX7_image wsX6_copyFrom := goodIn_r _ [8, 9, 10, 11, 12, 13, 14, 15, 16, 17, 18, 19, 42, 43, 44, 45, 46, 47, 48, 49, 50] (by decide +kernel) (by decide +kernel)
set_option maxRecDepth 20000 in
theorem gX7_image_X6_copyFrom : GoodIn wsX7_image (wsV RX7 334 RX6 yX6_copyFrom wsX6_copyFrom) := goodIn_app (goodIn_of _ (by decide +kernel)) ggX7_image_X6_copyFrom
set_option maxRecDepth 20000 in
theorem ggX7_image_X7_placeOrNothing : GoodIn wsX7_image wsX7_placeOrNothing := goodIn_r _ [24, 2, 25, 26, 27, 7, 28, 18, 29, 30, 31, 32, 33, 34, 35, 36, 37, 38, 39, 40, 41, 42, 43, 44, 45, 46, 47, 48, 49, 50] (by decide +kernel) (by decide +kernel)
set_option maxRecDepth 20000 in
theorem gX7_image_X7_placeOrNothing : GoodIn wsX7_image (wsV RX7 336 RX7 yX7_placeOrNothing wsX7_placeOrNothing) := goodIn_app (goodIn_of _ (by decide +kernel)) ggX7_image_X7_placeOrNothing
set_option maxRecDepth 20000 in
theorem ggX7_on_X7_refuse : GoodIn wsX7_on wsX7_refuse := goodIn_r _ [9, 10, 45, 46, 47, 48, 49, 50, 51, 52, 53] (by decide +kernel) (by decide +kernel)
set_option maxRecDepth 20000 in
theorem gX7_on_X7_refuse : GoodIn wsX7_on (wsV RX7 75 RX7 yX7_refuse wsX7_refuse) := goodIn_app (goodIn_of _ (by decide +kernel)) ggX7_on_X7_refuse
set_option maxRecDepth 20000 in
theorem ggX7_on_X6_copyFrom : GoodIn wsX7_on wsX6_copyFrom := goodIn_r _ [15, 16, 17, 18, 19, 20, 21, 22, 23, 24, 25, 26, 54, 55, 56, 57, 58, 59, 60, 61, 62] (by decide +kernel) (by decide +kernel)
set_option maxRecDepth 20000 in
theorem gX7_on_X6_copyFrom : GoodIn wsX7_on (wsV RX7 334 RX6 yX6_copyFrom wsX6_copyFrom) := goodIn_app (goodIn_of _ (by decide +kernel)) ggX7_on_X6_copyFrom
set_option maxRecDepth 20000 in
theorem ggX7_on_X0_forget : GoodIn wsX7_on wsX0_forget := goodIn_r _ [31, 32, 63, 64, 65, 66] (by decide +kernel) (by decide +kernel)
set_option maxRecDepth 20000 in
theorem gX7_on_X0_forget : GoodIn wsX7_on (wsV RX7 99 RX0 yX0_forget wsX0_forget) := goodIn_app (goodIn_of _ (by decide +kernel)) ggX7_on_X0_forget
set_option maxRecDepth 20000 in
theorem ggX7_on_X7_placeOrNothing : GoodIn wsX7_on wsX7_placeOrNothing := goodIn_r _ [36, 2, 37, 38, 39, 14, 40, 25, 41, 42, 43, 44, 45, 46, 47, 48, 49, 50, 51, 52, 53, 54, 55, 56, 57, 58, 59, 60, 61, 62] (by decide +kernel) (by decide +kernel)
set_option maxRecDepth 20000 in
theorem gX7_on_X7_placeOrNothing : GoodIn wsX7_on (wsV RX7 336 RX7 yX7_placeOrNothing wsX7_placeOrNothing) := goodIn_app (goodIn_of _ (by decide +kernel)) ggX7_on_X7_placeOrNothing
set_option maxRecDepth 20000 in
theorem ggX7_placeOrNothing_X6_isNone : GoodIn wsX7_placeOrNothing wsX6_isNone := goodIn_r _ [6, 7, 21, 22, 23, 24, 25, 26, 27, 28, 29] (by decide +kernel) (by decide +kernel)
set_option maxRecDepth 20000 in
theorem gX7_placeOrNothing_X6_isNone : GoodIn wsX7_placeOrNothing (wsV RX7 154 RX6 yX6_isNone wsX6_isNone) := goodIn_app (goodIn_of _ (by decide +kernel)) ggX7_placeOrNothing_X6_isNone
set_option maxRecDepth 20000 in
theorem ggX7_placeOrNothing_X6_placeNow : GoodIn wsX7_placeOrNothing wsX6_placeNow := goodIn_r _ [11, 7, 21, 22, 23, 24, 25, 26, 27, 28, 29] (by decide +kernel) (by decide +kernel)
set_option maxRecDepth 20000 in
theorem gX7_placeOrNothing_X6_placeNow : GoodIn wsX7_placeOrNothing (wsV RX7 166 RX6 yX6_placeNow wsX6_placeNow) := goodIn_app (goodIn_of _ (by decide +kernel)) ggX7_placeOrNothing_X6_placeNow
set_option maxRecDepth 20000 in
theorem ggX7_count_X6_countTiles : GoodIn wsX7_count wsX6_countTiles := goodIn_r _ [15, 16, 17, 18, 19, 14, 20, 21, 22, 37, 38, 39, 40, 41, 42, 43, 44, 45] (by decide +kernel) (by decide +kernel)
set_option maxRecDepth 20000 in
theorem gX7_count_X6_countTiles : GoodIn wsX7_count (wsV RX7 345 RX6 yX6_countTiles wsX6_countTiles) := goodIn_app (goodIn_of _ (by decide +kernel)) ggX7_count_X6_countTiles
set_option maxRecDepth 20000 in
theorem ggX7_count_X6_countPrints : GoodIn wsX7_count wsX6_countPrints := goodIn_r _ [26, 27, 17, 18, 19, 14, 20, 21, 22, 37, 38, 39, 40, 41, 42, 43, 44, 45] (by decide +kernel) (by decide +kernel)
set_option maxRecDepth 20000 in
theorem gX7_count_X6_countPrints : GoodIn wsX7_count (wsV RX7 141 RX6 yX6_countPrints wsX6_countPrints) := goodIn_app (goodIn_of _ (by decide +kernel)) ggX7_count_X6_countPrints
set_option maxRecDepth 20000 in
theorem ggX7_refuseLong_X7_refuse : GoodIn wsX7_refuseLong wsX7_refuse := goodIn_r _ [6, 7, 8, 9, 10, 11, 12, 13, 14, 15, 16] (by decide +kernel) (by decide +kernel)
set_option maxRecDepth 20000 in
theorem gX7_refuseLong_X7_refuse : GoodIn wsX7_refuseLong (wsV RX7 75 RX7 yX7_refuse wsX7_refuse) := goodIn_app (goodIn_of _ (by decide +kernel)) ggX7_refuseLong_X7_refuse
set_option maxRecDepth 20000 in
theorem ggX7_isGoal_X6_hasPlace : GoodIn wsX7_isGoal wsX6_hasPlace := goodIn_r _ [7, 8, 9, 10, 11, 12, 13, 6, 14, 15, 16, 38, 39, 40, 41, 42, 43, 44, 45, 46] (by decide +kernel) (by decide +kernel)
set_option maxRecDepth 20000 in
theorem gX7_isGoal_X6_hasPlace : GoodIn wsX7_isGoal (wsV RX7 127 RX6 yX6_hasPlace wsX6_hasPlace) := goodIn_app (goodIn_of _ (by decide +kernel)) ggX7_isGoal_X6_hasPlace
set_option maxRecDepth 20000 in
theorem ggX7_isGoal_X7_isFace : GoodIn wsX7_isGoal wsX7_isFace := goodIn_r _ [20, 1, 21, 22, 23, 24, 6, 25, 26, 27, 28, 8, 9, 10, 29, 30, 31, 32, 33, 34, 35, 36, 37, 47, 48, 49, 50, 51, 52, 38, 39, 40, 41, 42, 43, 44, 45, 46] (by decide +kernel) (by decide +kernel)
set_option maxRecDepth 20000 in
theorem gX7_isGoal_X7_isFace : GoodIn wsX7_isGoal (wsV RX7 263 RX7 yX7_isFace wsX7_isFace) := goodIn_app (goodIn_of _ (by decide +kernel)) ggX7_isGoal_X7_isFace
set_option maxRecDepth 20000 in
theorem ggX7_isFace_X6_stances : GoodIn wsX7_isFace wsX6_stances := goodIn_r _ [7, 8, 9, 10, 11, 12, 13, 29, 30, 31, 32, 33, 34, 35, 36, 37] (by decide +kernel) (by decide +kernel)
set_option maxRecDepth 20000 in
theorem gX7_isFace_X6_stances : GoodIn wsX7_isFace (wsV RX7 147 RX6 yX6_stances wsX6_stances) := goodIn_app (goodIn_of _ (by decide +kernel)) ggX7_isFace_X6_stances
