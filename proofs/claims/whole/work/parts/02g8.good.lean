set_option maxRecDepth 20000 in
theorem ggX8_longNo_X8_no : GoodIn wsX8_longNo wsX8_no := goodIn_r _ [6, 7, 8, 9, 10, 11, 12, 13, 14, 15, 16, 17, 18, 19, 20, 21, 22, 23, 24, 25, 26, 27, 28, 29, 30, 31, 32, 33, 34, 35, 36, 37, 38, 39, 40, 41, 42, 43, 44, 45, 46, 47, 48, 49, 50, 51, 52, 53, 54, 55] (by decide +kernel) (by decide +kernel)
set_option maxRecDepth 20000 in
theorem gX8_longNo_X8_no : GoodIn wsX8_longNo (wsV RX8 13 RX8 yX8_no wsX8_no) := goodIn_app (goodIn_of _ (by decide +kernel)) ggX8_longNo_X8_no
set_option maxRecDepth 20000 in
theorem ggX8_isTile_X8_tileMany : GoodIn wsX8_isTile wsX8_tileMany := goodIn_r _ [5, 6, 7, 11, 12, 13, 14, 15, 16, 17, 18, 19, 20, 21, 22, 23, 24, 25, 26, 27, 28, 29, 30, 31, 32, 33, 34, 35, 36, 37, 38, 39, 40, 41, 42, 43, 44, 45, 46, 47, 48, 49, 50, 51, 52, 53, 54, 55, 56, 57, 58] (by decide +kernel) (by decide +kernel)
set_option maxRecDepth 20000 in
theorem gX8_isTile_X8_tileMany : GoodIn wsX8_isTile (wsV RX8 125 RX8 yX8_tileMany wsX8_tileMany) := goodIn_app (goodIn_of _ (by decide +kernel)) ggX8_isTile_X8_tileMany
set_option maxRecDepth 20000 in
theorem ggX8_isTile_X8_in : GoodIn wsX8_isTile wsX8_in := goodIn_r _ [10] (by decide +kernel) (by decide +kernel)
set_option maxRecDepth 20000 in
theorem gX8_isTile_X8_in : GoodIn wsX8_isTile (va_wsS RX8 129 yX8_in wsX8_in) := goodIn_app (goodIn_of _ (by decide +kernel)) ggX8_isTile_X8_in
set_option maxRecDepth 20000 in
theorem ggX8_isPlace_X8_isTetra : GoodIn wsX8_isPlace wsX8_isTetra := goodIn_r _ [5, 6, 16, 17, 18, 19, 20, 21, 22, 23, 24, 25, 26, 27, 28, 29, 30, 31, 32, 33, 34, 35, 36, 37, 38, 39, 40, 41, 42, 43, 44, 45, 46, 47, 48, 49, 50, 51, 52, 53, 54, 55, 56, 57, 58, 59, 60, 61, 62, 63] (by decide +kernel) (by decide +kernel)
set_option maxRecDepth 20000 in
theorem gX8_isPlace_X8_isTetra : GoodIn wsX8_isPlace (wsV RX8 136 RX8 yX8_isTetra wsX8_isTetra) := goodIn_app (goodIn_of _ (by decide +kernel)) ggX8_isPlace_X8_isTetra
set_option maxRecDepth 20000 in
theorem ggX8_isPlace_X8_tileMany : GoodIn wsX8_isPlace wsX8_tileMany := goodIn_r _ [10, 11, 12, 16, 17, 18, 19, 20, 21, 22, 23, 24, 25, 26, 27, 28, 29, 30, 31, 32, 33, 34, 35, 36, 37, 38, 39, 40, 41, 42, 43, 44, 45, 46, 47, 48, 49, 50, 51, 52, 53, 54, 55, 56, 57, 58, 59, 60, 61, 62, 63] (by decide +kernel) (by decide +kernel)
set_option maxRecDepth 20000 in
theorem gX8_isPlace_X8_tileMany : GoodIn wsX8_isPlace (wsV RX8 125 RX8 yX8_tileMany wsX8_tileMany) := goodIn_app (goodIn_of _ (by decide +kernel)) ggX8_isPlace_X8_tileMany
set_option maxRecDepth 20000 in
theorem ggX8_isPlace_X8_in : GoodIn wsX8_isPlace wsX8_in := goodIn_r _ [15] (by decide +kernel) (by decide +kernel)
set_option maxRecDepth 20000 in
theorem gX8_isPlace_X8_in : GoodIn wsX8_isPlace (va_wsS RX8 129 yX8_in wsX8_in) := goodIn_app (goodIn_of _ (by decide +kernel)) ggX8_isPlace_X8_in
set_option maxRecDepth 20000 in
theorem ggX8_isFace_X8_isTetra : GoodIn wsX8_isFace wsX8_isTetra := goodIn_r _ [7, 8, 12, 13, 14, 15, 16, 17, 18, 19, 20, 21, 22, 23, 24, 25, 26, 27, 28, 29, 30, 31, 32, 33, 34, 35, 36, 37, 38, 39, 40, 41, 42, 43, 44, 45, 46, 47, 48, 49, 50, 51, 52, 53, 54, 55, 56, 57, 58, 59] (by decide +kernel) (by decide +kernel)
set_option maxRecDepth 20000 in
theorem gX8_isFace_X8_isTetra : GoodIn wsX8_isFace (wsV RX8 136 RX8 yX8_isTetra wsX8_isTetra) := goodIn_app (goodIn_of _ (by decide +kernel)) ggX8_isFace_X8_isTetra
set_option maxRecDepth 20000 in
theorem ggX8_isFace_X8_in : GoodIn wsX8_isFace wsX8_in := goodIn_r _ [11] (by decide +kernel) (by decide +kernel)
set_option maxRecDepth 20000 in
theorem gX8_isFace_X8_in : GoodIn wsX8_isFace (va_wsS RX8 129 yX8_in wsX8_in) := goodIn_app (goodIn_of _ (by decide +kernel)) ggX8_isFace_X8_in
set_option maxRecDepth 20000 in
theorem ggX8_below_X8_isTetra : GoodIn wsX8_below wsX8_isTetra := goodIn_r _ [6, 7, 8, 9, 10, 11, 12, 13, 14, 15, 16, 17, 18, 19, 20, 21, 22, 23, 24, 25, 26, 27, 28, 29, 30, 31, 32, 33, 34, 35, 36, 37, 38, 39, 40, 41, 42, 43, 44, 45, 46, 47, 48, 49, 50, 51, 52, 53, 54, 55] (by decide +kernel) (by decide +kernel)
set_option maxRecDepth 20000 in
theorem gX8_below_X8_isTetra : GoodIn wsX8_below (wsV RX8 136 RX8 yX8_isTetra wsX8_isTetra) := goodIn_app (goodIn_of _ (by decide +kernel)) ggX8_below_X8_isTetra
set_option maxRecDepth 20000 in
theorem ggX8_tellsUnder_X8_isTetra : GoodIn wsX8_tellsUnder wsX8_isTetra := goodIn_r _ [10, 11, 32, 33, 34, 35, 36, 37, 38, 39, 40, 41, 42, 43, 44, 45, 46, 47, 48, 49, 50, 51, 52, 53, 54, 55, 56, 57, 58, 59, 60, 61, 62, 63, 64, 65, 66, 67, 68, 69, 70, 71, 72, 73, 74, 75, 76, 77, 78, 79] (by decide +kernel) (by decide +kernel)
set_option maxRecDepth 20000 in
theorem gX8_tellsUnder_X8_isTetra : GoodIn wsX8_tellsUnder (wsV RX8 136 RX8 yX8_isTetra wsX8_isTetra) := goodIn_app (goodIn_of _ (by decide +kernel)) ggX8_tellsUnder_X8_isTetra
set_option maxRecDepth 20000 in
theorem ggX8_tellsUnder_X8_tileMany : GoodIn wsX8_tellsUnder wsX8_tileMany := goodIn_r _ [15, 5, 4, 32, 33, 34, 35, 36, 37, 38, 39, 40, 41, 42, 43, 44, 45, 46, 47, 48, 49, 50, 51, 52, 53, 54, 55, 56, 57, 58, 59, 60, 61, 62, 63, 64, 65, 66, 67, 68, 69, 70, 71, 72, 73, 74, 75, 76, 77, 78, 79] (by decide +kernel) (by decide +kernel)
set_option maxRecDepth 20000 in
theorem gX8_tellsUnder_X8_tileMany : GoodIn wsX8_tellsUnder (wsV RX8 125 RX8 yX8_tileMany wsX8_tileMany) := goodIn_app (goodIn_of _ (by decide +kernel)) ggX8_tellsUnder_X8_tileMany
set_option maxRecDepth 20000 in
theorem ggX8_tellsUnder_X8_in : GoodIn wsX8_tellsUnder wsX8_in := goodIn_r _ [18] (by decide +kernel) (by decide +kernel)
set_option maxRecDepth 20000 in
theorem gX8_tellsUnder_X8_in : GoodIn wsX8_tellsUnder (va_wsS RX8 129 yX8_in wsX8_in) := goodIn_app (goodIn_of _ (by decide +kernel)) ggX8_tellsUnder_X8_in
set_option maxRecDepth 20000 in
theorem ggX8_tellsUnder_X8_isTile : GoodIn wsX8_tellsUnder wsX8_isTile := goodIn_r _ [22, 12, 13, 14, 9, 15, 5, 4, 16, 17, 18, 32, 33, 34, 35, 36, 37, 38, 39, 40, 41, 42, 43, 44, 45, 46, 47, 48, 49, 50, 51, 52, 53, 54, 55, 56, 57, 58, 59, 60, 61, 62, 63, 64, 65, 66, 67, 68, 69, 70, 71, 72, 73, 74, 75, 76, 77, 78, 79] (by decide +kernel) (by decide +kernel)
set_option maxRecDepth 20000 in
theorem gX8_tellsUnder_X8_isTile : GoodIn wsX8_tellsUnder (wsV RX8 150 RX8 yX8_isTile wsX8_isTile) := goodIn_app (goodIn_of _ (by decide +kernel)) ggX8_tellsUnder_X8_isTile
set_option maxRecDepth 20000 in
theorem ggX8_tellsUnder_X8_isBlock : GoodIn wsX8_tellsUnder wsX8_isBlock := goodIn_r _ [26, 11, 32, 33, 34, 35, 36, 37, 38, 39, 40, 41, 42, 43, 44, 45, 46, 47, 48, 49, 50, 51, 52, 53, 54, 55, 56, 57, 58, 59, 60, 61, 62, 63, 64, 65, 66, 67, 68, 69, 70, 71, 72, 73, 74, 75, 76, 77, 78, 79] (by decide +kernel) (by decide +kernel)
set_option maxRecDepth 20000 in
theorem gX8_tellsUnder_X8_isBlock : GoodIn wsX8_tellsUnder (wsV RX8 154 RX8 yX8_isBlock wsX8_isBlock) := goodIn_app (goodIn_of _ (by decide +kernel)) ggX8_tellsUnder_X8_isBlock
set_option maxRecDepth 20000 in
theorem ggX8_tellsUnder_X8_lying : GoodIn wsX8_tellsUnder wsX8_lying := goodIn_r _ [30, 31, 32, 33, 34, 35, 36, 37, 38, 39, 40, 41, 42, 43, 44, 45, 46, 47, 48, 49, 50, 51, 52, 53, 54, 55, 56, 57, 58, 59, 60, 61, 62, 63, 64, 65, 66, 67, 68, 69, 70, 71, 72, 73, 74, 75, 76, 77, 78, 79] (by decide +kernel) (by decide +kernel)
set_option maxRecDepth 20000 in
theorem gX8_tellsUnder_X8_lying : GoodIn wsX8_tellsUnder (wsV RX8 157 RX8 yX8_lying wsX8_lying) := goodIn_app (goodIn_of _ (by decide +kernel)) ggX8_tellsUnder_X8_lying
set_option maxRecDepth 20000 in
theorem ggX8_mayLie_X8_tellsUnder : GoodIn wsX8_mayLie wsX8_tellsUnder := goodIn_r _ [9, 2, 4, 10, 11, 12, 13, 14, 15, 8, 16, 1, 17, 18, 19, 20, 21, 22, 23, 24, 25, 26, 27, 28, 29, 30, 31, 32, 33, 34, 35, 36, 37, 38, 39, 40, 41, 42, 43, 44, 45, 46, 47, 48, 49, 50, 51, 52, 53, 54, 55, 56, 57, 58, 59, 60, 61, 62, 63, 64, 65, 66, 67, 68, 69, 70, 71, 72, 73, 74, 75, 76, 77, 78, 79, 80, 81, 82, 83, 84] (by decide +kernel) (by decide +kernel)
set_option maxRecDepth 20000 in
theorem gX8_mayLie_X8_tellsUnder : GoodIn wsX8_mayLie (wsV RX8 160 RX8 yX8_tellsUnder wsX8_tellsUnder) := goodIn_app (goodIn_of _ (by decide +kernel)) ggX8_mayLie_X8_tellsUnder
set_option maxRecDepth 20000 in
theorem ggX8_mayLie_X8_lying : GoodIn wsX8_mayLie wsX8_lying := goodIn_r _ [35, 36, 37, 38, 39, 40, 41, 42, 43, 44, 45, 46, 47, 48, 49, 50, 51, 52, 53, 54, 55, 56, 57, 58, 59, 60, 61, 62, 63, 64, 65, 66, 67, 68, 69, 70, 71, 72, 73, 74, 75, 76, 77, 78, 79, 80, 81, 82, 83, 84] (by decide +kernel) (by decide +kernel)
set_option maxRecDepth 20000 in
theorem gX8_mayLie_X8_lying : GoodIn wsX8_mayLie (wsV RX8 157 RX8 yX8_lying wsX8_lying) := goodIn_app (goodIn_of _ (by decide +kernel)) ggX8_mayLie_X8_lying
set_option maxRecDepth 20000 in
theorem ggX8_turnsCube_X8_turns : GoodIn wsX8_turnsCube wsX8_turns := goodIn_r _ [5, 6, 7, 8, 9, 10, 11, 12, 13, 14, 15, 16, 17, 18, 19, 20, 21, 22, 23, 24, 25, 26, 27, 28, 29, 30, 31, 32, 33, 34, 35, 36, 37, 38, 39, 40, 41, 42, 43, 44, 45, 46, 47, 48, 49, 50, 51, 52, 53, 54] (by decide +kernel) (by decide +kernel)
set_option maxRecDepth 20000 in
theorem gX8_turnsCube_X8_turns : GoodIn wsX8_turnsCube (wsV RX8 163 RX8 yX8_turns wsX8_turns) := goodIn_app (goodIn_of _ (by decide +kernel)) ggX8_turnsCube_X8_turns
set_option maxRecDepth 20000 in
theorem ggX8_turnsTetra_X8_turns : GoodIn wsX8_turnsTetra wsX8_turns := goodIn_r _ [6, 1, 7, 8, 9, 10, 11, 12, 13, 14, 15, 16, 17, 18, 19, 20, 21, 22, 23, 24, 25, 26, 27, 28, 29, 30, 31, 32, 33, 34, 35, 36, 37, 38, 39, 40, 41, 42, 43, 44, 45, 46, 47, 48, 49, 50, 51, 52, 53, 54] (by decide +kernel) (by decide +kernel)
set_option maxRecDepth 20000 in
theorem gX8_turnsTetra_X8_turns : GoodIn wsX8_turnsTetra (wsV RX8 163 RX8 yX8_turns wsX8_turns) := goodIn_app (goodIn_of _ (by decide +kernel)) ggX8_turnsTetra_X8_turns
set_option maxRecDepth 20000 in
theorem ggX8_goesTetra_X8_in : GoodIn wsX8_goesTetra wsX8_in := goodIn_r _ [9] (by decide +kernel) (by decide +kernel)
set_option maxRecDepth 20000 in
theorem gX8_goesTetra_X8_in : GoodIn wsX8_goesTetra (va_wsS RX8 129 yX8_in wsX8_in) := goodIn_app (goodIn_of _ (by decide +kernel)) ggX8_goesTetra_X8_in
set_option maxRecDepth 20000 in
theorem ggX8_goesTetra_X8_turnsTetra : GoodIn wsX8_goesTetra wsX8_turnsTetra := goodIn_r _ [13, 14, 15, 16, 17, 8, 18, 19, 20, 21, 22, 23, 24, 25, 26, 27, 28, 29, 30, 31, 32, 33, 34, 35, 36, 37, 38, 39, 40, 41, 42, 43, 44, 45, 46, 47, 48, 49, 50, 51, 52, 53, 54, 55, 56, 57, 58, 59, 60, 61, 62, 63, 64, 65, 66] (by decide +kernel) (by decide +kernel)
set_option maxRecDepth 20000 in
theorem gX8_goesTetra_X8_turnsTetra : GoodIn wsX8_goesTetra (wsV RX8 167 RX8 yX8_turnsTetra wsX8_turnsTetra) := goodIn_app (goodIn_of _ (by decide +kernel)) ggX8_goesTetra_X8_turnsTetra
set_option maxRecDepth 20000 in
theorem ggX8_goesSquare_X8_isBlock : GoodIn wsX8_goesSquare wsX8_isBlock := goodIn_r _ [8, 9, 26, 27, 28, 29, 30, 31, 32, 33, 34, 35, 36, 37, 38, 39, 40, 41, 42, 43, 44, 45, 46, 47, 48, 49, 50, 51, 52, 53, 54, 55, 56, 57, 58, 59, 60, 61, 62, 63, 64, 65, 66, 67, 68, 69, 70, 71, 72, 73] (by decide +kernel) (by decide +kernel)
set_option maxRecDepth 20000 in
theorem gX8_goesSquare_X8_isBlock : GoodIn wsX8_goesSquare (wsV RX8 154 RX8 yX8_isBlock wsX8_isBlock) := goodIn_app (goodIn_of _ (by decide +kernel)) ggX8_goesSquare_X8_isBlock
set_option maxRecDepth 20000 in
theorem ggX8_goesSquare_X8_lying : GoodIn wsX8_goesSquare wsX8_lying := goodIn_r _ [13, 14, 26, 27, 28, 29, 30, 31, 32, 33, 34, 35, 36, 37, 38, 39, 40, 41, 42, 43, 44, 45, 46, 47, 48, 49, 50, 51, 52, 53, 54, 55, 56, 57, 58, 59, 60, 61, 62, 63, 64, 65, 66, 67, 68, 69, 70, 71, 72, 73] (by decide +kernel) (by decide +kernel)
set_option maxRecDepth 20000 in
theorem gX8_goesSquare_X8_lying : GoodIn wsX8_goesSquare (wsV RX8 157 RX8 yX8_lying wsX8_lying) := goodIn_app (goodIn_of _ (by decide +kernel)) ggX8_goesSquare_X8_lying
set_option maxRecDepth 20000 in
theorem ggX8_goesSquare_X8_in : GoodIn wsX8_goesSquare wsX8_in := goodIn_r _ [17] (by decide +kernel) (by decide +kernel)
set_option maxRecDepth 20000 in
theorem gX8_goesSquare_X8_in : GoodIn wsX8_goesSquare (va_wsS RX8 129 yX8_in wsX8_in) := goodIn_app (goodIn_of _ (by decide +kernel)) ggX8_goesSquare_X8_in
set_option maxRecDepth 20000 in
theorem ggX8_goesSquare_X8_turnsCube : GoodIn wsX8_goesSquare wsX8_turnsCube := goodIn_r _ [21, 22, 23, 24, 7, 25, 14, 26, 27, 28, 29, 30, 31, 32, 33, 34, 35, 36, 37, 38, 39, 40, 41, 42, 43, 44, 45, 46, 47, 48, 49, 50, 51, 52, 53, 54, 55, 56, 57, 58, 59, 60, 61, 62, 63, 64, 65, 66, 67, 68, 69, 70, 71, 72, 73] (by decide +kernel) (by decide +kernel)
set_option maxRecDepth 20000 in
theorem gX8_goesSquare_X8_turnsCube : GoodIn wsX8_goesSquare (wsV RX8 171 RX8 yX8_turnsCube wsX8_turnsCube) := goodIn_app (goodIn_of _ (by decide +kernel)) ggX8_goesSquare_X8_turnsCube
set_option maxRecDepth 20000 in
theorem ggX8_rolls_X8_isTetra : GoodIn wsX8_rolls wsX8_isTetra := goodIn_r _ [8, 9, 63, 64, 65, 66, 67, 68, 69, 70, 71, 72, 73, 74, 75, 76, 77, 78, 79, 80, 81, 82, 83, 84, 85, 86, 87, 88, 89, 90, 91, 92, 93, 94, 95, 96, 97, 98, 99, 100, 101, 102, 103, 104, 105, 106, 107, 108, 109, 110] (by decide +kernel) (by decide +kernel)
set_option maxRecDepth 20000 in
theorem gX8_rolls_X8_isTetra : GoodIn wsX8_rolls (wsV RX8 136 RX8 yX8_isTetra wsX8_isTetra) := goodIn_app (goodIn_of _ (by decide +kernel)) ggX8_rolls_X8_isTetra
set_option maxRecDepth 20000 in
theorem ggX8_rolls_X8_goesTetra : GoodIn wsX8_rolls wsX8_goesTetra := goodIn_r _ [13, 14, 1, 15, 9, 16, 17, 18, 7, 19, 20, 21, 22, 23, 3, 24, 25, 26, 27, 63, 64, 65, 66, 67, 68, 69, 70, 71, 72, 73, 74, 75, 76, 77, 78, 79, 80, 81, 82, 83, 84, 85, 86, 87, 88, 89, 90, 91, 92, 93, 94, 95, 96, 97, 98, 99, 100, 101, 102, 103, 104, 105, 106, 107, 108, 109, 110] (by decide +kernel) (by decide +kernel)
set_option maxRecDepth 20000 in
theorem gX8_rolls_X8_goesTetra : GoodIn wsX8_rolls (wsV RX8 174 RX8 yX8_goesTetra wsX8_goesTetra) := goodIn_app (goodIn_of _ (by decide +kernel)) ggX8_rolls_X8_goesTetra
set_option maxRecDepth 20000 in
theorem ggX8_rolls_X8_goesSquare : GoodIn wsX8_rolls wsX8_goesSquare := goodIn_r _ [31, 1, 14, 15, 32, 33, 34, 7, 35, 9, 36, 37, 38, 39, 3, 17, 18, 19, 40, 41, 42, 43, 24, 25, 26, 27, 63, 64, 65, 66, 67, 68, 69, 70, 71, 72, 73, 74, 75, 76, 77, 78, 79, 80, 81, 82, 83, 84, 85, 86, 87, 88, 89, 90, 91, 92, 93, 94, 95, 96, 97, 98, 99, 100, 101, 102, 103, 104, 105, 106, 107, 108, 109, 110] (by decide +kernel) (by decide +kernel)
set_option maxRecDepth 20000 in
theorem gX8_rolls_X8_goesSquare : GoodIn wsX8_rolls (wsV RX8 177 RX8 yX8_goesSquare wsX8_goesSquare) := goodIn_app (goodIn_of _ (by decide +kernel)) ggX8_rolls_X8_goesSquare
set_option maxRecDepth 20000 in
theorem ggX8_rolls_X8_mayLie : GoodIn wsX8_rolls wsX8_mayLie := goodIn_r _ [47, 9, 48, 49, 50, 51, 52, 53, 7, 54, 1, 14, 15, 4, 5, 6, 8, 55, 56, 57, 58, 17, 18, 19, 59, 60, 61, 62, 32, 33, 34, 35, 36, 37, 38, 39, 3, 63, 64, 65, 66, 67, 68, 69, 70, 71, 72, 73, 74, 75, 76, 77, 78, 79, 80, 81, 82, 83, 84, 85, 86, 87, 88, 89, 90, 91, 92, 93, 94, 95, 96, 97, 98, 99, 100, 101, 102, 103, 104, 105, 106, 107, 108, 109, 110] (by decide +kernel) (by decide +kernel)
set_option maxRecDepth 20000 in
theorem gX8_rolls_X8_mayLie : GoodIn wsX8_rolls (wsV RX8 180 RX8 yX8_mayLie wsX8_mayLie) := goodIn_app (goodIn_of _ (by decide +kernel)) ggX8_rolls_X8_mayLie
set_option maxRecDepth 20000 in
theorem ggX8_letter_X8_no : GoodIn wsX8_letter wsX8_no := goodIn_r _ [7, 8, 9, 10, 11, 12, 13, 14, 15, 16, 17, 18, 19, 20, 21, 22, 23, 24, 25, 26, 27, 28, 29, 30, 31, 32, 33, 34, 35, 36, 37, 38, 39, 40, 41, 42, 43, 44, 45, 46, 47, 48, 49, 50, 51, 52, 53, 54, 55, 56] (by decide +kernel) (by decide +kernel)
set_option maxRecDepth 20000 in
theorem gX8_letter_X8_no : GoodIn wsX8_letter (wsV RX8 13 RX8 yX8_no wsX8_no) := goodIn_app (goodIn_of _ (by decide +kernel)) ggX8_letter_X8_no
set_option maxRecDepth 20000 in
theorem ggX8_boardFault_X8_signOf : GoodIn wsX8_boardFault wsX8_signOf := goodIn_r _ [8] (by decide +kernel) (by decide +kernel)
set_option maxRecDepth 20000 in
theorem gX8_boardFault_X8_signOf : GoodIn wsX8_boardFault (va_wsS RX8 192 yX8_signOf wsX8_signOf) := goodIn_app (goodIn_of _ (by decide +kernel)) ggX8_boardFault_X8_signOf
set_option maxRecDepth 20000 in
theorem ggX8_board_X8_boardFault : GoodIn wsX8_board wsX8_boardFault := goodIn_r _ [15, 2, 4, 1, 6, 16, 17, 14, 18, 59, 60, 61, 62, 63, 64, 65, 66, 67, 68, 69, 70, 71, 72, 73, 74, 75, 76, 77, 78, 79, 80, 81, 82, 83, 84, 85, 86, 87, 88, 89, 90, 91, 92, 93, 94, 95, 96, 97, 98, 99, 100, 101, 102, 103, 104, 105, 106] (by decide +kernel) (by decide +kernel)
set_option maxRecDepth 20000 in
theorem gX8_board_X8_boardFault : GoodIn wsX8_board (wsV RX8 195 RX8 yX8_boardFault wsX8_boardFault) := goodIn_app (goodIn_of _ (by decide +kernel)) ggX8_board_X8_boardFault
set_option maxRecDepth 20000 in
theorem ggX8_board_X8_signOf : GoodIn wsX8_board wsX8_signOf := goodIn_r _ [18] (by decide +kernel) (by decide +kernel)
set_option maxRecDepth 20000 in
theorem gX8_board_X8_signOf : GoodIn wsX8_board (va_wsS RX8 192 yX8_signOf wsX8_signOf) := goodIn_app (goodIn_of _ (by decide +kernel)) ggX8_board_X8_signOf
set_option maxRecDepth 20000 in
theorem ggX8_board_X8_placesAt : GoodIn wsX8_board wsX8_placesAt := goodIn_r _ [22, 23, 24, 59, 60, 61, 62, 63, 64, 65, 66, 67, 68, 69, 70, 71, 72, 73, 74, 75, 76, 77, 78, 79, 80, 81, 82, 83, 84, 85, 86, 87, 88, 89, 90, 91, 92, 93, 94, 95, 96, 97, 98, 99, 100, 101, 102, 103, 104, 105, 106] (by decide +kernel) (by decide +kernel)
set_option maxRecDepth 20000 in
theorem gX8_board_X8_placesAt : GoodIn wsX8_board (wsV RX8 201 RX8 yX8_placesAt wsX8_placesAt) := goodIn_app (goodIn_of _ (by decide +kernel)) ggX8_board_X8_placesAt
set_option maxRecDepth 20000 in
theorem ggX8_board_X8_mayLie : GoodIn wsX8_board wsX8_mayLie := goodIn_r _ [28, 29, 30, 7, 31, 32, 33, 34, 14, 35, 23, 5, 3, 36, 37, 38, 39, 40, 41, 42, 43, 44, 45, 46, 47, 48, 49, 50, 51, 52, 53, 54, 55, 56, 57, 58, 24, 59, 60, 61, 62, 63, 64, 65, 66, 67, 68, 69, 70, 71, 72, 73, 74, 75, 76, 77, 78, 79, 80, 81, 82, 83, 84, 85, 86, 87, 88, 89, 90, 91, 92, 93, 94, 95, 96, 97, 98, 99, 100, 101, 102, 103, 104, 105, 106] (by decide +kernel) (by decide +kernel)
set_option maxRecDepth 20000 in
theorem gX8_board_X8_mayLie : GoodIn wsX8_board (wsV RX8 180 RX8 yX8_mayLie wsX8_mayLie) := goodIn_app (goodIn_of _ (by decide +kernel)) ggX8_board_X8_mayLie
set_option maxRecDepth 20000 in
theorem ggX8_board_X8_tileMany : GoodIn wsX8_board wsX8_tileMany := goodIn_r _ [43, 3, 5, 59, 60, 61, 62, 63, 64, 65, 66, 67, 68, 69, 70, 71, 72, 73, 74, 75, 76, 77, 78, 79, 80, 81, 82, 83, 84, 85, 86, 87, 88, 89, 90, 91, 92, 93, 94, 95, 96, 97, 98, 99, 100, 101, 102, 103, 104, 105, 106] (by decide +kernel) (by decide +kernel)
set_option maxRecDepth 20000 in
theorem gX8_board_X8_tileMany : GoodIn wsX8_board (wsV RX8 125 RX8 yX8_tileMany wsX8_tileMany) := goodIn_app (goodIn_of _ (by decide +kernel)) ggX8_board_X8_tileMany
set_option maxRecDepth 20000 in
theorem ggX8_isUnder_X8_tellsUnder : GoodIn wsX8_isUnder wsX8_tellsUnder := goodIn_r _ [7, 2, 1, 8, 9, 10, 11, 12, 13, 6, 14, 15, 16, 17, 18, 19, 20, 21, 22, 23, 24, 25, 26, 27, 28, 29, 30, 31, 32, 33, 34, 35, 36, 37, 38, 39, 40, 41, 42, 43, 44, 45, 46, 47, 48, 49, 50, 51, 52, 53, 54, 55, 56, 57, 58, 59, 60, 61, 62, 63, 64, 65, 66, 67, 68, 69, 70, 71, 72, 73, 74, 75, 76, 77, 78, 79, 80, 81, 82, 83] (by decide +kernel) (by decide +kernel)
set_option maxRecDepth 20000 in
theorem gX8_isUnder_X8_tellsUnder : GoodIn wsX8_isUnder (wsV RX8 160 RX8 yX8_tellsUnder wsX8_tellsUnder) := goodIn_app (goodIn_of _ (by decide +kernel)) ggX8_isUnder_X8_tellsUnder
set_option maxRecDepth 20000 in
theorem ggX8_tile_X8_isTile : GoodIn wsX8_tile wsX8_isTile := goodIn_r _ [9, 10, 11, 12, 8, 13, 14, 15, 16, 17, 18, 48, 49, 50, 51, 52, 53, 54, 55, 56, 57, 58, 59, 60, 61, 62, 63, 64, 65, 66, 67, 68, 69, 70, 71, 72, 73, 74, 75, 76, 77, 78, 79, 80, 81, 82, 83, 84, 85, 86, 87, 88, 89, 90, 91, 92, 93, 94, 95] (by decide +kernel) (by decide +kernel)
set_option maxRecDepth 20000 in
theorem gX8_tile_X8_isTile : GoodIn wsX8_tile (wsV RX8 150 RX8 yX8_isTile wsX8_isTile) := goodIn_app (goodIn_of _ (by decide +kernel)) ggX8_tile_X8_isTile
set_option maxRecDepth 20000 in
theorem ggX8_tile_X8_no : GoodIn wsX8_tile wsX8_no := goodIn_r _ [22, 23, 48, 49, 50, 51, 52, 53, 54, 55, 56, 57, 58, 59, 60, 61, 62, 63, 64, 65, 66, 67, 68, 69, 70, 71, 72, 73, 74, 75, 76, 77, 78, 79, 80, 81, 82, 83, 84, 85, 86, 87, 88, 89, 90, 91, 92, 93, 94, 95] (by decide +kernel) (by decide +kernel)
set_option maxRecDepth 20000 in
theorem gX8_tile_X8_no : GoodIn wsX8_tile (wsV RX8 13 RX8 yX8_no wsX8_no) := goodIn_app (goodIn_of _ (by decide +kernel)) ggX8_tile_X8_no
set_option maxRecDepth 20000 in
theorem ggX8_tile_X8_in : GoodIn wsX8_tile wsX8_in := goodIn_r _ [18] (by decide +kernel) (by decide +kernel)
set_option maxRecDepth 20000 in
theorem gX8_tile_X8_in : GoodIn wsX8_tile (va_wsS RX8 129 yX8_in wsX8_in) := goodIn_app (goodIn_of _ (by decide +kernel)) ggX8_tile_X8_in
set_option maxRecDepth 20000 in
theorem ggX8_tile_X8_isUnder : GoodIn wsX8_tile wsX8_isUnder := goodIn_r _ [27, 28, 29, 30, 31, 32, 8, 33, 34, 15, 14, 35, 36, 37, 38, 4, 10, 11, 12, 13, 16, 17, 18, 5, 6, 7, 9, 39, 40, 41, 42, 43, 44, 45, 46, 47, 48, 49, 50, 51, 52, 53, 54, 55, 56, 57, 58, 59, 60, 61, 62, 63, 64, 65, 66, 67, 68, 69, 70, 71, 72, 73, 74, 75, 76, 77, 78, 79, 80, 81, 82, 83, 84, 85, 86, 87, 88, 89, 90, 91, 92, 93, 94, 95] (by decide +kernel) (by decide +kernel)
set_option maxRecDepth 20000 in
theorem gX8_tile_X8_isUnder : GoodIn wsX8_tile (wsV RX8 206 RX8 yX8_isUnder wsX8_isUnder) := goodIn_app (goodIn_of _ (by decide +kernel)) ggX8_tile_X8_isUnder
set_option maxRecDepth 20000 in
theorem ggX8_tile_X8_lying : GoodIn wsX8_tile wsX8_lying := goodIn_r _ [46, 47, 48, 49, 50, 51, 52, 53, 54, 55, 56, 57, 58, 59, 60, 61, 62, 63, 64, 65, 66, 67, 68, 69, 70, 71, 72, 73, 74, 75, 76, 77, 78, 79, 80, 81, 82, 83, 84, 85, 86, 87, 88, 89, 90, 91, 92, 93, 94, 95] (by decide +kernel) (by decide +kernel)
set_option maxRecDepth 20000 in
theorem gX8_tile_X8_lying : GoodIn wsX8_tile (wsV RX8 157 RX8 yX8_lying wsX8_lying) := goodIn_app (goodIn_of _ (by decide +kernel)) ggX8_tile_X8_lying
set_option maxRecDepth 20000 in
theorem ggX8_of_X8_isTile : GoodIn wsX8_of wsX8_isTile := goodIn_r _ [7, 8, 9, 10, 6, 11, 12, 13, 14, 15, 16, 22, 23, 24, 25, 26, 27, 28, 29, 30, 31, 32, 33, 34, 35, 36, 37, 38, 39, 40, 41, 42, 43, 44, 45, 46, 47, 48, 49, 50, 51, 52, 53, 54, 55, 56, 57, 58, 59, 60, 61, 62, 63, 64, 65, 66, 67, 68, 69] (by decide +kernel) (by decide +kernel)
set_option maxRecDepth 20000 in
theorem gX8_of_X8_isTile : GoodIn wsX8_of (wsV RX8 150 RX8 yX8_isTile wsX8_isTile) := goodIn_app (goodIn_of _ (by decide +kernel)) ggX8_of_X8_isTile
set_option maxRecDepth 20000 in
theorem ggX8_of_X8_no : GoodIn wsX8_of wsX8_no := goodIn_r _ [20, 21, 22, 23, 24, 25, 26, 27, 28, 29, 30, 31, 32, 33, 34, 35, 36, 37, 38, 39, 40, 41, 42, 43, 44, 45, 46, 47, 48, 49, 50, 51, 52, 53, 54, 55, 56, 57, 58, 59, 60, 61, 62, 63, 64, 65, 66, 67, 68, 69] (by decide +kernel) (by decide +kernel)
set_option maxRecDepth 20000 in
theorem gX8_of_X8_no : GoodIn wsX8_of (wsV RX8 13 RX8 yX8_no wsX8_no) := goodIn_app (goodIn_of _ (by decide +kernel)) ggX8_of_X8_no
set_option maxRecDepth 20000 in
theorem ggX8_of_X8_in : GoodIn wsX8_of wsX8_in := goodIn_r _ [16] (by decide +kernel) (by decide +kernel)
set_option maxRecDepth 20000 in
theorem gX8_of_X8_in : GoodIn wsX8_of (va_wsS RX8 129 yX8_in wsX8_in) := goodIn_app (goodIn_of _ (by decide +kernel)) ggX8_of_X8_in
set_option maxRecDepth 20000 in
theorem ggX8_places_X8_in : GoodIn wsX8_places wsX8_in := goodIn_r _ [11] (by decide +kernel) (by decide +kernel)
set_option maxRecDepth 20000 in
theorem gX8_places_X8_in : GoodIn wsX8_places (va_wsS RX8 129 yX8_in wsX8_in) := goodIn_app (goodIn_of _ (by decide +kernel)) ggX8_places_X8_in
set_option maxRecDepth 20000 in
theorem ggX8_places_X8_no : GoodIn wsX8_places wsX8_no := goodIn_r _ [15, 16, 58, 59, 60, 61, 62, 63, 64, 65, 66, 67, 68, 69, 70, 71, 72, 73, 74, 75, 76, 77, 78, 79, 80, 81, 82, 83, 84, 85, 86, 87, 88, 89, 90, 91, 92, 93, 94, 95, 96, 97, 98, 99, 100, 101, 102, 103, 104, 105] (by decide +kernel) (by decide +kernel)
set_option maxRecDepth 20000 in
theorem gX8_places_X8_no : GoodIn wsX8_places (wsV RX8 13 RX8 yX8_no wsX8_no) := goodIn_app (goodIn_of _ (by decide +kernel)) ggX8_places_X8_no
set_option maxRecDepth 20000 in
theorem ggX8_places_X8_isPlace : GoodIn wsX8_places wsX8_isPlace := goodIn_r _ [20, 21, 22, 23, 10, 24, 2, 25, 26, 27, 28, 29, 30, 8, 9, 11, 58, 59, 60, 61, 62, 63, 64, 65, 66, 67, 68, 69, 70, 71, 72, 73, 74, 75, 76, 77, 78, 79, 80, 81, 82, 83, 84, 85, 86, 87, 88, 89, 90, 91, 92, 93, 94, 95, 96, 97, 98, 99, 100, 101, 102, 103, 104, 105] (by decide +kernel) (by decide +kernel)
set_option maxRecDepth 20000 in
theorem gX8_places_X8_isPlace : GoodIn wsX8_places (wsV RX8 209 RX8 yX8_isPlace wsX8_isPlace) := goodIn_app (goodIn_of _ (by decide +kernel)) ggX8_places_X8_isPlace
set_option maxRecDepth 20000 in
theorem ggX8_places_X8_placesAt : GoodIn wsX8_places wsX8_placesAt := goodIn_r _ [34, 3, 5, 58, 59, 60, 61, 62, 63, 64, 65, 66, 67, 68, 69, 70, 71, 72, 73, 74, 75, 76, 77, 78, 79, 80, 81, 82, 83, 84, 85, 86, 87, 88, 89, 90, 91, 92, 93, 94, 95, 96, 97, 98, 99, 100, 101, 102, 103, 104, 105] (by decide +kernel) (by decide +kernel)
set_option maxRecDepth 20000 in
theorem gX8_places_X8_placesAt : GoodIn wsX8_places (wsV RX8 201 RX8 yX8_placesAt wsX8_placesAt) := goodIn_app (goodIn_of _ (by decide +kernel)) ggX8_places_X8_placesAt
set_option maxRecDepth 20000 in
theorem ggX8_places_X8_mayLie : GoodIn wsX8_places wsX8_mayLie := goodIn_r _ [38, 2, 39, 40, 41, 42, 43, 44, 10, 45, 3, 30, 29, 21, 22, 23, 24, 25, 26, 27, 28, 8, 9, 11, 46, 47, 48, 49, 50, 51, 52, 53, 54, 55, 56, 57, 5, 58, 59, 60, 61, 62, 63, 64, 65, 66, 67, 68, 69, 70, 71, 72, 73, 74, 75, 76, 77, 78, 79, 80, 81, 82, 83, 84, 85, 86, 87, 88, 89, 90, 91, 92, 93, 94, 95, 96, 97, 98, 99, 100, 101, 102, 103, 104, 105] (by decide +kernel) (by decide +kernel)
set_option maxRecDepth 20000 in
theorem gX8_places_X8_mayLie : GoodIn wsX8_places (wsV RX8 180 RX8 yX8_mayLie wsX8_mayLie) := goodIn_app (goodIn_of _ (by decide +kernel)) ggX8_places_X8_mayLie
set_option maxRecDepth 20000 in
theorem ggX8_ink_X8_in : GoodIn wsX8_ink wsX8_in := goodIn_r _ [5] (by decide +kernel) (by decide +kernel)
set_option maxRecDepth 20000 in
theorem gX8_ink_X8_in : GoodIn wsX8_ink (va_wsS RX8 129 yX8_in wsX8_in) := goodIn_app (goodIn_of _ (by decide +kernel)) ggX8_ink_X8_in
set_option maxRecDepth 20000 in
theorem ggX8_ink_X8_no : GoodIn wsX8_ink wsX8_no := goodIn_r _ [9, 10, 11, 12, 13, 14, 15, 16, 17, 18, 19, 20, 21, 22, 23, 24, 25, 26, 27, 28, 29, 30, 31, 32, 33, 34, 35, 36, 37, 38, 39, 40, 41, 42, 43, 44, 45, 46, 47, 48, 49, 50, 51, 52, 53, 54, 55, 56, 57, 58] (by decide +kernel) (by decide +kernel)
set_option maxRecDepth 20000 in
theorem gX8_ink_X8_no : GoodIn wsX8_ink (wsV RX8 13 RX8 yX8_no wsX8_no) := goodIn_app (goodIn_of _ (by decide +kernel)) ggX8_ink_X8_no
set_option maxRecDepth 20000 in
theorem ggX8_printed_X8_tileMany : GoodIn wsX8_printed wsX8_tileMany := goodIn_r _ [6, 7, 8, 9, 10, 11, 12, 13, 14, 15, 16, 17, 18, 19, 20, 21, 22, 23, 24, 25, 26, 27, 28, 29, 30, 31, 32, 33, 34, 35, 36, 37, 38, 39, 40, 41, 42, 43, 44, 45, 46, 47, 48, 49, 50, 51, 52, 53, 54, 55, 56] (by decide +kernel) (by decide +kernel)
set_option maxRecDepth 20000 in
theorem gX8_printed_X8_tileMany : GoodIn wsX8_printed (wsV RX8 125 RX8 yX8_tileMany wsX8_tileMany) := goodIn_app (goodIn_of _ (by decide +kernel)) ggX8_printed_X8_tileMany
set_option maxRecDepth 20000 in
theorem ggX8_wipes_X8_printed : GoodIn wsX8_wipes wsX8_printed := goodIn_r _ [6, 1, 7, 8, 9, 5, 10, 11, 12, 13, 14, 15, 16, 17, 18, 19, 20, 21, 22, 23, 24, 25, 26, 27, 28, 29, 30, 31, 32, 33, 34, 35, 36, 37, 38, 39, 40, 41, 42, 43, 44, 45, 46, 47, 48, 49, 50, 51, 52, 53, 54, 55, 56, 57, 58, 59, 60] (by decide +kernel) (by decide +kernel)
set_option maxRecDepth 20000 in
theorem gX8_wipes_X8_printed : GoodIn wsX8_wipes (wsV RX8 212 RX8 yX8_printed wsX8_printed) := goodIn_app (goodIn_of _ (by decide +kernel)) ggX8_wipes_X8_printed
set_option maxRecDepth 20000 in
theorem ggX8_solid_X8_in : GoodIn wsX8_solid wsX8_in := goodIn_r _ [13] (by decide +kernel) (by decide +kernel)
set_option maxRecDepth 20000 in
theorem gX8_solid_X8_in : GoodIn wsX8_solid (va_wsS RX8 129 yX8_in wsX8_in) := goodIn_app (goodIn_of _ (by decide +kernel)) ggX8_solid_X8_in
set_option maxRecDepth 20000 in
theorem ggX8_solid_X8_isTetra : GoodIn wsX8_solid wsX8_isTetra := goodIn_r _ [17, 6, 54, 55, 56, 57, 58, 59, 60, 61, 62, 63, 64, 65, 66, 67, 68, 69, 70, 71, 72, 73, 74, 75, 76, 77, 78, 79, 80, 81, 82, 83, 84, 85, 86, 87, 88, 89, 90, 91, 92, 93, 94, 95, 96, 97, 98, 99, 100, 101] (by decide +kernel) (by decide +kernel)
set_option maxRecDepth 20000 in
theorem gX8_solid_X8_isTetra : GoodIn wsX8_solid (wsV RX8 136 RX8 yX8_isTetra wsX8_isTetra) := goodIn_app (goodIn_of _ (by decide +kernel)) ggX8_solid_X8_isTetra
set_option maxRecDepth 20000 in
theorem ggX8_solid_X8_no : GoodIn wsX8_solid wsX8_no := goodIn_r _ [21, 22, 54, 55, 56, 57, 58, 59, 60, 61, 62, 63, 64, 65, 66, 67, 68, 69, 70, 71, 72, 73, 74, 75, 76, 77, 78, 79, 80, 81, 82, 83, 84, 85, 86, 87, 88, 89, 90, 91, 92, 93, 94, 95, 96, 97, 98, 99, 100, 101] (by decide +kernel) (by decide +kernel)
set_option maxRecDepth 20000 in
theorem gX8_solid_X8_no : GoodIn wsX8_solid (wsV RX8 13 RX8 yX8_no wsX8_no) := goodIn_app (goodIn_of _ (by decide +kernel)) ggX8_solid_X8_no
set_option maxRecDepth 20000 in
theorem ggX8_solid_X8_tellsUnder : GoodIn wsX8_solid wsX8_tellsUnder := goodIn_r _ [26, 8, 27, 7, 9, 28, 14, 15, 16, 12, 17, 6, 29, 30, 31, 32, 10, 11, 13, 33, 34, 35, 36, 37, 38, 39, 40, 41, 42, 43, 44, 45, 54, 55, 56, 57, 58, 59, 60, 61, 62, 63, 64, 65, 66, 67, 68, 69, 70, 71, 72, 73, 74, 75, 76, 77, 78, 79, 80, 81, 82, 83, 84, 85, 86, 87, 88, 89, 90, 91, 92, 93, 94, 95, 96, 97, 98, 99, 100, 101] (by decide +kernel) (by decide +kernel)
set_option maxRecDepth 20000 in
theorem gX8_solid_X8_tellsUnder : GoodIn wsX8_solid (wsV RX8 160 RX8 yX8_tellsUnder wsX8_tellsUnder) := goodIn_app (goodIn_of _ (by decide +kernel)) ggX8_solid_X8_tellsUnder
set_option maxRecDepth 20000 in
theorem ggX8_solid_X8_below : GoodIn wsX8_solid wsX8_below := goodIn_r _ [49, 45, 14, 15, 16, 12, 17, 6, 54, 55, 56, 57, 58, 59, 60, 61, 62, 63, 64, 65, 66, 67, 68, 69, 70, 71, 72, 73, 74, 75, 76, 77, 78, 79, 80, 81, 82, 83, 84, 85, 86, 87, 88, 89, 90, 91, 92, 93, 94, 95, 96, 97, 98, 99, 100, 101] (by decide +kernel) (by decide +kernel)
set_option maxRecDepth 20000 in
theorem gX8_solid_X8_below : GoodIn wsX8_solid (wsV RX8 221 RX8 yX8_below wsX8_below) := goodIn_app (goodIn_of _ (by decide +kernel)) ggX8_solid_X8_below
set_option maxRecDepth 20000 in
theorem ggX8_solid_X8_isBlock : GoodIn wsX8_solid wsX8_isBlock := goodIn_r _ [40, 6, 54, 55, 56, 57, 58, 59, 60, 61, 62, 63, 64, 65, 66, 67, 68, 69, 70, 71, 72, 73, 74, 75, 76, 77, 78, 79, 80, 81, 82, 83, 84, 85, 86, 87, 88, 89, 90, 91, 92, 93, 94, 95, 96, 97, 98, 99, 100, 101] (by decide +kernel) (by decide +kernel)
set_option maxRecDepth 20000 in
theorem gX8_solid_X8_isBlock : GoodIn wsX8_solid (wsV RX8 154 RX8 yX8_isBlock wsX8_isBlock) := goodIn_app (goodIn_of _ (by decide +kernel)) ggX8_solid_X8_isBlock
set_option maxRecDepth 20000 in
theorem ggX8_solid_X8_lying : GoodIn wsX8_solid wsX8_lying := goodIn_r _ [44, 45, 54, 55, 56, 57, 58, 59, 60, 61, 62, 63, 64, 65, 66, 67, 68, 69, 70, 71, 72, 73, 74, 75, 76, 77, 78, 79, 80, 81, 82, 83, 84, 85, 86, 87, 88, 89, 90, 91, 92, 93, 94, 95, 96, 97, 98, 99, 100, 101] (by decide +kernel) (by decide +kernel)
set_option maxRecDepth 20000 in
theorem gX8_solid_X8_lying : GoodIn wsX8_solid (wsV RX8 157 RX8 yX8_lying wsX8_lying) := goodIn_app (goodIn_of _ (by decide +kernel)) ggX8_solid_X8_lying
set_option maxRecDepth 20000 in
theorem ggX8_solid_X8_whereFace : GoodIn wsX8_solid wsX8_whereFace := goodIn_r _ [53, 45, 54, 55, 56, 57, 58, 59, 60, 61, 62, 63, 64, 65, 66, 67, 68, 69, 70, 71, 72, 73, 74, 75, 76, 77, 78, 79, 80, 81, 82, 83, 84, 85, 86, 87, 88, 89, 90, 91, 92, 93, 94, 95, 96, 97, 98, 99, 100, 101] (by decide +kernel) (by decide +kernel)
set_option maxRecDepth 20000 in
theorem gX8_solid_X8_whereFace : GoodIn wsX8_solid (wsV RX8 224 RX8 yX8_whereFace wsX8_whereFace) := goodIn_app (goodIn_of _ (by decide +kernel)) ggX8_solid_X8_whereFace
set_option maxRecDepth 20000 in
theorem ggX8_rollsTruly_X8_keeps1 : GoodIn wsX8_rollsTruly wsX8_keeps1 := goodIn_r _ [14, 1, 4, 5, 3, 84, 85, 86, 87, 88, 89, 90, 91, 92, 93, 94, 95, 96, 97, 98, 99, 100, 101, 102, 103, 104, 105, 106, 107, 108, 109, 110, 111, 112, 113, 114, 115, 116, 117, 118, 119, 120, 121, 122, 123, 124, 125, 126, 127, 128, 129, 130, 131] (by decide +kernel) (by decide +kernel)
set_option maxRecDepth 20000 in
theorem gX8_rollsTruly_X8_keeps1 : GoodIn wsX8_rollsTruly (wsV RX8 227 RX8 yX8_keeps1 wsX8_keeps1) := goodIn_app (goodIn_of _ (by decide +kernel)) ggX8_rollsTruly_X8_keeps1
set_option maxRecDepth 20000 in
theorem ggX8_rollsTruly_X8_rolls : GoodIn wsX8_rollsTruly wsX8_rolls := goodIn_r _ [18, 1, 2, 3, 19, 20, 21, 13, 22, 23, 24, 25, 26, 27, 28, 29, 8, 30, 31, 32, 33, 34, 35, 36, 37, 38, 39, 40, 41, 42, 43, 44, 45, 46, 47, 48, 49, 50, 51, 52, 53, 54, 55, 56, 57, 58, 59, 60, 6, 61, 9, 62, 63, 64, 65, 66, 67, 68, 69, 70, 71, 72, 73, 84, 85, 86, 87, 88, 89, 90, 91, 92, 93, 94, 95, 96, 97, 98, 99, 100, 101, 102, 103, 104, 105, 106, 107, 108, 109, 110, 111, 112, 113, 114, 115, 116, 117, 118, 119, 120, 121, 122, 123, 124, 125, 126, 127, 128, 129, 130, 131] (by decide +kernel) (by decide +kernel)
set_option maxRecDepth 20000 in
theorem gX8_rollsTruly_X8_rolls : GoodIn wsX8_rollsTruly (wsV RX8 230 RX8 yX8_rolls wsX8_rolls) := goodIn_app (goodIn_of _ (by decide +kernel)) ggX8_rollsTruly_X8_rolls
set_option maxRecDepth 20000 in
theorem ggX8_rollsTruly_X8_keeps : GoodIn wsX8_rollsTruly wsX8_keeps := goodIn_r _ [77, 78, 79, 1, 3, 8, 84, 85, 86, 87, 88, 89, 90, 91, 92, 93, 94, 95, 96, 97, 98, 99, 100, 101, 102, 103, 104, 105, 106, 107, 108, 109, 110, 111, 112, 113, 114, 115, 116, 117, 118, 119, 120, 121, 122, 123, 124, 125, 126, 127, 128, 129, 130, 131] (by decide +kernel) (by decide +kernel)
set_option maxRecDepth 20000 in
theorem gX8_rollsTruly_X8_keeps : GoodIn wsX8_rollsTruly (wsV RX8 236 RX8 yX8_keeps wsX8_keeps) := goodIn_app (goodIn_of _ (by decide +kernel)) ggX8_rollsTruly_X8_keeps
set_option maxRecDepth 20000 in
theorem ggX8_rollsTruly_X8_tellsUnder : GoodIn wsX8_rollsTruly wsX8_tellsUnder := goodIn_r _ [65, 6, 9, 1, 28, 29, 19, 20, 21, 13, 22, 23, 66, 67, 68, 69, 30, 31, 32, 70, 71, 72, 73, 45, 46, 47, 48, 49, 50, 51, 52, 3, 84, 85, 86, 87, 88, 89, 90, 91, 92, 93, 94, 95, 96, 97, 98, 99, 100, 101, 102, 103, 104, 105, 106, 107, 108, 109, 110, 111, 112, 113, 114, 115, 116, 117, 118, 119, 120, 121, 122, 123, 124, 125, 126, 127, 128, 129, 130, 131] (by decide +kernel) (by decide +kernel)
set_option maxRecDepth 20000 in
theorem gX8_rollsTruly_X8_tellsUnder : GoodIn wsX8_rollsTruly (wsV RX8 160 RX8 yX8_tellsUnder wsX8_tellsUnder) := goodIn_app (goodIn_of _ (by decide +kernel)) ggX8_rollsTruly_X8_tellsUnder
set_option maxRecDepth 20000 in
theorem ggX8_rollsTruly_X8_below : GoodIn wsX8_rollsTruly wsX8_below := goodIn_r _ [83, 3, 19, 20, 21, 13, 22, 23, 84, 85, 86, 87, 88, 89, 90, 91, 92, 93, 94, 95, 96, 97, 98, 99, 100, 101, 102, 103, 104, 105, 106, 107, 108, 109, 110, 111, 112, 113, 114, 115, 116, 117, 118, 119, 120, 121, 122, 123, 124, 125, 126, 127, 128, 129, 130, 131] (by decide +kernel) (by decide +kernel)
set_option maxRecDepth 20000 in
theorem gX8_rollsTruly_X8_below : GoodIn wsX8_rollsTruly (wsV RX8 221 RX8 yX8_below wsX8_below) := goodIn_app (goodIn_of _ (by decide +kernel)) ggX8_rollsTruly_X8_below
set_option maxRecDepth 20000 in
theorem ggX8_roll_X8_in : GoodIn wsX8_roll wsX8_in := goodIn_r _ [6] (by decide +kernel) (by decide +kernel)
set_option maxRecDepth 20000 in
theorem gX8_roll_X8_in : GoodIn wsX8_roll (va_wsS RX8 129 yX8_in wsX8_in) := goodIn_app (goodIn_of _ (by decide +kernel)) ggX8_roll_X8_in
set_option maxRecDepth 20000 in
theorem ggX8_roll_X8_no : GoodIn wsX8_roll wsX8_no := goodIn_r _ [10, 11, 95, 96, 97, 98, 99, 100, 101, 102, 103, 104, 105, 106, 107, 108, 109, 110, 111, 112, 113, 114, 115, 116, 117, 118, 119, 120, 121, 122, 123, 124, 125, 126, 127, 128, 129, 130, 131, 132, 133, 134, 135, 136, 137, 138, 139, 140, 141, 142] (by decide +kernel) (by decide +kernel)
set_option maxRecDepth 20000 in
theorem gX8_roll_X8_no : GoodIn wsX8_roll (wsV RX8 13 RX8 yX8_no wsX8_no) := goodIn_app (goodIn_of _ (by decide +kernel)) ggX8_roll_X8_no
set_option maxRecDepth 20000 in
theorem ggX8_roll_X8_rollsTruly : GoodIn wsX8_roll wsX8_rollsTruly := goodIn_r _ [15, 16, 17, 18, 19, 20, 21, 22, 23, 24, 25, 26, 27, 5, 28, 29, 30, 31, 32, 33, 34, 35, 36, 37, 38, 39, 40, 41, 42, 43, 3, 4, 6, 44, 45, 46, 47, 48, 49, 50, 51, 52, 53, 54, 55, 56, 57, 58, 59, 60, 61, 62, 63, 64, 65, 66, 67, 68, 69, 70, 71, 72, 73, 74, 75, 76, 77, 78, 79, 80, 81, 82, 83, 84, 85, 86, 87, 88, 89, 90, 91, 92, 93, 94, 95, 96, 97, 98, 99, 100, 101, 102, 103, 104, 105, 106, 107, 108, 109, 110, 111, 112, 113, 114, 115, 116, 117, 118, 119, 120, 121, 122, 123, 124, 125, 126, 127, 128, 129, 130, 131, 132, 133, 134, 135, 136, 137, 138, 139, 140, 141, 142] (by decide +kernel) (by decide +kernel)
set_option maxRecDepth 20000 in
theorem gX8_roll_X8_rollsTruly : GoodIn wsX8_roll (wsV RX8 239 RX8 yX8_rollsTruly wsX8_rollsTruly) := goodIn_app (goodIn_of _ (by decide +kernel)) ggX8_roll_X8_rollsTruly
set_option maxRecDepth 20000 in
theorem ggX8_roll_X8_below : GoodIn wsX8_roll wsX8_below := goodIn_r _ [94, 18, 33, 34, 35, 5, 36, 37, 95, 96, 97, 98, 99, 100, 101, 102, 103, 104, 105, 106, 107, 108, 109, 110, 111, 112, 113, 114, 115, 116, 117, 118, 119, 120, 121, 122, 123, 124, 125, 126, 127, 128, 129, 130, 131, 132, 133, 134, 135, 136, 137, 138, 139, 140, 141, 142] (by decide +kernel) (by decide +kernel)
set_option maxRecDepth 20000 in
theorem gX8_roll_X8_below : GoodIn wsX8_roll (wsV RX8 221 RX8 yX8_below wsX8_below) := goodIn_app (goodIn_of _ (by decide +kernel)) ggX8_roll_X8_below
set_option maxRecDepth 20000 in
theorem ggX8_ways_X8_no : GoodIn wsX8_ways wsX8_no := goodIn_r _ [6, 7, 83, 84, 85, 86, 87, 88, 89, 90, 91, 92, 93, 94, 95, 96, 97, 98, 99, 100, 101, 102, 103, 104, 105, 106, 107, 108, 109, 110, 111, 112, 113, 114, 115, 116, 117, 118, 119, 120, 121, 122, 123, 124, 125, 126, 127, 128, 129, 130] (by decide +kernel) (by decide +kernel)
set_option maxRecDepth 20000 in
theorem gX8_ways_X8_no : GoodIn wsX8_ways (wsV RX8 13 RX8 yX8_no wsX8_no) := goodIn_app (goodIn_of _ (by decide +kernel)) ggX8_ways_X8_no
set_option maxRecDepth 20000 in
theorem ggX8_ways_X8_keeps1 : GoodIn wsX8_ways wsX8_keeps1 := goodIn_r _ [11, 12, 13, 14, 15, 83, 84, 85, 86, 87, 88, 89, 90, 91, 92, 93, 94, 95, 96, 97, 98, 99, 100, 101, 102, 103, 104, 105, 106, 107, 108, 109, 110, 111, 112, 113, 114, 115, 116, 117, 118, 119, 120, 121, 122, 123, 124, 125, 126, 127, 128, 129, 130] (by decide +kernel) (by decide +kernel)
set_option maxRecDepth 20000 in
theorem gX8_ways_X8_keeps1 : GoodIn wsX8_ways (wsV RX8 227 RX8 yX8_keeps1 wsX8_keeps1) := goodIn_app (goodIn_of _ (by decide +kernel)) ggX8_ways_X8_keeps1
set_option maxRecDepth 20000 in
theorem ggX8_ways_X8_rolls : GoodIn wsX8_ways wsX8_rolls := goodIn_r _ [19, 12, 20, 15, 21, 22, 23, 5, 24, 25, 26, 27, 28, 29, 30, 31, 32, 33, 34, 35, 36, 37, 38, 39, 40, 41, 42, 43, 44, 45, 46, 47, 48, 49, 50, 51, 52, 53, 54, 55, 56, 57, 58, 59, 60, 61, 62, 63, 64, 65, 66, 67, 68, 69, 70, 71, 72, 73, 74, 75, 76, 77, 78, 83, 84, 85, 86, 87, 88, 89, 90, 91, 92, 93, 94, 95, 96, 97, 98, 99, 100, 101, 102, 103, 104, 105, 106, 107, 108, 109, 110, 111, 112, 113, 114, 115, 116, 117, 118, 119, 120, 121, 122, 123, 124, 125, 126, 127, 128, 129, 130] (by decide +kernel) (by decide +kernel)
set_option maxRecDepth 20000 in
theorem gX8_ways_X8_rolls : GoodIn wsX8_ways (wsV RX8 230 RX8 yX8_rolls wsX8_rolls) := goodIn_app (goodIn_of _ (by decide +kernel)) ggX8_ways_X8_rolls
set_option maxRecDepth 20000 in
theorem ggX8_ways_X8_lays1 : GoodIn wsX8_ways wsX8_lays1 := goodIn_r _ [82, 13, 12, 15, 14, 83, 84, 85, 86, 87, 88, 89, 90, 91, 92, 93, 94, 95, 96, 97, 98, 99, 100, 101, 102, 103, 104, 105, 106, 107, 108, 109, 110, 111, 112, 113, 114, 115, 116, 117, 118, 119, 120, 121, 122, 123, 124, 125, 126, 127, 128, 129, 130] (by decide +kernel) (by decide +kernel)
set_option maxRecDepth 20000 in
theorem gX8_ways_X8_lays1 : GoodIn wsX8_ways (wsV RX8 242 RX8 yX8_lays1 wsX8_lays1) := goodIn_app (goodIn_of _ (by decide +kernel)) ggX8_ways_X8_lays1
set_option maxRecDepth 20000 in
theorem ggX8_walks_X8_no : GoodIn wsX8_walks wsX8_no := goodIn_r _ [8, 9, 99, 100, 101, 102, 103, 104, 105, 106, 107, 108, 109, 110, 111, 112, 113, 114, 115, 116, 117, 118, 119, 120, 121, 122, 123, 124, 125, 126, 127, 128, 129, 130, 131, 132, 133, 134, 135, 136, 137, 138, 139, 140, 141, 142, 143, 144, 145, 146] (by decide +kernel) (by decide +kernel)
set_option maxRecDepth 20000 in
theorem gX8_walks_X8_no : GoodIn wsX8_walks (wsV RX8 13 RX8 yX8_no wsX8_no) := goodIn_app (goodIn_of _ (by decide +kernel)) ggX8_walks_X8_no
set_option maxRecDepth 20000 in
theorem ggX8_walks_X8_wayOf : GoodIn wsX8_walks wsX8_wayOf := goodIn_r _ [12] (by decide +kernel) (by decide +kernel)
set_option maxRecDepth 20000 in
theorem gX8_walks_X8_wayOf : GoodIn wsX8_walks (va_wsS RX8 245 yX8_wayOf wsX8_wayOf) := goodIn_app (goodIn_of _ (by decide +kernel)) ggX8_walks_X8_wayOf
set_option maxRecDepth 20000 in
theorem ggX8_walks_X8_rollsTruly : GoodIn wsX8_walks wsX8_rollsTruly := goodIn_r _ [16, 17, 18, 19, 20, 21, 22, 23, 24, 25, 26, 27, 28, 7, 29, 30, 31, 32, 33, 34, 35, 36, 37, 38, 39, 40, 41, 42, 43, 44, 45, 46, 47, 48, 49, 50, 51, 52, 53, 54, 55, 56, 57, 58, 59, 60, 61, 62, 63, 64, 65, 66, 67, 68, 69, 70, 71, 72, 73, 74, 75, 76, 77, 78, 79, 80, 81, 82, 83, 84, 85, 86, 87, 88, 89, 90, 91, 92, 93, 94, 95, 96, 97, 98, 99, 100, 101, 102, 103, 104, 105, 106, 107, 108, 109, 110, 111, 112, 113, 114, 115, 116, 117, 118, 119, 120, 121, 122, 123, 124, 125, 126, 127, 128, 129, 130, 131, 132, 133, 134, 135, 136, 137, 138, 139, 140, 141, 142, 143, 144, 145, 146] (by decide +kernel) (by decide +kernel)
set_option maxRecDepth 20000 in
theorem gX8_walks_X8_rollsTruly : GoodIn wsX8_walks (wsV RX8 239 RX8 yX8_rollsTruly wsX8_rollsTruly) := goodIn_app (goodIn_of _ (by decide +kernel)) ggX8_walks_X8_rollsTruly
set_option maxRecDepth 20000 in
theorem ggX8_judge_X8_no : GoodIn wsX8_judge wsX8_no := goodIn_r _ [9, 10, 88, 89, 90, 91, 92, 93, 94, 95, 96, 97, 98, 99, 100, 101, 102, 103, 104, 105, 106, 107, 108, 109, 110, 111, 112, 113, 114, 115, 116, 117, 118, 119, 120, 121, 122, 123, 124, 125, 126, 127, 128, 129, 130, 131, 132, 133, 134, 135] (by decide +kernel) (by decide +kernel)
set_option maxRecDepth 20000 in
theorem gX8_judge_X8_no : GoodIn wsX8_judge (wsV RX8 13 RX8 yX8_no wsX8_no) := goodIn_app (goodIn_of _ (by decide +kernel)) ggX8_judge_X8_no
set_option maxRecDepth 20000 in
theorem ggX8_judge_X8_keeps1 : GoodIn wsX8_judge wsX8_keeps1 := goodIn_r _ [14, 2, 15, 16, 17, 88, 89, 90, 91, 92, 93, 94, 95, 96, 97, 98, 99, 100, 101, 102, 103, 104, 105, 106, 107, 108, 109, 110, 111, 112, 113, 114, 115, 116, 117, 118, 119, 120, 121, 122, 123, 124, 125, 126, 127, 128, 129, 130, 131, 132, 133, 134, 135] (by decide +kernel) (by decide +kernel)
set_option maxRecDepth 20000 in
theorem gX8_judge_X8_keeps1 : GoodIn wsX8_judge (wsV RX8 227 RX8 yX8_keeps1 wsX8_keeps1) := goodIn_app (goodIn_of _ (by decide +kernel)) ggX8_judge_X8_keeps1
set_option maxRecDepth 20000 in
theorem ggX8_judge_X8_wayOf : GoodIn wsX8_judge wsX8_wayOf := goodIn_r _ [20] (by decide +kernel) (by decide +kernel)
set_option maxRecDepth 20000 in
theorem gX8_judge_X8_wayOf : GoodIn wsX8_judge (va_wsS RX8 245 yX8_wayOf wsX8_wayOf) := goodIn_app (goodIn_of _ (by decide +kernel)) ggX8_judge_X8_wayOf
set_option maxRecDepth 20000 in
theorem ggX8_judge_X8_rolls : GoodIn wsX8_judge wsX8_rolls := goodIn_r _ [24, 2, 25, 17, 26, 27, 28, 8, 29, 30, 31, 32, 33, 34, 35, 36, 37, 38, 39, 40, 41, 42, 43, 44, 45, 46, 47, 48, 49, 50, 51, 52, 53, 54, 55, 56, 57, 58, 59, 60, 61, 62, 63, 64, 65, 66, 67, 68, 69, 70, 71, 72, 73, 74, 75, 76, 77, 78, 79, 80, 81, 82, 83, 88, 89, 90, 91, 92, 93, 94, 95, 96, 97, 98, 99, 100, 101, 102, 103, 104, 105, 106, 107, 108, 109, 110, 111, 112, 113, 114, 115, 116, 117, 118, 119, 120, 121, 122, 123, 124, 125, 126, 127, 128, 129, 130, 131, 132, 133, 134, 135] (by decide +kernel) (by decide +kernel)
set_option maxRecDepth 20000 in
theorem gX8_judge_X8_rolls : GoodIn wsX8_judge (wsV RX8 230 RX8 yX8_rolls wsX8_rolls) := goodIn_app (goodIn_of _ (by decide +kernel)) ggX8_judge_X8_rolls
set_option maxRecDepth 20000 in
theorem ggX8_judge_X8_lays1 : GoodIn wsX8_judge wsX8_lays1 := goodIn_r _ [87, 15, 2, 17, 16, 88, 89, 90, 91, 92, 93, 94, 95, 96, 97, 98, 99, 100, 101, 102, 103, 104, 105, 106, 107, 108, 109, 110, 111, 112, 113, 114, 115, 116, 117, 118, 119, 120, 121, 122, 123, 124, 125, 126, 127, 128, 129, 130, 131, 132, 133, 134, 135] (by decide +kernel) (by decide +kernel)
set_option maxRecDepth 20000 in
theorem gX8_judge_X8_lays1 : GoodIn wsX8_judge (wsV RX8 242 RX8 yX8_lays1 wsX8_lays1) := goodIn_app (goodIn_of _ (by decide +kernel)) ggX8_judge_X8_lays1
set_option maxRecDepth 20000 in
theorem ggX8_undo_X8_no : GoodIn wsX8_undo wsX8_no := goodIn_r _ [10, 11, 12, 13, 14, 15, 16, 17, 18, 19, 20, 21, 22, 23, 24, 25, 26, 27, 28, 29, 30, 31, 32, 33, 34, 35, 36, 37, 38, 39, 40, 41, 42, 43, 44, 45, 46, 47, 48, 49, 50, 51, 52, 53, 54, 55, 56, 57, 58, 59] (by decide +kernel) (by decide +kernel)
set_option maxRecDepth 20000 in
theorem gX8_undo_X8_no : GoodIn wsX8_undo (wsV RX8 13 RX8 yX8_no wsX8_no) := goodIn_app (goodIn_of _ (by decide +kernel)) ggX8_undo_X8_no
set_option maxRecDepth 20000 in
theorem ggX8_key_X8_isTetra : GoodIn wsX8_key wsX8_isTetra := goodIn_r _ [7, 8, 9, 10, 11, 12, 13, 14, 15, 16, 17, 18, 19, 20, 21, 22, 23, 24, 25, 26, 27, 28, 29, 30, 31, 32, 33, 34, 35, 36, 37, 38, 39, 40, 41, 42, 43, 44, 45, 46, 47, 48, 49, 50, 51, 52, 53, 54, 55, 56] (by decide +kernel) (by decide +kernel)
set_option maxRecDepth 20000 in
theorem gX8_key_X8_isTetra : GoodIn wsX8_key (wsV RX8 136 RX8 yX8_isTetra wsX8_isTetra) := goodIn_app (goodIn_of _ (by decide +kernel)) ggX8_key_X8_isTetra
set_option maxRecDepth 20000 in
theorem ggX8_found_X8_key : GoodIn wsX8_found wsX8_key := goodIn_r _ [12, 4, 6, 13, 14, 15, 11, 16, 17, 18, 19, 20, 21, 22, 23, 24, 25, 26, 27, 28, 29, 30, 31, 32, 33, 34, 35, 36, 37, 38, 39, 40, 41, 42, 43, 44, 45, 46, 47, 48, 49, 50, 51, 52, 53, 54, 55, 56, 57, 58, 59, 60, 61, 62, 63, 64, 65] (by decide +kernel) (by decide +kernel)
set_option maxRecDepth 20000 in
theorem gX8_found_X8_key : GoodIn wsX8_found (wsV RX8 248 RX8 yX8_key wsX8_key) := goodIn_app (goodIn_of _ (by decide +kernel)) ggX8_found_X8_key
set_option maxRecDepth 20000 in
theorem ggX8_goesThrough_X8_keeps1 : GoodIn wsX8_goesThrough wsX8_keeps1 := goodIn_r _ [10, 11, 12, 13, 14, 96, 97, 98, 99, 100, 101, 102, 103, 104, 105, 106, 107, 108, 109, 110, 111, 112, 113, 114, 115, 116, 117, 118, 119, 120, 121, 122, 123, 124, 125, 126, 127, 128, 129, 130, 131, 132, 133, 134, 135, 136, 137, 138, 139, 140, 141, 142, 143] (by decide +kernel) (by decide +kernel)
set_option maxRecDepth 20000 in
theorem gX8_goesThrough_X8_keeps1 : GoodIn wsX8_goesThrough (wsV RX8 227 RX8 yX8_keeps1 wsX8_keeps1) := goodIn_app (goodIn_of _ (by decide +kernel)) ggX8_goesThrough_X8_keeps1
set_option maxRecDepth 20000 in
theorem ggX8_goesThrough_X8_found : GoodIn wsX8_goesThrough wsX8_found := goodIn_r _ [18, 1, 2, 19, 11, 20, 14, 5, 21, 22, 23, 9, 24, 25, 26, 27, 28, 29, 96, 97, 98, 99, 100, 101, 102, 103, 104, 105, 106, 107, 108, 109, 110, 111, 112, 113, 114, 115, 116, 117, 118, 119, 120, 121, 122, 123, 124, 125, 126, 127, 128, 129, 130, 131, 132, 133, 134, 135, 136, 137, 138, 139, 140, 141, 142, 143] (by decide +kernel) (by decide +kernel)
set_option maxRecDepth 20000 in
theorem gX8_goesThrough_X8_found : GoodIn wsX8_goesThrough (wsV RX8 257 RX8 yX8_found wsX8_found) := goodIn_app (goodIn_of _ (by decide +kernel)) ggX8_goesThrough_X8_found
set_option maxRecDepth 20000 in
theorem ggX8_goesThrough_X8_loads : GoodIn wsX8_goesThrough wsX8_loads := goodIn_r _ [33, 19, 11, 14, 20, 96, 97, 98, 99, 100, 101, 102, 103, 104, 105, 106, 107, 108, 109, 110, 111, 112, 113, 114, 115, 116, 117, 118, 119, 120, 121, 122, 123, 124, 125, 126, 127, 128, 129, 130, 131, 132, 133, 134, 135, 136, 137, 138, 139, 140, 141, 142, 143] (by decide +kernel) (by decide +kernel)
set_option maxRecDepth 20000 in
theorem gX8_goesThrough_X8_loads : GoodIn wsX8_goesThrough (wsV RX8 260 RX8 yX8_loads wsX8_loads) := goodIn_app (goodIn_of _ (by decide +kernel)) ggX8_goesThrough_X8_loads
set_option maxRecDepth 20000 in
theorem ggX8_goesThrough_X8_rolls : GoodIn wsX8_goesThrough wsX8_rolls := goodIn_r _ [37, 11, 38, 14, 25, 26, 27, 9, 28, 29, 39, 40, 41, 42, 43, 44, 45, 46, 47, 48, 49, 50, 51, 52, 53, 54, 55, 56, 57, 58, 59, 60, 61, 62, 63, 64, 65, 66, 67, 68, 69, 70, 71, 72, 73, 74, 75, 76, 77, 78, 79, 80, 81, 82, 83, 84, 85, 86, 87, 88, 89, 90, 91, 96, 97, 98, 99, 100, 101, 102, 103, 104, 105, 106, 107, 108, 109, 110, 111, 112, 113, 114, 115, 116, 117, 118, 119, 120, 121, 122, 123, 124, 125, 126, 127, 128, 129, 130, 131, 132, 133, 134, 135, 136, 137, 138, 139, 140, 141, 142, 143] (by decide +kernel) (by decide +kernel)
set_option maxRecDepth 20000 in
theorem gX8_goesThrough_X8_rolls : GoodIn wsX8_goesThrough (wsV RX8 230 RX8 yX8_rolls wsX8_rolls) := goodIn_app (goodIn_of _ (by decide +kernel)) ggX8_goesThrough_X8_rolls
set_option maxRecDepth 20000 in
theorem ggX8_goesThrough_X8_lays1 : GoodIn wsX8_goesThrough wsX8_lays1 := goodIn_r _ [95, 12, 11, 14, 13, 96, 97, 98, 99, 100, 101, 102, 103, 104, 105, 106, 107, 108, 109, 110, 111, 112, 113, 114, 115, 116, 117, 118, 119, 120, 121, 122, 123, 124, 125, 126, 127, 128, 129, 130, 131, 132, 133, 134, 135, 136, 137, 138, 139, 140, 141, 142, 143] (by decide +kernel) (by decide +kernel)
set_option maxRecDepth 20000 in
theorem gX8_goesThrough_X8_lays1 : GoodIn wsX8_goesThrough (wsV RX8 242 RX8 yX8_lays1 wsX8_lays1) := goodIn_app (goodIn_of _ (by decide +kernel)) ggX8_goesThrough_X8_lays1
set_option maxRecDepth 20000 in
theorem ggX8_reached_X8_in : GoodIn wsX8_reached wsX8_in := goodIn_r _ [8] (by decide +kernel) (by decide +kernel)
set_option maxRecDepth 20000 in
theorem gX8_reached_X8_in : GoodIn wsX8_reached (va_wsS RX8 129 yX8_in wsX8_in) := goodIn_app (goodIn_of _ (by decide +kernel)) ggX8_reached_X8_in
set_option maxRecDepth 20000 in
theorem ggX8_reached_X8_no : GoodIn wsX8_reached wsX8_no := goodIn_r _ [12, 13, 117, 118, 119, 120, 121, 122, 123, 124, 125, 126, 127, 128, 129, 130, 131, 132, 133, 134, 135, 136, 137, 138, 139, 140, 141, 142, 143, 144, 145, 146, 147, 148, 149, 150, 151, 152, 153, 154, 155, 156, 157, 158, 159, 160, 161, 162, 163, 164] (by decide +kernel) (by decide +kernel)
set_option maxRecDepth 20000 in
theorem gX8_reached_X8_no : GoodIn wsX8_reached (wsV RX8 13 RX8 yX8_no wsX8_no) := goodIn_app (goodIn_of _ (by decide +kernel)) ggX8_reached_X8_no
set_option maxRecDepth 20000 in
theorem ggX8_reached_X8_goesThrough : GoodIn wsX8_reached wsX8_goesThrough := goodIn_r _ [17, 18, 3, 19, 20, 4, 21, 22, 23, 7, 24, 25, 26, 27, 28, 29, 30, 31, 32, 33, 34, 35, 36, 37, 38, 39, 40, 41, 42, 43, 44, 45, 46, 47, 48, 49, 50, 51, 52, 53, 54, 55, 56, 57, 58, 59, 5, 6, 8, 60, 61, 62, 63, 64, 65, 66, 67, 68, 69, 70, 71, 72, 73, 74, 75, 76, 77, 78, 79, 80, 81, 82, 83, 84, 85, 86, 87, 88, 89, 90, 91, 92, 93, 94, 95, 96, 97, 98, 99, 100, 101, 102, 103, 104, 105, 106, 117, 118, 119, 120, 121, 122, 123, 124, 125, 126, 127, 128, 129, 130, 131, 132, 133, 134, 135, 136, 137, 138, 139, 140, 141, 142, 143, 144, 145, 146, 147, 148, 149, 150, 151, 152, 153, 154, 155, 156, 157, 158, 159, 160, 161, 162, 163, 164] (by decide +kernel) (by decide +kernel)
set_option maxRecDepth 20000 in
theorem gX8_reached_X8_goesThrough : GoodIn wsX8_reached (wsV RX8 263 RX8 yX8_goesThrough wsX8_goesThrough) := goodIn_app (goodIn_of _ (by decide +kernel)) ggX8_reached_X8_goesThrough
set_option maxRecDepth 20000 in
theorem ggX8_reached_X8_placesReached : GoodIn wsX8_reached wsX8_placesReached := goodIn_r _ [110, 111, 3, 33, 117, 118, 119, 120, 121, 122, 123, 124, 125, 126, 127, 128, 129, 130, 131, 132, 133, 134, 135, 136, 137, 138, 139, 140, 141, 142, 143, 144, 145, 146, 147, 148, 149, 150, 151, 152, 153, 154, 155, 156, 157, 158, 159, 160, 161, 162, 163, 164] (by decide +kernel) (by decide +kernel)
set_option maxRecDepth 20000 in
theorem gX8_reached_X8_placesReached : GoodIn wsX8_reached (wsV RX8 266 RX8 yX8_placesReached wsX8_placesReached) := goodIn_app (goodIn_of _ (by decide +kernel)) ggX8_reached_X8_placesReached
set_option maxRecDepth 20000 in
theorem ggX8_reached_X8_isEven : GoodIn wsX8_reached wsX8_isEven := goodIn_r _ [115, 3, 116, 20, 117, 118, 119, 120, 121, 122, 123, 124, 125, 126, 127, 128, 129, 130, 131, 132, 133, 134, 135, 136, 137, 138, 139, 140, 141, 142, 143, 144, 145, 146, 147, 148, 149, 150, 151, 152, 153, 154, 155, 156, 157, 158, 159, 160, 161, 162, 163, 164] (by decide +kernel) (by decide +kernel)
set_option maxRecDepth 20000 in
theorem gX8_reached_X8_isEven : GoodIn wsX8_reached (wsV RX8 269 RX8 yX8_isEven wsX8_isEven) := goodIn_app (goodIn_of _ (by decide +kernel)) ggX8_reached_X8_isEven
set_option maxRecDepth 20000 in
theorem ggX8_isGoal_X8_keeps2 : GoodIn wsX8_isGoal wsX8_keeps2 := goodIn_r _ [6, 7, 8, 9, 10, 37, 38, 39, 40, 41, 42, 43, 44, 45, 46, 47, 48, 49, 50, 51, 52, 53, 54, 55, 56, 57, 58, 59, 60, 61, 62, 63, 64, 65, 66, 67, 68, 69, 70, 71, 72, 73, 74, 75, 76, 77, 78, 79, 80, 81, 82, 83, 84] (by decide +kernel) (by decide +kernel)
set_option maxRecDepth 20000 in
theorem gX8_isGoal_X8_keeps2 : GoodIn wsX8_isGoal (wsV RX8 272 RX8 yX8_keeps2 wsX8_keeps2) := goodIn_app (goodIn_of _ (by decide +kernel)) ggX8_isGoal_X8_keeps2
set_option maxRecDepth 20000 in
theorem ggX8_isGoal_X8_loads : GoodIn wsX8_isGoal wsX8_loads := goodIn_r _ [14, 1, 7, 10, 15, 37, 38, 39, 40, 41, 42, 43, 44, 45, 46, 47, 48, 49, 50, 51, 52, 53, 54, 55, 56, 57, 58, 59, 60, 61, 62, 63, 64, 65, 66, 67, 68, 69, 70, 71, 72, 73, 74, 75, 76, 77, 78, 79, 80, 81, 82, 83, 84] (by decide +kernel) (by decide +kernel)
set_option maxRecDepth 20000 in
theorem gX8_isGoal_X8_loads : GoodIn wsX8_isGoal (wsV RX8 260 RX8 yX8_loads wsX8_loads) := goodIn_app (goodIn_of _ (by decide +kernel)) ggX8_isGoal_X8_loads
set_option maxRecDepth 20000 in
theorem ggX8_isGoal_X8_below : GoodIn wsX8_isGoal wsX8_below := goodIn_r _ [19, 10, 20, 21, 22, 5, 23, 24, 37, 38, 39, 40, 41, 42, 43, 44, 45, 46, 47, 48, 49, 50, 51, 52, 53, 54, 55, 56, 57, 58, 59, 60, 61, 62, 63, 64, 65, 66, 67, 68, 69, 70, 71, 72, 73, 74, 75, 76, 77, 78, 79, 80, 81, 82, 83, 84] (by decide +kernel) (by decide +kernel)
set_option maxRecDepth 20000 in
theorem gX8_isGoal_X8_below : GoodIn wsX8_isGoal (wsV RX8 221 RX8 yX8_below wsX8_below) := goodIn_app (goodIn_of _ (by decide +kernel)) ggX8_isGoal_X8_below
set_option maxRecDepth 20000 in
theorem ggX8_isGoal_X8_isBlock : GoodIn wsX8_isGoal wsX8_isBlock := goodIn_r _ [28, 24, 37, 38, 39, 40, 41, 42, 43, 44, 45, 46, 47, 48, 49, 50, 51, 52, 53, 54, 55, 56, 57, 58, 59, 60, 61, 62, 63, 64, 65, 66, 67, 68, 69, 70, 71, 72, 73, 74, 75, 76, 77, 78, 79, 80, 81, 82, 83, 84] (by decide +kernel) (by decide +kernel)
set_option maxRecDepth 20000 in
theorem gX8_isGoal_X8_isBlock : GoodIn wsX8_isGoal (wsV RX8 154 RX8 yX8_isBlock wsX8_isBlock) := goodIn_app (goodIn_of _ (by decide +kernel)) ggX8_isGoal_X8_isBlock
set_option maxRecDepth 20000 in
theorem ggX8_isGoal_X8_lying : GoodIn wsX8_isGoal wsX8_lying := goodIn_r _ [32, 10, 37, 38, 39, 40, 41, 42, 43, 44, 45, 46, 47, 48, 49, 50, 51, 52, 53, 54, 55, 56, 57, 58, 59, 60, 61, 62, 63, 64, 65, 66, 67, 68, 69, 70, 71, 72, 73, 74, 75, 76, 77, 78, 79, 80, 81, 82, 83, 84] (by decide +kernel) (by decide +kernel)
set_option maxRecDepth 20000 in
theorem gX8_isGoal_X8_lying : GoodIn wsX8_isGoal (wsV RX8 157 RX8 yX8_lying wsX8_lying) := goodIn_app (goodIn_of _ (by decide +kernel)) ggX8_isGoal_X8_lying
set_option maxRecDepth 20000 in
theorem ggX8_isGoal_X8_lays2 : GoodIn wsX8_isGoal wsX8_lays2 := goodIn_r _ [36, 8, 7, 10, 9, 37, 38, 39, 40, 41, 42, 43, 44, 45, 46, 47, 48, 49, 50, 51, 52, 53, 54, 55, 56, 57, 58, 59, 60, 61, 62, 63, 64, 65, 66, 67, 68, 69, 70, 71, 72, 73, 74, 75, 76, 77, 78, 79, 80, 81, 82, 83, 84] (by decide +kernel) (by decide +kernel)
set_option maxRecDepth 20000 in
theorem gX8_isGoal_X8_lays2 : GoodIn wsX8_isGoal (wsV RX8 275 RX8 yX8_lays2 wsX8_lays2) := goodIn_app (goodIn_of _ (by decide +kernel)) ggX8_isGoal_X8_lays2
set_option maxRecDepth 20000 in
theorem ggX8_soonestTo_X8_isGoal : GoodIn wsX8_soonestTo wsX8_isGoal := goodIn_r _ [7, 8, 9, 10, 11, 6, 12, 13, 14, 15, 16, 17, 18, 19, 20, 21, 22, 23, 24, 25, 26, 27, 28, 29, 30, 31, 32, 33, 34, 35, 36, 37, 38, 39, 40, 41, 42, 43, 44, 45, 46, 47, 48, 49, 50, 51, 52, 53, 54, 55, 56, 57, 58, 59, 60, 61, 62, 63, 64, 65, 66, 67, 68, 69, 70, 71, 72, 73, 74, 75, 76, 77, 78, 79, 80, 81, 82, 83, 84, 85, 86, 87, 88, 89, 90] (by decide +kernel) (by decide +kernel)
set_option maxRecDepth 20000 in
theorem gX8_soonestTo_X8_isGoal : GoodIn wsX8_soonestTo (wsV RX8 281 RX8 yX8_isGoal wsX8_isGoal) := goodIn_app (goodIn_of _ (by decide +kernel)) ggX8_soonestTo_X8_isGoal
set_option maxRecDepth 20000 in
theorem ggX8_areAsked_X8_isPlace : GoodIn wsX8_areAsked wsX8_isPlace := goodIn_r _ [5, 6, 7, 8, 4, 9, 10, 11, 12, 13, 14, 15, 16, 17, 18, 19, 26, 27, 28, 29, 30, 31, 32, 33, 34, 35, 36, 37, 38, 39, 40, 41, 42, 43, 44, 45, 46, 47, 48, 49, 50, 51, 52, 53, 54, 55, 56, 57, 58, 59, 60, 61, 62, 63, 64, 65, 66, 67, 68, 69, 70, 71, 72, 73] (by decide +kernel) (by decide +kernel)
set_option maxRecDepth 20000 in
theorem gX8_areAsked_X8_isPlace : GoodIn wsX8_areAsked (wsV RX8 209 RX8 yX8_isPlace wsX8_isPlace) := goodIn_app (goodIn_of _ (by decide +kernel)) ggX8_areAsked_X8_isPlace
set_option maxRecDepth 20000 in
theorem ggX8_areAsked_X8_isFace : GoodIn wsX8_areAsked wsX8_isFace := goodIn_r _ [23, 24, 25, 6, 7, 8, 4, 9, 10, 17, 18, 19, 26, 27, 28, 29, 30, 31, 32, 33, 34, 35, 36, 37, 38, 39, 40, 41, 42, 43, 44, 45, 46, 47, 48, 49, 50, 51, 52, 53, 54, 55, 56, 57, 58, 59, 60, 61, 62, 63, 64, 65, 66, 67, 68, 69, 70, 71, 72, 73] (by decide +kernel) (by decide +kernel)
set_option maxRecDepth 20000 in
theorem gX8_areAsked_X8_isFace : GoodIn wsX8_areAsked (wsV RX8 285 RX8 yX8_isFace wsX8_isFace) := goodIn_app (goodIn_of _ (by decide +kernel)) ggX8_areAsked_X8_isFace
set_option maxRecDepth 20000 in
theorem ggX8_soonest_X8_areAsked : GoodIn wsX8_soonest wsX8_areAsked := goodIn_r _ [6, 7, 8, 9, 5, 10, 11, 12, 13, 14, 15, 16, 17, 18, 19, 20, 21, 22, 23, 24, 25, 26, 27, 28, 29, 30, 142, 143, 144, 145, 146, 147, 148, 149, 150, 151, 152, 153, 154, 155, 156, 157, 158, 159, 160, 161, 162, 163, 164, 165, 166, 167, 168, 169, 170, 171, 172, 173, 174, 175, 176, 177, 178, 179, 180, 181, 182, 183, 184, 185, 186, 187, 188, 189] (by decide +kernel) (by decide +kernel)
set_option maxRecDepth 20000 in
theorem gX8_soonest_X8_areAsked : GoodIn wsX8_soonest (wsV RX8 288 RX8 yX8_areAsked wsX8_areAsked) := goodIn_app (goodIn_of _ (by decide +kernel)) ggX8_soonest_X8_areAsked
set_option maxRecDepth 20000 in
theorem ggX8_soonest_X8_no : GoodIn wsX8_soonest wsX8_no := goodIn_r _ [34, 35, 142, 143, 144, 145, 146, 147, 148, 149, 150, 151, 152, 153, 154, 155, 156, 157, 158, 159, 160, 161, 162, 163, 164, 165, 166, 167, 168, 169, 170, 171, 172, 173, 174, 175, 176, 177, 178, 179, 180, 181, 182, 183, 184, 185, 186, 187, 188, 189] (by decide +kernel) (by decide +kernel)
set_option maxRecDepth 20000 in
theorem gX8_soonest_X8_no : GoodIn wsX8_soonest (wsV RX8 13 RX8 yX8_no wsX8_no) := goodIn_app (goodIn_of _ (by decide +kernel)) ggX8_soonest_X8_no
set_option maxRecDepth 20000 in
theorem ggX8_soonest_X8_goesThrough : GoodIn wsX8_soonest wsX8_goesThrough := goodIn_r _ [39, 40, 41, 42, 43, 44, 45, 46, 47, 5, 48, 49, 50, 51, 52, 53, 54, 55, 56, 57, 58, 59, 60, 61, 62, 11, 12, 13, 14, 15, 63, 64, 65, 66, 67, 68, 69, 70, 71, 72, 73, 74, 75, 21, 20, 76, 22, 23, 24, 77, 78, 79, 80, 81, 82, 83, 84, 85, 86, 87, 88, 89, 90, 91, 92, 93, 94, 95, 96, 97, 98, 99, 100, 101, 102, 103, 104, 105, 106, 107, 108, 109, 110, 111, 16, 17, 18, 19, 112, 113, 114, 115, 116, 117, 118, 119, 142, 143, 144, 145, 146, 147, 148, 149, 150, 151, 152, 153, 154, 155, 156, 157, 158, 159, 160, 161, 162, 163, 164, 165, 166, 167, 168, 169, 170, 171, 172, 173, 174, 175, 176, 177, 178, 179, 180, 181, 182, 183, 184, 185, 186, 187, 188, 189] (by decide +kernel) (by decide +kernel)
set_option maxRecDepth 20000 in
theorem gX8_soonest_X8_goesThrough : GoodIn wsX8_soonest (wsV RX8 263 RX8 yX8_goesThrough wsX8_goesThrough) := goodIn_app (goodIn_of _ (by decide +kernel)) ggX8_soonest_X8_goesThrough
set_option maxRecDepth 20000 in
theorem ggX8_soonest_X8_soonestTo : GoodIn wsX8_soonest wsX8_soonestTo := goodIn_r _ [123, 41, 44, 124, 125, 126, 5, 127, 57, 128, 129, 130, 131, 49, 132, 133, 52, 63, 64, 65, 66, 58, 134, 135, 136, 137, 11, 12, 13, 14, 15, 89, 90, 91, 92, 93, 94, 95, 96, 138, 139, 140, 141, 142, 143, 144, 145, 146, 147, 148, 149, 150, 151, 152, 153, 154, 155, 156, 157, 158, 159, 160, 161, 162, 163, 164, 165, 166, 167, 168, 169, 170, 171, 172, 173, 174, 175, 176, 177, 178, 179, 180, 181, 182, 183, 184, 185, 186, 187, 188, 189] (by decide +kernel) (by decide +kernel)
set_option maxRecDepth 20000 in
theorem gX8_soonest_X8_soonestTo : GoodIn wsX8_soonest (wsV RX8 292 RX8 yX8_soonestTo wsX8_soonestTo) := goodIn_app (goodIn_of _ (by decide +kernel)) ggX8_soonest_X8_soonestTo
set_option maxRecDepth 20000 in
theorem ggX8_wayAt_X8_goesThrough : GoodIn wsX8_wayAt wsX8_goesThrough := goodIn_r _ [9, 10, 1, 11, 4, 3, 12, 13, 14, 8, 15, 16, 17, 18, 19, 20, 21, 22, 23, 24, 25, 26, 27, 28, 29, 30, 31, 32, 33, 34, 35, 36, 37, 38, 39, 40, 41, 42, 43, 44, 45, 46, 47, 48, 49, 50, 51, 52, 53, 54, 55, 56, 57, 58, 59, 60, 61, 62, 63, 64, 65, 66, 67, 68, 69, 70, 71, 72, 73, 74, 75, 76, 77, 78, 79, 80, 81, 82, 83, 84, 85, 86, 87, 88, 89, 90, 91, 92, 93, 94, 95, 96, 97, 98, 99, 100, 123, 124, 125, 126, 127, 128, 129, 130, 131, 132, 133, 134, 135, 136, 137, 138, 139, 140, 141, 142, 143, 144, 145, 146, 147, 148, 149, 150, 151, 152, 153, 154, 155, 156, 157, 158, 159, 160, 161, 162, 163, 164, 165, 166, 167, 168, 169, 170] (by decide +kernel) (by decide +kernel)
set_option maxRecDepth 20000 in
theorem gX8_wayAt_X8_goesThrough : GoodIn wsX8_wayAt (wsV RX8 263 RX8 yX8_goesThrough wsX8_goesThrough) := goodIn_app (goodIn_of _ (by decide +kernel)) ggX8_wayAt_X8_goesThrough
set_option maxRecDepth 20000 in
theorem ggX8_wayAt_X8_soonestTo : GoodIn wsX8_wayAt wsX8_soonestTo := goodIn_r _ [104, 1, 3, 105, 106, 107, 8, 108, 24, 109, 110, 111, 112, 16, 113, 114, 19, 35, 36, 37, 38, 25, 115, 116, 117, 118, 30, 31, 32, 33, 34, 66, 67, 68, 69, 70, 71, 72, 73, 119, 120, 121, 122, 123, 124, 125, 126, 127, 128, 129, 130, 131, 132, 133, 134, 135, 136, 137, 138, 139, 140, 141, 142, 143, 144, 145, 146, 147, 148, 149, 150, 151, 152, 153, 154, 155, 156, 157, 158, 159, 160, 161, 162, 163, 164, 165, 166, 167, 168, 169, 170] (by decide +kernel) (by decide +kernel)
set_option maxRecDepth 20000 in
theorem gX8_wayAt_X8_soonestTo : GoodIn wsX8_wayAt (wsV RX8 292 RX8 yX8_soonestTo wsX8_soonestTo) := goodIn_app (goodIn_of _ (by decide +kernel)) ggX8_wayAt_X8_soonestTo
set_option maxRecDepth 20000 in
theorem ggX8_wayAt_X8_isGoal : GoodIn wsX8_wayAt wsX8_isGoal := goodIn_r _ [108, 24, 109, 110, 111, 8, 112, 16, 113, 114, 19, 35, 36, 37, 38, 25, 115, 116, 117, 118, 30, 31, 32, 33, 34, 66, 67, 68, 69, 70, 71, 72, 73, 119, 120, 121, 122, 123, 124, 125, 126, 127, 128, 129, 130, 131, 132, 133, 134, 135, 136, 137, 138, 139, 140, 141, 142, 143, 144, 145, 146, 147, 148, 149, 150, 151, 152, 153, 154, 155, 156, 157, 158, 159, 160, 161, 162, 163, 164, 165, 166, 167, 168, 169, 170] (by decide +kernel) (by decide +kernel)
set_option maxRecDepth 20000 in
theorem gX8_wayAt_X8_isGoal : GoodIn wsX8_wayAt (wsV RX8 281 RX8 yX8_isGoal wsX8_isGoal) := goodIn_app (goodIn_of _ (by decide +kernel)) ggX8_wayAt_X8_isGoal
set_option maxRecDepth 20000 in
theorem ggX8_walk_X8_areAsked : GoodIn wsX8_walk wsX8_areAsked := goodIn_r _ [6, 7, 8, 9, 5, 10, 11, 12, 13, 14, 15, 16, 17, 18, 19, 20, 21, 22, 23, 24, 25, 26, 27, 28, 29, 30, 147, 148, 149, 150, 151, 152, 153, 154, 155, 156, 157, 158, 159, 160, 161, 162, 163, 164, 165, 166, 167, 168, 169, 170, 171, 172, 173, 174, 175, 176, 177, 178, 179, 180, 181, 182, 183, 184, 185, 186, 187, 188, 189, 190, 191, 192, 193, 194] (by decide +kernel) (by decide +kernel)
set_option maxRecDepth 20000 in
theorem gX8_walk_X8_areAsked : GoodIn wsX8_walk (wsV RX8 288 RX8 yX8_areAsked wsX8_areAsked) := goodIn_app (goodIn_of _ (by decide +kernel)) ggX8_walk_X8_areAsked
set_option maxRecDepth 20000 in
theorem ggX8_walk_X8_no : GoodIn wsX8_walk wsX8_no := goodIn_r _ [34, 35, 147, 148, 149, 150, 151, 152, 153, 154, 155, 156, 157, 158, 159, 160, 161, 162, 163, 164, 165, 166, 167, 168, 169, 170, 171, 172, 173, 174, 175, 176, 177, 178, 179, 180, 181, 182, 183, 184, 185, 186, 187, 188, 189, 190, 191, 192, 193, 194] (by decide +kernel) (by decide +kernel)
set_option maxRecDepth 20000 in
theorem gX8_walk_X8_no : GoodIn wsX8_walk (wsV RX8 13 RX8 yX8_no wsX8_no) := goodIn_app (goodIn_of _ (by decide +kernel)) ggX8_walk_X8_no
set_option maxRecDepth 20000 in
theorem ggX8_walk_X8_wayAt : GoodIn wsX8_walk wsX8_wayAt := goodIn_r _ [39, 40, 41, 42, 43, 44, 45, 46, 5, 47, 48, 49, 50, 51, 52, 53, 54, 55, 56, 57, 58, 59, 60, 61, 62, 63, 64, 65, 66, 67, 11, 12, 13, 14, 15, 68, 69, 70, 71, 72, 73, 74, 75, 76, 77, 78, 79, 80, 21, 20, 81, 22, 23, 24, 82, 83, 84, 85, 86, 87, 88, 89, 90, 91, 92, 93, 94, 95, 96, 97, 98, 99, 100, 101, 102, 103, 104, 105, 106, 107, 108, 109, 110, 111, 112, 113, 114, 115, 116, 16, 17, 18, 19, 117, 118, 119, 120, 121, 122, 123, 124, 125, 126, 127, 128, 129, 130, 131, 132, 133, 134, 135, 136, 137, 138, 139, 140, 141, 142, 143, 144, 145, 146, 147, 148, 149, 150, 151, 152, 153, 154, 155, 156, 157, 158, 159, 160, 161, 162, 163, 164, 165, 166, 167, 168, 169, 170, 171, 172, 173, 174, 175, 176, 177, 178, 179, 180, 181, 182, 183, 184, 185, 186, 187, 188, 189, 190, 191, 192, 193, 194] (by decide +kernel) (by decide +kernel)
set_option maxRecDepth 20000 in
theorem gX8_walk_X8_wayAt : GoodIn wsX8_walk (wsV RX8 296 RX8 yX8_wayAt wsX8_wayAt) := goodIn_app (goodIn_of _ (by decide +kernel)) ggX8_walk_X8_wayAt
set_option maxRecDepth 20000 in
theorem ggX8_belowOf_X8_isTetra : GoodIn wsX8_belowOf wsX8_isTetra := goodIn_r _ [6, 7, 8, 9, 10, 11, 12, 13, 14, 15, 16, 17, 18, 19, 20, 21, 22, 23, 24, 25, 26, 27, 28, 29, 30, 31, 32, 33, 34, 35, 36, 37, 38, 39, 40, 41, 42, 43, 44, 45, 46, 47, 48, 49, 50, 51, 52, 53, 54, 55] (by decide +kernel) (by decide +kernel)
set_option maxRecDepth 20000 in
theorem gX8_belowOf_X8_isTetra : GoodIn wsX8_belowOf (wsV RX8 136 RX8 yX8_isTetra wsX8_isTetra) := goodIn_app (goodIn_of _ (by decide +kernel)) ggX8_belowOf_X8_isTetra
set_option maxRecDepth 20000 in
theorem ggX8_faces_X8_isPlace : GoodIn wsX8_faces wsX8_isPlace := goodIn_r _ [8, 9, 10, 11, 7, 12, 13, 14, 15, 16, 17, 18, 19, 20, 21, 22, 114, 115, 116, 117, 118, 119, 120, 121, 122, 123, 124, 125, 126, 127, 128, 129, 130, 131, 132, 133, 134, 135, 136, 137, 138, 139, 140, 141, 142, 143, 144, 145, 146, 147, 148, 149, 150, 151, 152, 153, 154, 155, 156, 157, 158, 159, 160, 161] (by decide +kernel) (by decide +kernel)
set_option maxRecDepth 20000 in
theorem gX8_faces_X8_isPlace : GoodIn wsX8_faces (wsV RX8 209 RX8 yX8_isPlace wsX8_isPlace) := goodIn_app (goodIn_of _ (by decide +kernel)) ggX8_faces_X8_isPlace
set_option maxRecDepth 20000 in
theorem ggX8_faces_X8_no : GoodIn wsX8_faces wsX8_no := goodIn_r _ [26, 27, 114, 115, 116, 117, 118, 119, 120, 121, 122, 123, 124, 125, 126, 127, 128, 129, 130, 131, 132, 133, 134, 135, 136, 137, 138, 139, 140, 141, 142, 143, 144, 145, 146, 147, 148, 149, 150, 151, 152, 153, 154, 155, 156, 157, 158, 159, 160, 161] (by decide +kernel) (by decide +kernel)
set_option maxRecDepth 20000 in
theorem gX8_faces_X8_no : GoodIn wsX8_faces (wsV RX8 13 RX8 yX8_no wsX8_no) := goodIn_app (goodIn_of _ (by decide +kernel)) ggX8_faces_X8_no
set_option maxRecDepth 20000 in
theorem ggX8_faces_X8_goesThrough : GoodIn wsX8_faces wsX8_goesThrough := goodIn_r _ [31, 32, 2, 33, 34, 35, 36, 37, 38, 7, 39, 40, 41, 42, 43, 44, 45, 46, 47, 3, 48, 49, 50, 51, 52, 9, 10, 11, 12, 13, 53, 54, 55, 56, 57, 58, 59, 60, 61, 62, 63, 64, 65, 19, 18, 66, 20, 21, 22, 67, 68, 69, 70, 71, 72, 73, 74, 75, 76, 77, 78, 79, 80, 81, 82, 83, 84, 85, 86, 87, 88, 89, 90, 91, 92, 93, 94, 95, 96, 97, 98, 99, 100, 101, 14, 15, 16, 17, 102, 103, 104, 105, 106, 107, 108, 109, 114, 115, 116, 117, 118, 119, 120, 121, 122, 123, 124, 125, 126, 127, 128, 129, 130, 131, 132, 133, 134, 135, 136, 137, 138, 139, 140, 141, 142, 143, 144, 145, 146, 147, 148, 149, 150, 151, 152, 153, 154, 155, 156, 157, 158, 159, 160, 161] (by decide +kernel) (by decide +kernel)
set_option maxRecDepth 20000 in
theorem gX8_faces_X8_goesThrough : GoodIn wsX8_faces (wsV RX8 263 RX8 yX8_goesThrough wsX8_goesThrough) := goodIn_app (goodIn_of _ (by decide +kernel)) ggX8_faces_X8_goesThrough
set_option maxRecDepth 20000 in
theorem ggX8_faces_X8_belowOf : GoodIn wsX8_faces wsX8_belowOf := goodIn_r _ [113, 48, 9, 10, 11, 7, 12, 13, 114, 115, 116, 117, 118, 119, 120, 121, 122, 123, 124, 125, 126, 127, 128, 129, 130, 131, 132, 133, 134, 135, 136, 137, 138, 139, 140, 141, 142, 143, 144, 145, 146, 147, 148, 149, 150, 151, 152, 153, 154, 155, 156, 157, 158, 159, 160, 161] (by decide +kernel) (by decide +kernel)
set_option maxRecDepth 20000 in
theorem gX8_faces_X8_belowOf : GoodIn wsX8_faces (wsV RX8 300 RX8 yX8_belowOf wsX8_belowOf) := goodIn_app (goodIn_of _ (by decide +kernel)) ggX8_faces_X8_belowOf
set_option maxRecDepth 20000 in
theorem ggX8_fill_X8_in : GoodIn wsX8_fill wsX8_in := goodIn_r _ [7] (by decide +kernel) (by decide +kernel)
set_option maxRecDepth 20000 in
theorem gX8_fill_X8_in : GoodIn wsX8_fill (va_wsS RX8 129 yX8_in wsX8_in) := goodIn_app (goodIn_of _ (by decide +kernel)) ggX8_fill_X8_in
set_option maxRecDepth 20000 in
theorem ggX8_fill_X8_no : GoodIn wsX8_fill wsX8_no := goodIn_r _ [11, 12, 106, 107, 108, 109, 110, 111, 112, 113, 114, 115, 116, 117, 118, 119, 120, 121, 122, 123, 124, 125, 126, 127, 128, 129, 130, 131, 132, 133, 134, 135, 136, 137, 138, 139, 140, 141, 142, 143, 144, 145, 146, 147, 148, 149, 150, 151, 152, 153] (by decide +kernel) (by decide +kernel)
set_option maxRecDepth 20000 in
theorem gX8_fill_X8_no : GoodIn wsX8_fill (wsV RX8 13 RX8 yX8_no wsX8_no) := goodIn_app (goodIn_of _ (by decide +kernel)) ggX8_fill_X8_no
set_option maxRecDepth 20000 in
theorem ggX8_fill_X8_goesThrough : GoodIn wsX8_fill wsX8_goesThrough := goodIn_r _ [16, 17, 2, 18, 19, 20, 21, 22, 23, 6, 24, 25, 26, 27, 28, 29, 30, 31, 32, 33, 34, 35, 36, 37, 38, 39, 40, 41, 42, 43, 44, 45, 46, 47, 48, 49, 50, 51, 52, 53, 54, 55, 56, 57, 58, 59, 4, 5, 7, 60, 61, 62, 63, 64, 65, 66, 67, 68, 69, 70, 71, 72, 73, 74, 75, 76, 77, 78, 79, 80, 81, 82, 83, 84, 85, 86, 87, 88, 3, 89, 90, 91, 92, 93, 94, 95, 96, 97, 98, 99, 100, 101, 102, 103, 104, 105, 106, 107, 108, 109, 110, 111, 112, 113, 114, 115, 116, 117, 118, 119, 120, 121, 122, 123, 124, 125, 126, 127, 128, 129, 130, 131, 132, 133, 134, 135, 136, 137, 138, 139, 140, 141, 142, 143, 144, 145, 146, 147, 148, 149, 150, 151, 152, 153] (by decide +kernel) (by decide +kernel)
set_option maxRecDepth 20000 in
theorem gX8_fill_X8_goesThrough : GoodIn wsX8_fill (wsV RX8 263 RX8 yX8_goesThrough wsX8_goesThrough) := goodIn_app (goodIn_of _ (by decide +kernel)) ggX8_fill_X8_goesThrough
set_option maxRecDepth 20000 in
theorem ggX8_fill_X8_tileMany : GoodIn wsX8_fill wsX8_tileMany := goodIn_r _ [97, 58, 57, 106, 107, 108, 109, 110, 111, 112, 113, 114, 115, 116, 117, 118, 119, 120, 121, 122, 123, 124, 125, 126, 127, 128, 129, 130, 131, 132, 133, 134, 135, 136, 137, 138, 139, 140, 141, 142, 143, 144, 145, 146, 147, 148, 149, 150, 151, 152, 153] (by decide +kernel) (by decide +kernel)
set_option maxRecDepth 20000 in
theorem gX8_fill_X8_tileMany : GoodIn wsX8_fill (wsV RX8 125 RX8 yX8_tileMany wsX8_tileMany) := goodIn_app (goodIn_of _ (by decide +kernel)) ggX8_fill_X8_tileMany
set_option maxRecDepth 20000 in
theorem ggX8_needed_X8_isPlace : GoodIn wsX8_needed wsX8_isPlace := goodIn_r _ [7, 8, 9, 10, 6, 11, 12, 13, 14, 15, 16, 17, 18, 19, 20, 21, 141, 142, 143, 144, 145, 146, 147, 148, 149, 150, 151, 152, 153, 154, 155, 156, 157, 158, 159, 160, 161, 162, 163, 164, 165, 166, 167, 168, 169, 170, 171, 172, 173, 174, 175, 176, 177, 178, 179, 180, 181, 182, 183, 184, 185, 186, 187, 188] (by decide +kernel) (by decide +kernel)
set_option maxRecDepth 20000 in
theorem gX8_needed_X8_isPlace : GoodIn wsX8_needed (wsV RX8 209 RX8 yX8_isPlace wsX8_isPlace) := goodIn_app (goodIn_of _ (by decide +kernel)) ggX8_needed_X8_isPlace
set_option maxRecDepth 20000 in
theorem ggX8_needed_X8_longNo : GoodIn wsX8_needed wsX8_longNo := goodIn_r _ [25, 26, 27, 28, 29, 6, 30, 31, 141, 142, 143, 144, 145, 146, 147, 148, 149, 150, 151, 152, 153, 154, 155, 156, 157, 158, 159, 160, 161, 162, 163, 164, 165, 166, 167, 168, 169, 170, 171, 172, 173, 174, 175, 176, 177, 178, 179, 180, 181, 182, 183, 184, 185, 186, 187, 188] (by decide +kernel) (by decide +kernel)
set_option maxRecDepth 20000 in
theorem gX8_needed_X8_longNo : GoodIn wsX8_needed (wsV RX8 303 RX8 yX8_longNo wsX8_longNo) := goodIn_app (goodIn_of _ (by decide +kernel)) ggX8_needed_X8_longNo
set_option maxRecDepth 20000 in
theorem ggX8_needed_X8_goesThrough : GoodIn wsX8_needed wsX8_goesThrough := goodIn_r _ [35, 36, 37, 38, 39, 40, 41, 42, 43, 6, 44, 45, 46, 47, 48, 49, 50, 51, 52, 53, 54, 55, 56, 57, 58, 8, 9, 10, 11, 12, 59, 60, 61, 62, 63, 64, 65, 66, 67, 68, 69, 70, 71, 18, 17, 72, 19, 20, 21, 73, 74, 75, 76, 77, 78, 79, 80, 81, 82, 83, 84, 85, 86, 87, 88, 89, 90, 91, 92, 93, 94, 95, 96, 97, 98, 99, 100, 101, 2, 102, 103, 104, 105, 106, 13, 14, 15, 16, 107, 108, 109, 110, 111, 112, 113, 114, 141, 142, 143, 144, 145, 146, 147, 148, 149, 150, 151, 152, 153, 154, 155, 156, 157, 158, 159, 160, 161, 162, 163, 164, 165, 166, 167, 168, 169, 170, 171, 172, 173, 174, 175, 176, 177, 178, 179, 180, 181, 182, 183, 184, 185, 186, 187, 188] (by decide +kernel) (by decide +kernel)
set_option maxRecDepth 20000 in
theorem gX8_needed_X8_goesThrough : GoodIn wsX8_needed (wsV RX8 263 RX8 yX8_goesThrough wsX8_goesThrough) := goodIn_app (goodIn_of _ (by decide +kernel)) ggX8_needed_X8_goesThrough
set_option maxRecDepth 20000 in
theorem ggX8_needed_X8_soonestTo : GoodIn wsX8_needed wsX8_soonestTo := goodIn_r _ [118, 37, 40, 119, 120, 121, 6, 122, 53, 123, 124, 125, 126, 45, 127, 128, 48, 59, 60, 61, 62, 54, 129, 130, 131, 132, 8, 9, 10, 11, 12, 85, 86, 87, 88, 89, 90, 91, 92, 133, 134, 135, 136, 141, 142, 143, 144, 145, 146, 147, 148, 149, 150, 151, 152, 153, 154, 155, 156, 157, 158, 159, 160, 161, 162, 163, 164, 165, 166, 167, 168, 169, 170, 171, 172, 173, 174, 175, 176, 177, 178, 179, 180, 181, 182, 183, 184, 185, 186, 187, 188] (by decide +kernel) (by decide +kernel)
set_option maxRecDepth 20000 in
theorem gX8_needed_X8_soonestTo : GoodIn wsX8_needed (wsV RX8 292 RX8 yX8_soonestTo wsX8_soonestTo) := goodIn_app (goodIn_of _ (by decide +kernel)) ggX8_needed_X8_soonestTo
set_option maxRecDepth 20000 in
theorem ggX8_needed_X8_tileMany : GoodIn wsX8_needed wsX8_tileMany := goodIn_r _ [16, 17, 18, 141, 142, 143, 144, 145, 146, 147, 148, 149, 150, 151, 152, 153, 154, 155, 156, 157, 158, 159, 160, 161, 162, 163, 164, 165, 166, 167, 168, 169, 170, 171, 172, 173, 174, 175, 176, 177, 178, 179, 180, 181, 182, 183, 184, 185, 186, 187, 188] (by decide +kernel) (by decide +kernel)
set_option maxRecDepth 20000 in
theorem gX8_needed_X8_tileMany : GoodIn wsX8_needed (wsV RX8 125 RX8 yX8_tileMany wsX8_tileMany) := goodIn_app (goodIn_of _ (by decide +kernel)) ggX8_needed_X8_tileMany
set_option maxRecDepth 20000 in
theorem ggX8_needed_X8_isUnder : GoodIn wsX8_needed wsX8_isUnder := goodIn_r _ [140, 102, 101, 103, 104, 105, 6, 106, 45, 18, 17, 8, 9, 10, 11, 12, 13, 14, 15, 16, 19, 20, 21, 107, 108, 109, 110, 85, 86, 87, 88, 89, 90, 91, 92, 48, 141, 142, 143, 144, 145, 146, 147, 148, 149, 150, 151, 152, 153, 154, 155, 156, 157, 158, 159, 160, 161, 162, 163, 164, 165, 166, 167, 168, 169, 170, 171, 172, 173, 174, 175, 176, 177, 178, 179, 180, 181, 182, 183, 184, 185, 186, 187, 188] (by decide +kernel) (by decide +kernel)
set_option maxRecDepth 20000 in
theorem gX8_needed_X8_isUnder : GoodIn wsX8_needed (wsV RX8 206 RX8 yX8_isUnder wsX8_isUnder) := goodIn_app (goodIn_of _ (by decide +kernel)) ggX8_needed_X8_isUnder
set_option maxRecDepth 20000 in
theorem ggX8_paints_X8_belowOf : GoodIn wsX8_paints wsX8_belowOf := goodIn_r _ [5, 6, 7, 8, 9, 4, 10, 11, 60, 61, 62, 63, 64, 65, 66, 67, 68, 69, 70, 71, 72, 73, 74, 75, 76, 77, 78, 79, 80, 81, 82, 83, 84, 85, 86, 87, 88, 89, 90, 91, 92, 93, 94, 95, 96, 97, 98, 99, 100, 101, 102, 103, 104, 105, 106, 107] (by decide +kernel) (by decide +kernel)
set_option maxRecDepth 20000 in
theorem gX8_paints_X8_belowOf : GoodIn wsX8_paints (wsV RX8 300 RX8 yX8_belowOf wsX8_belowOf) := goodIn_app (goodIn_of _ (by decide +kernel)) ggX8_paints_X8_belowOf
set_option maxRecDepth 20000 in
theorem ggX8_paints_X8_keeps2 : GoodIn wsX8_paints wsX8_keeps2 := goodIn_r _ [15, 16, 17, 18, 19, 60, 61, 62, 63, 64, 65, 66, 67, 68, 69, 70, 71, 72, 73, 74, 75, 76, 77, 78, 79, 80, 81, 82, 83, 84, 85, 86, 87, 88, 89, 90, 91, 92, 93, 94, 95, 96, 97, 98, 99, 100, 101, 102, 103, 104, 105, 106, 107] (by decide +kernel) (by decide +kernel)
set_option maxRecDepth 20000 in
theorem gX8_paints_X8_keeps2 : GoodIn wsX8_paints (wsV RX8 272 RX8 yX8_keeps2 wsX8_keeps2) := goodIn_app (goodIn_of _ (by decide +kernel)) ggX8_paints_X8_keeps2
set_option maxRecDepth 20000 in
theorem ggX8_paints_X8_loads : GoodIn wsX8_paints wsX8_loads := goodIn_r _ [23, 24, 16, 19, 6, 60, 61, 62, 63, 64, 65, 66, 67, 68, 69, 70, 71, 72, 73, 74, 75, 76, 77, 78, 79, 80, 81, 82, 83, 84, 85, 86, 87, 88, 89, 90, 91, 92, 93, 94, 95, 96, 97, 98, 99, 100, 101, 102, 103, 104, 105, 106, 107] (by decide +kernel) (by decide +kernel)
set_option maxRecDepth 20000 in
theorem gX8_paints_X8_loads : GoodIn wsX8_paints (wsV RX8 260 RX8 yX8_loads wsX8_loads) := goodIn_app (goodIn_of _ (by decide +kernel)) ggX8_paints_X8_loads
set_option maxRecDepth 20000 in
theorem ggX8_paints_X8_isUnder : GoodIn wsX8_paints wsX8_isUnder := goodIn_r _ [28, 29, 30, 31, 32, 33, 4, 34, 16, 35, 36, 7, 8, 9, 10, 11, 37, 38, 39, 40, 41, 42, 43, 44, 45, 46, 47, 48, 49, 50, 51, 52, 53, 54, 55, 19, 60, 61, 62, 63, 64, 65, 66, 67, 68, 69, 70, 71, 72, 73, 74, 75, 76, 77, 78, 79, 80, 81, 82, 83, 84, 85, 86, 87, 88, 89, 90, 91, 92, 93, 94, 95, 96, 97, 98, 99, 100, 101, 102, 103, 104, 105, 106, 107] (by decide +kernel) (by decide +kernel)
set_option maxRecDepth 20000 in
theorem gX8_paints_X8_isUnder : GoodIn wsX8_paints (wsV RX8 206 RX8 yX8_isUnder wsX8_isUnder) := goodIn_app (goodIn_of _ (by decide +kernel)) ggX8_paints_X8_isUnder
set_option maxRecDepth 20000 in
theorem ggX8_paints_X8_lays2 : GoodIn wsX8_paints wsX8_lays2 := goodIn_r _ [59, 17, 16, 19, 18, 60, 61, 62, 63, 64, 65, 66, 67, 68, 69, 70, 71, 72, 73, 74, 75, 76, 77, 78, 79, 80, 81, 82, 83, 84, 85, 86, 87, 88, 89, 90, 91, 92, 93, 94, 95, 96, 97, 98, 99, 100, 101, 102, 103, 104, 105, 106, 107] (by decide +kernel) (by decide +kernel)
set_option maxRecDepth 20000 in
theorem gX8_paints_X8_lays2 : GoodIn wsX8_paints (wsV RX8 275 RX8 yX8_lays2 wsX8_lays2) := goodIn_app (goodIn_of _ (by decide +kernel)) ggX8_paints_X8_lays2
set_option maxRecDepth 20000 in
theorem ggX8_paint_X8_isTile : GoodIn wsX8_paint wsX8_isTile := goodIn_r _ [10, 11, 12, 13, 9, 14, 15, 16, 17, 18, 19, 134, 135, 136, 137, 138, 139, 140, 141, 142, 143, 144, 145, 146, 147, 148, 149, 150, 151, 152, 153, 154, 155, 156, 157, 158, 159, 160, 161, 162, 163, 164, 165, 166, 167, 168, 169, 170, 171, 172, 173, 174, 175, 176, 177, 178, 179, 180, 181] (by decide +kernel) (by decide +kernel)
set_option maxRecDepth 20000 in
theorem gX8_paint_X8_isTile : GoodIn wsX8_paint (wsV RX8 150 RX8 yX8_isTile wsX8_isTile) := goodIn_app (goodIn_of _ (by decide +kernel)) ggX8_paint_X8_isTile
set_option maxRecDepth 20000 in
theorem ggX8_paint_X8_isFace : GoodIn wsX8_paint wsX8_isFace := goodIn_r _ [23, 24, 25, 26, 27, 28, 9, 29, 30, 17, 18, 19, 134, 135, 136, 137, 138, 139, 140, 141, 142, 143, 144, 145, 146, 147, 148, 149, 150, 151, 152, 153, 154, 155, 156, 157, 158, 159, 160, 161, 162, 163, 164, 165, 166, 167, 168, 169, 170, 171, 172, 173, 174, 175, 176, 177, 178, 179, 180, 181] (by decide +kernel) (by decide +kernel)
set_option maxRecDepth 20000 in
theorem gX8_paint_X8_isFace : GoodIn wsX8_paint (wsV RX8 285 RX8 yX8_isFace wsX8_isFace) := goodIn_app (goodIn_of _ (by decide +kernel)) ggX8_paint_X8_isFace
set_option maxRecDepth 20000 in
theorem ggX8_paint_X8_no : GoodIn wsX8_paint wsX8_no := goodIn_r _ [34, 35, 134, 135, 136, 137, 138, 139, 140, 141, 142, 143, 144, 145, 146, 147, 148, 149, 150, 151, 152, 153, 154, 155, 156, 157, 158, 159, 160, 161, 162, 163, 164, 165, 166, 167, 168, 169, 170, 171, 172, 173, 174, 175, 176, 177, 178, 179, 180, 181] (by decide +kernel) (by decide +kernel)
set_option maxRecDepth 20000 in
theorem gX8_paint_X8_no : GoodIn wsX8_paint (wsV RX8 13 RX8 yX8_no wsX8_no) := goodIn_app (goodIn_of _ (by decide +kernel)) ggX8_paint_X8_no
set_option maxRecDepth 20000 in
theorem ggX8_paint_X8_goesThrough : GoodIn wsX8_paint wsX8_goesThrough := goodIn_r _ [39, 40, 4, 3, 41, 5, 42, 43, 44, 9, 45, 46, 47, 48, 49, 50, 51, 52, 53, 54, 55, 56, 57, 58, 59, 26, 27, 28, 29, 30, 60, 61, 62, 63, 64, 65, 66, 67, 68, 69, 70, 71, 72, 16, 15, 2, 17, 18, 19, 73, 74, 75, 76, 77, 78, 79, 80, 81, 82, 83, 84, 85, 86, 87, 88, 89, 90, 91, 92, 93, 94, 95, 96, 97, 98, 99, 100, 101, 102, 103, 104, 105, 106, 107, 11, 12, 13, 14, 6, 7, 8, 10, 108, 109, 110, 111, 134, 135, 136, 137, 138, 139, 140, 141, 142, 143, 144, 145, 146, 147, 148, 149, 150, 151, 152, 153, 154, 155, 156, 157, 158, 159, 160, 161, 162, 163, 164, 165, 166, 167, 168, 169, 170, 171, 172, 173, 174, 175, 176, 177, 178, 179, 180, 181] (by decide +kernel) (by decide +kernel)
set_option maxRecDepth 20000 in
theorem gX8_paint_X8_goesThrough : GoodIn wsX8_paint (wsV RX8 263 RX8 yX8_goesThrough wsX8_goesThrough) := goodIn_app (goodIn_of _ (by decide +kernel)) ggX8_paint_X8_goesThrough
set_option maxRecDepth 20000 in
theorem ggX8_paint_X8_paints : GoodIn wsX8_paint wsX8_paints := goodIn_r _ [115, 116, 117, 118, 9, 119, 55, 26, 27, 28, 29, 30, 120, 121, 122, 123, 46, 124, 125, 49, 60, 61, 62, 63, 54, 126, 127, 128, 129, 103, 101, 104, 105, 106, 107, 16, 15, 11, 12, 13, 14, 17, 18, 19, 6, 7, 8, 10, 85, 86, 87, 88, 89, 90, 91, 92, 130, 131, 132, 133, 134, 135, 136, 137, 138, 139, 140, 141, 142, 143, 144, 145, 146, 147, 148, 149, 150, 151, 152, 153, 154, 155, 156, 157, 158, 159, 160, 161, 162, 163, 164, 165, 166, 167, 168, 169, 170, 171, 172, 173, 174, 175, 176, 177, 178, 179, 180, 181] (by decide +kernel) (by decide +kernel)
set_option maxRecDepth 20000 in
theorem gX8_paint_X8_paints : GoodIn wsX8_paint (wsV RX8 307 RX8 yX8_paints wsX8_paints) := goodIn_app (goodIn_of _ (by decide +kernel)) ggX8_paint_X8_paints
set_option maxRecDepth 20000 in
theorem ggX8_likely_X8_isPlace : GoodIn wsX8_likely wsX8_isPlace := goodIn_r _ [12, 13, 14, 15, 11, 16, 17, 18, 19, 20, 21, 22, 23, 24, 25, 26, 118, 119, 120, 121, 122, 123, 124, 125, 126, 127, 128, 129, 130, 131, 132, 133, 134, 135, 136, 137, 138, 139, 140, 141, 142, 143, 144, 145, 146, 147, 148, 149, 150, 151, 152, 153, 154, 155, 156, 157, 158, 159, 160, 161, 162, 163, 164, 165] (by decide +kernel) (by decide +kernel)
set_option maxRecDepth 20000 in
theorem gX8_likely_X8_isPlace : GoodIn wsX8_likely (wsV RX8 209 RX8 yX8_isPlace wsX8_isPlace) := goodIn_app (goodIn_of _ (by decide +kernel)) ggX8_likely_X8_isPlace
set_option maxRecDepth 20000 in
theorem ggX8_likely_X8_longNo : GoodIn wsX8_likely wsX8_longNo := goodIn_r _ [30, 31, 32, 33, 34, 11, 35, 36, 118, 119, 120, 121, 122, 123, 124, 125, 126, 127, 128, 129, 130, 131, 132, 133, 134, 135, 136, 137, 138, 139, 140, 141, 142, 143, 144, 145, 146, 147, 148, 149, 150, 151, 152, 153, 154, 155, 156, 157, 158, 159, 160, 161, 162, 163, 164, 165] (by decide +kernel) (by decide +kernel)
set_option maxRecDepth 20000 in
theorem gX8_likely_X8_longNo : GoodIn wsX8_likely (wsV RX8 303 RX8 yX8_longNo wsX8_longNo) := goodIn_app (goodIn_of _ (by decide +kernel)) ggX8_likely_X8_longNo
set_option maxRecDepth 20000 in
theorem ggX8_likely_X8_in : GoodIn wsX8_likely wsX8_in := goodIn_r _ [26] (by decide +kernel) (by decide +kernel)
set_option maxRecDepth 20000 in
theorem gX8_likely_X8_in : GoodIn wsX8_likely (va_wsS RX8 129 yX8_in wsX8_in) := goodIn_app (goodIn_of _ (by decide +kernel)) ggX8_likely_X8_in
set_option maxRecDepth 20000 in
theorem ggX8_likely_X8_goesThrough : GoodIn wsX8_likely wsX8_goesThrough := goodIn_r _ [40, 41, 2, 42, 5, 43, 44, 45, 46, 11, 47, 48, 49, 50, 51, 52, 53, 54, 55, 7, 56, 57, 58, 59, 60, 13, 14, 15, 16, 17, 61, 62, 63, 64, 65, 66, 67, 68, 69, 70, 71, 72, 73, 23, 22, 74, 24, 25, 26, 75, 76, 77, 78, 79, 80, 81, 82, 83, 84, 85, 86, 87, 88, 89, 90, 91, 92, 93, 94, 95, 96, 97, 98, 99, 100, 101, 102, 103, 104, 105, 106, 107, 108, 109, 18, 19, 20, 21, 110, 111, 112, 113, 114, 115, 116, 117, 118, 119, 120, 121, 122, 123, 124, 125, 126, 127, 128, 129, 130, 131, 132, 133, 134, 135, 136, 137, 138, 139, 140, 141, 142, 143, 144, 145, 146, 147, 148, 149, 150, 151, 152, 153, 154, 155, 156, 157, 158, 159, 160, 161, 162, 163, 164, 165] (by decide +kernel) (by decide +kernel)
set_option maxRecDepth 20000 in
theorem gX8_likely_X8_goesThrough : GoodIn wsX8_likely (wsV RX8 263 RX8 yX8_goesThrough wsX8_goesThrough) := goodIn_app (goodIn_of _ (by decide +kernel)) ggX8_likely_X8_goesThrough
set_option maxRecDepth 20000 in
theorem ggX8_lots_X8_no : GoodIn wsX8_lots wsX8_no := goodIn_r _ [10, 11, 86, 87, 88, 89, 90, 91, 92, 93, 94, 95, 96, 97, 98, 99, 100, 101, 102, 103, 104, 105, 106, 107, 108, 109, 110, 111, 112, 113, 114, 115, 116, 117, 118, 119, 120, 121, 122, 123, 124, 125, 126, 127, 128, 129, 130, 131, 132, 133] (by decide +kernel) (by decide +kernel)
set_option maxRecDepth 20000 in
theorem gX8_lots_X8_no : GoodIn wsX8_lots (wsV RX8 13 RX8 yX8_no wsX8_no) := goodIn_app (goodIn_of _ (by decide +kernel)) ggX8_lots_X8_no
set_option maxRecDepth 20000 in
theorem ggX8_lots_X8_in : GoodIn wsX8_lots wsX8_in := goodIn_r _ [14] (by decide +kernel) (by decide +kernel)
set_option maxRecDepth 20000 in
theorem gX8_lots_X8_in : GoodIn wsX8_lots (va_wsS RX8 129 yX8_in wsX8_in) := goodIn_app (goodIn_of _ (by decide +kernel)) ggX8_lots_X8_in
set_option maxRecDepth 20000 in
theorem ggX8_lots_X8_keeps1 : GoodIn wsX8_lots wsX8_keeps1 := goodIn_r _ [18, 5, 19, 20, 21, 86, 87, 88, 89, 90, 91, 92, 93, 94, 95, 96, 97, 98, 99, 100, 101, 102, 103, 104, 105, 106, 107, 108, 109, 110, 111, 112, 113, 114, 115, 116, 117, 118, 119, 120, 121, 122, 123, 124, 125, 126, 127, 128, 129, 130, 131, 132, 133] (by decide +kernel) (by decide +kernel)
set_option maxRecDepth 20000 in
theorem gX8_lots_X8_keeps1 : GoodIn wsX8_lots (wsV RX8 227 RX8 yX8_keeps1 wsX8_keeps1) := goodIn_app (goodIn_of _ (by decide +kernel)) ggX8_lots_X8_keeps1
set_option maxRecDepth 20000 in
theorem ggX8_lots_X8_rolls : GoodIn wsX8_lots wsX8_rolls := goodIn_r _ [25, 5, 26, 21, 27, 28, 29, 9, 30, 31, 32, 33, 34, 35, 36, 37, 38, 12, 13, 14, 39, 40, 41, 42, 43, 44, 45, 46, 47, 48, 49, 50, 51, 52, 53, 54, 55, 56, 57, 58, 59, 60, 61, 62, 63, 64, 65, 66, 67, 68, 69, 70, 71, 72, 73, 74, 75, 76, 77, 78, 79, 80, 81, 86, 87, 88, 89, 90, 91, 92, 93, 94, 95, 96, 97, 98, 99, 100, 101, 102, 103, 104, 105, 106, 107, 108, 109, 110, 111, 112, 113, 114, 115, 116, 117, 118, 119, 120, 121, 122, 123, 124, 125, 126, 127, 128, 129, 130, 131, 132, 133] (by decide +kernel) (by decide +kernel)
set_option maxRecDepth 20000 in
theorem gX8_lots_X8_rolls : GoodIn wsX8_lots (wsV RX8 230 RX8 yX8_rolls wsX8_rolls) := goodIn_app (goodIn_of _ (by decide +kernel)) ggX8_lots_X8_rolls
set_option maxRecDepth 20000 in
theorem ggX8_lots_X8_lays1 : GoodIn wsX8_lots wsX8_lays1 := goodIn_r _ [85, 19, 5, 21, 20, 86, 87, 88, 89, 90, 91, 92, 93, 94, 95, 96, 97, 98, 99, 100, 101, 102, 103, 104, 105, 106, 107, 108, 109, 110, 111, 112, 113, 114, 115, 116, 117, 118, 119, 120, 121, 122, 123, 124, 125, 126, 127, 128, 129, 130, 131, 132, 133] (by decide +kernel) (by decide +kernel)
set_option maxRecDepth 20000 in
theorem gX8_lots_X8_lays1 : GoodIn wsX8_lots (wsV RX8 242 RX8 yX8_lays1 wsX8_lays1) := goodIn_app (goodIn_of _ (by decide +kernel)) ggX8_lots_X8_lays1
set_option maxRecDepth 20000 in
theorem ggX8_isList_X8_in : GoodIn wsX8_isList wsX8_in := goodIn_r _ [5] (by decide +kernel) (by decide +kernel)
set_option maxRecDepth 20000 in
theorem gX8_isList_X8_in : GoodIn wsX8_isList (va_wsS RX8 129 yX8_in wsX8_in) := goodIn_app (goodIn_of _ (by decide +kernel)) ggX8_isList_X8_in
set_option maxRecDepth 20000 in
theorem ggX8_list_X8_isList : GoodIn wsX8_list wsX8_isList := goodIn_r _ [6, 7, 8, 9, 5, 10] (by decide +kernel) (by decide +kernel)
set_option maxRecDepth 20000 in
theorem gX8_list_X8_isList : GoodIn wsX8_list (va_wsS RX8 315 yX8_isList wsX8_isList) := goodIn_app (goodIn_of _ (by decide +kernel)) ggX8_list_X8_isList
set_option maxRecDepth 20000 in
theorem ggX8_list_X8_no : GoodIn wsX8_list wsX8_no := goodIn_r _ [14, 15, 16, 17, 18, 19, 20, 21, 22, 23, 24, 25, 26, 27, 28, 29, 30, 31, 32, 33, 34, 35, 36, 37, 38, 39, 40, 41, 42, 43, 44, 45, 46, 47, 48, 49, 50, 51, 52, 53, 54, 55, 56, 57, 58, 59, 60, 61, 62, 63] (by decide +kernel) (by decide +kernel)
set_option maxRecDepth 20000 in
theorem gX8_list_X8_no : GoodIn wsX8_list (wsV RX8 13 RX8 yX8_no wsX8_no) := goodIn_app (goodIn_of _ (by decide +kernel)) ggX8_list_X8_no
set_option maxRecDepth 20000 in
theorem ggX8_put_X8_isList : GoodIn wsX8_put wsX8_isList := goodIn_r _ [6, 7, 8, 9, 5, 10] (by decide +kernel) (by decide +kernel)
set_option maxRecDepth 20000 in
theorem gX8_put_X8_isList : GoodIn wsX8_put (va_wsS RX8 315 yX8_isList wsX8_isList) := goodIn_app (goodIn_of _ (by decide +kernel)) ggX8_put_X8_isList
set_option maxRecDepth 20000 in
theorem ggX8_put_X8_no : GoodIn wsX8_put wsX8_no := goodIn_r _ [14, 15, 16, 17, 18, 19, 20, 21, 22, 23, 24, 25, 26, 27, 28, 29, 30, 31, 32, 33, 34, 35, 36, 37, 38, 39, 40, 41, 42, 43, 44, 45, 46, 47, 48, 49, 50, 51, 52, 53, 54, 55, 56, 57, 58, 59, 60, 61, 62, 63] (by decide +kernel) (by decide +kernel)
set_option maxRecDepth 20000 in
theorem gX8_put_X8_no : GoodIn wsX8_put (wsV RX8 13 RX8 yX8_no wsX8_no) := goodIn_app (goodIn_of _ (by decide +kernel)) ggX8_put_X8_no
set_option maxRecDepth 20000 in
theorem ggX8_put_X8_in : GoodIn wsX8_put wsX8_in := goodIn_r _ [10] (by decide +kernel) (by decide +kernel)
set_option maxRecDepth 20000 in
theorem gX8_put_X8_in : GoodIn wsX8_put (va_wsS RX8 129 yX8_in wsX8_in) := goodIn_app (goodIn_of _ (by decide +kernel)) ggX8_put_X8_in
set_option maxRecDepth 20000 in
theorem ggX8_look_X8_isList : GoodIn wsX8_look wsX8_isList := goodIn_r _ [6, 7, 8, 9, 5, 10] (by decide +kernel) (by decide +kernel)
set_option maxRecDepth 20000 in
theorem gX8_look_X8_isList : GoodIn wsX8_look (va_wsS RX8 315 yX8_isList wsX8_isList) := goodIn_app (goodIn_of _ (by decide +kernel)) ggX8_look_X8_isList
set_option maxRecDepth 20000 in
theorem ggX8_look_X8_longNo : GoodIn wsX8_look wsX8_longNo := goodIn_r _ [14, 15, 16, 17, 18, 5, 19, 20, 21, 22, 23, 24, 25, 26, 27, 28, 29, 30, 31, 32, 33, 34, 35, 36, 37, 38, 39, 40, 41, 42, 43, 44, 45, 46, 47, 48, 49, 50, 51, 52, 53, 54, 55, 56, 57, 58, 59, 60, 61, 62, 63, 64, 65, 66, 67, 68] (by decide +kernel) (by decide +kernel)
set_option maxRecDepth 20000 in
theorem gX8_look_X8_longNo : GoodIn wsX8_look (wsV RX8 303 RX8 yX8_longNo wsX8_longNo) := goodIn_app (goodIn_of _ (by decide +kernel)) ggX8_look_X8_longNo
set_option maxRecDepth 20000 in
theorem ggX8_look_X8_in : GoodIn wsX8_look wsX8_in := goodIn_r _ [10] (by decide +kernel) (by decide +kernel)
set_option maxRecDepth 20000 in
theorem gX8_look_X8_in : GoodIn wsX8_look (va_wsS RX8 129 yX8_in wsX8_in) := goodIn_app (goodIn_of _ (by decide +kernel)) ggX8_look_X8_in
set_option maxRecDepth 20000 in
theorem ggX8_lays_X8_isList : GoodIn wsX8_lays wsX8_isList := goodIn_r _ [7, 8, 9, 10, 6, 11] (by decide +kernel) (by decide +kernel)
set_option maxRecDepth 20000 in
theorem gX8_lays_X8_isList : GoodIn wsX8_lays (va_wsS RX8 315 yX8_isList wsX8_isList) := goodIn_app (goodIn_of _ (by decide +kernel)) ggX8_lays_X8_isList
set_option maxRecDepth 20000 in
theorem ggX8_lays_X8_no : GoodIn wsX8_lays wsX8_no := goodIn_r _ [15, 16, 23, 24, 25, 26, 27, 28, 29, 30, 31, 32, 33, 34, 35, 36, 37, 38, 39, 40, 41, 42, 43, 44, 45, 46, 47, 48, 49, 50, 51, 52, 53, 54, 55, 56, 57, 58, 59, 60, 61, 62, 63, 64, 65, 66, 67, 68, 69, 70] (by decide +kernel) (by decide +kernel)
set_option maxRecDepth 20000 in
theorem gX8_lays_X8_no : GoodIn wsX8_lays (wsV RX8 13 RX8 yX8_no wsX8_no) := goodIn_app (goodIn_of _ (by decide +kernel)) ggX8_lays_X8_no
set_option maxRecDepth 20000 in
theorem ggX8_lays_X8_tileMany : GoodIn wsX8_lays wsX8_tileMany := goodIn_r _ [20, 21, 22, 23, 24, 25, 26, 27, 28, 29, 30, 31, 32, 33, 34, 35, 36, 37, 38, 39, 40, 41, 42, 43, 44, 45, 46, 47, 48, 49, 50, 51, 52, 53, 54, 55, 56, 57, 58, 59, 60, 61, 62, 63, 64, 65, 66, 67, 68, 69, 70] (by decide +kernel) (by decide +kernel)
set_option maxRecDepth 20000 in
theorem gX8_lays_X8_tileMany : GoodIn wsX8_lays (wsV RX8 125 RX8 yX8_tileMany wsX8_tileMany) := goodIn_app (goodIn_of _ (by decide +kernel)) ggX8_lays_X8_tileMany
set_option maxRecDepth 20000 in
theorem ggX8_tells_X8_isList : GoodIn wsX8_tells wsX8_isList := goodIn_r _ [7, 8, 9, 10, 6, 11] (by decide +kernel) (by decide +kernel)
set_option maxRecDepth 20000 in
theorem gX8_tells_X8_isList : GoodIn wsX8_tells (va_wsS RX8 315 yX8_isList wsX8_isList) := goodIn_app (goodIn_of _ (by decide +kernel)) ggX8_tells_X8_isList
set_option maxRecDepth 20000 in
theorem ggX8_tells_X8_no : GoodIn wsX8_tells wsX8_no := goodIn_r _ [15, 16, 27, 28, 29, 30, 31, 32, 33, 34, 35, 36, 37, 38, 39, 40, 41, 42, 43, 44, 45, 46, 47, 48, 49, 50, 51, 52, 53, 54, 55, 56, 57, 58, 59, 60, 61, 62, 63, 64, 65, 66, 67, 68, 69, 70, 71, 72, 73, 74] (by decide +kernel) (by decide +kernel)
set_option maxRecDepth 20000 in
theorem gX8_tells_X8_no : GoodIn wsX8_tells (wsV RX8 13 RX8 yX8_no wsX8_no) := goodIn_app (goodIn_of _ (by decide +kernel)) ggX8_tells_X8_no
set_option maxRecDepth 20000 in
theorem ggX8_tells_X8_isTile : GoodIn wsX8_tells wsX8_isTile := goodIn_r _ [20, 21, 22, 23, 6, 24, 25, 26, 9, 10, 11, 27, 28, 29, 30, 31, 32, 33, 34, 35, 36, 37, 38, 39, 40, 41, 42, 43, 44, 45, 46, 47, 48, 49, 50, 51, 52, 53, 54, 55, 56, 57, 58, 59, 60, 61, 62, 63, 64, 65, 66, 67, 68, 69, 70, 71, 72, 73, 74] (by decide +kernel) (by decide +kernel)
set_option maxRecDepth 20000 in
theorem gX8_tells_X8_isTile : GoodIn wsX8_tells (wsV RX8 150 RX8 yX8_isTile wsX8_isTile) := goodIn_app (goodIn_of _ (by decide +kernel)) ggX8_tells_X8_isTile
set_option maxRecDepth 20000 in
theorem ggX8_isRack_X8_in : GoodIn wsX8_isRack wsX8_in := goodIn_r _ [5] (by decide +kernel) (by decide +kernel)
set_option maxRecDepth 20000 in
theorem gX8_isRack_X8_in : GoodIn wsX8_isRack (va_wsS RX8 129 yX8_in wsX8_in) := goodIn_app (goodIn_of _ (by decide +kernel)) ggX8_isRack_X8_in
set_option maxRecDepth 20000 in
theorem ggX8_rack_X8_isRack : GoodIn wsX8_rack wsX8_isRack := goodIn_r _ [8, 9, 10, 11, 7, 12] (by decide +kernel) (by decide +kernel)
set_option maxRecDepth 20000 in
theorem gX8_rack_X8_isRack : GoodIn wsX8_rack (va_wsS RX8 318 yX8_isRack wsX8_isRack) := goodIn_app (goodIn_of _ (by decide +kernel)) ggX8_rack_X8_isRack
set_option maxRecDepth 20000 in
theorem ggX8_rack_X8_no : GoodIn wsX8_rack wsX8_no := goodIn_r _ [16, 17, 18, 19, 20, 21, 22, 23, 24, 25, 26, 27, 28, 29, 30, 31, 32, 33, 34, 35, 36, 37, 38, 39, 40, 41, 42, 43, 44, 45, 46, 47, 48, 49, 50, 51, 52, 53, 54, 55, 56, 57, 58, 59, 60, 61, 62, 63, 64, 65] (by decide +kernel) (by decide +kernel)
set_option maxRecDepth 20000 in
theorem gX8_rack_X8_no : GoodIn wsX8_rack (wsV RX8 13 RX8 yX8_no wsX8_no) := goodIn_app (goodIn_of _ (by decide +kernel)) ggX8_rack_X8_no
set_option maxRecDepth 20000 in
theorem ggX8_rack_X8_in : GoodIn wsX8_rack wsX8_in := goodIn_r _ [12] (by decide +kernel) (by decide +kernel)
set_option maxRecDepth 20000 in
theorem gX8_rack_X8_in : GoodIn wsX8_rack (va_wsS RX8 129 yX8_in wsX8_in) := goodIn_app (goodIn_of _ (by decide +kernel)) ggX8_rack_X8_in
set_option maxRecDepth 20000 in
theorem ggX8_racks_X8_isRack : GoodIn wsX8_racks wsX8_isRack := goodIn_r _ [10, 11, 12, 13, 9, 14] (by decide +kernel) (by decide +kernel)
set_option maxRecDepth 20000 in
theorem gX8_racks_X8_isRack : GoodIn wsX8_racks (va_wsS RX8 318 yX8_isRack wsX8_isRack) := goodIn_app (goodIn_of _ (by decide +kernel)) ggX8_racks_X8_isRack
set_option maxRecDepth 20000 in
theorem ggX8_racks_X8_no : GoodIn wsX8_racks wsX8_no := goodIn_r _ [18, 19, 29, 30, 31, 32, 33, 34, 35, 36, 37, 38, 39, 40, 41, 42, 43, 44, 45, 46, 47, 48, 49, 50, 51, 52, 53, 54, 55, 56, 57, 58, 59, 60, 61, 62, 63, 64, 65, 66, 67, 68, 69, 70, 71, 72, 73, 74, 75, 76] (by decide +kernel) (by decide +kernel)
set_option maxRecDepth 20000 in
theorem gX8_racks_X8_no : GoodIn wsX8_racks (wsV RX8 13 RX8 yX8_no wsX8_no) := goodIn_app (goodIn_of _ (by decide +kernel)) ggX8_racks_X8_no
set_option maxRecDepth 20000 in
theorem ggX8_racks_X8_in : GoodIn wsX8_racks wsX8_in := goodIn_r _ [14] (by decide +kernel) (by decide +kernel)
set_option maxRecDepth 20000 in
theorem gX8_racks_X8_in : GoodIn wsX8_racks (va_wsS RX8 129 yX8_in wsX8_in) := goodIn_app (goodIn_of _ (by decide +kernel)) ggX8_racks_X8_in
set_option maxRecDepth 20000 in
theorem ggX8_racks_X8_below : GoodIn wsX8_racks wsX8_below := goodIn_r _ [23, 24, 25, 26, 27, 9, 28, 3, 29, 30, 31, 32, 33, 34, 35, 36, 37, 38, 39, 40, 41, 42, 43, 44, 45, 46, 47, 48, 49, 50, 51, 52, 53, 54, 55, 56, 57, 58, 59, 60, 61, 62, 63, 64, 65, 66, 67, 68, 69, 70, 71, 72, 73, 74, 75, 76] (by decide +kernel) (by decide +kernel)
set_option maxRecDepth 20000 in
theorem gX8_racks_X8_below : GoodIn wsX8_racks (wsV RX8 221 RX8 yX8_below wsX8_below) := goodIn_app (goodIn_of _ (by decide +kernel)) ggX8_racks_X8_below
set_option maxRecDepth 20000 in
theorem ggX8_racked_X8_isRack : GoodIn wsX8_racked wsX8_isRack := goodIn_r _ [7, 8, 9, 10, 6, 11] (by decide +kernel) (by decide +kernel)
set_option maxRecDepth 20000 in
theorem gX8_racked_X8_isRack : GoodIn wsX8_racked (va_wsS RX8 318 yX8_isRack wsX8_isRack) := goodIn_app (goodIn_of _ (by decide +kernel)) ggX8_racked_X8_isRack
set_option maxRecDepth 20000 in
theorem ggX8_racked_X8_no : GoodIn wsX8_racked wsX8_no := goodIn_r _ [15, 16, 17, 18, 19, 20, 21, 22, 23, 24, 25, 26, 27, 28, 29, 30, 31, 32, 33, 34, 35, 36, 37, 38, 39, 40, 41, 42, 43, 44, 45, 46, 47, 48, 49, 50, 51, 52, 53, 54, 55, 56, 57, 58, 59, 60, 61, 62, 63, 64] (by decide +kernel) (by decide +kernel)
set_option maxRecDepth 20000 in
theorem gX8_racked_X8_no : GoodIn wsX8_racked (wsV RX8 13 RX8 yX8_no wsX8_no) := goodIn_app (goodIn_of _ (by decide +kernel)) ggX8_racked_X8_no
set_option maxRecDepth 20000 in
theorem ggX8_racked_X8_in : GoodIn wsX8_racked wsX8_in := goodIn_r _ [11] (by decide +kernel) (by decide +kernel)
set_option maxRecDepth 20000 in
theorem gX8_racked_X8_in : GoodIn wsX8_racked (va_wsS RX8 129 yX8_in wsX8_in) := goodIn_app (goodIn_of _ (by decide +kernel)) ggX8_racked_X8_in
set_option maxRecDepth 20000 in
theorem ggX8_like_X8_isRack : GoodIn wsX8_like wsX8_isRack := goodIn_r _ [8, 9, 10, 11, 7, 12] (by decide +kernel) (by decide +kernel)
set_option maxRecDepth 20000 in
theorem gX8_like_X8_isRack : GoodIn wsX8_like (va_wsS RX8 318 yX8_isRack wsX8_isRack) := goodIn_app (goodIn_of _ (by decide +kernel)) ggX8_like_X8_isRack
set_option maxRecDepth 20000 in
theorem ggX8_like_X8_no : GoodIn wsX8_like wsX8_no := goodIn_r _ [16, 17, 18, 19, 20, 21, 22, 23, 24, 25, 26, 27, 28, 29, 30, 31, 32, 33, 34, 35, 36, 37, 38, 39, 40, 41, 42, 43, 44, 45, 46, 47, 48, 49, 50, 51, 52, 53, 54, 55, 56, 57, 58, 59, 60, 61, 62, 63, 64, 65] (by decide +kernel) (by decide +kernel)
set_option maxRecDepth 20000 in
theorem gX8_like_X8_no : GoodIn wsX8_like (wsV RX8 13 RX8 yX8_no wsX8_no) := goodIn_app (goodIn_of _ (by decide +kernel)) ggX8_like_X8_no
set_option maxRecDepth 20000 in
theorem ggX8_on_X8_no : GoodIn wsX8_on wsX8_no := goodIn_r _ [21, 22, 23, 24, 25, 26, 27, 28, 29, 30, 31, 32, 33, 34, 35, 36, 37, 38, 39, 40, 41, 42, 43, 44, 45, 46, 47, 48, 49, 50, 51, 52, 53, 54, 55, 56, 57, 58, 59, 60, 61, 62, 63, 64, 65, 66, 67, 68, 69, 70] (by decide +kernel) (by decide +kernel)
set_option maxRecDepth 20000 in
theorem gX8_on_X8_no : GoodIn wsX8_on (wsV RX8 13 RX8 yX8_no wsX8_no) := goodIn_app (goodIn_of _ (by decide +kernel)) ggX8_on_X8_no
set_option maxRecDepth 20000 in
theorem ggX8_tilesThatAre_X8_tileMany : GoodIn wsX8_tilesThatAre wsX8_tileMany := goodIn_r _ [6, 7, 8, 9, 10, 11, 12, 13, 14, 15, 16, 17, 18, 19, 20, 21, 22, 23, 24, 25, 26, 27, 28, 29, 30, 31, 32, 33, 34, 35, 36, 37, 38, 39, 40, 41, 42, 43, 44, 45, 46, 47, 48, 49, 50, 51, 52, 53, 54, 55, 56] (by decide +kernel) (by decide +kernel)
set_option maxRecDepth 20000 in
theorem gX8_tilesThatAre_X8_tileMany : GoodIn wsX8_tilesThatAre (wsV RX8 125 RX8 yX8_tileMany wsX8_tileMany) := goodIn_app (goodIn_of _ (by decide +kernel)) ggX8_tilesThatAre_X8_tileMany
set_option maxRecDepth 20000 in
theorem ggX8_count_X8_tilesThatAre : GoodIn wsX8_count wsX8_tilesThatAre := goodIn_r _ [14, 15, 16, 17, 18, 13, 19, 1, 2, 28, 29, 30, 31, 32, 33, 34, 35, 36, 37, 38, 39, 40, 41, 42, 43, 44, 45, 46, 47, 48, 49, 50, 51, 52, 53, 54, 55, 56, 57, 58, 59, 60, 61, 62, 63, 64, 65, 66, 67, 68, 69, 70, 71, 72, 73, 74, 75] (by decide +kernel) (by decide +kernel)
set_option maxRecDepth 20000 in
theorem gX8_count_X8_tilesThatAre : GoodIn wsX8_count (wsV RX8 327 RX8 yX8_tilesThatAre wsX8_tilesThatAre) := goodIn_app (goodIn_of _ (by decide +kernel)) ggX8_count_X8_tilesThatAre
set_option maxRecDepth 20000 in
theorem ggX8_count_X8_printed : GoodIn wsX8_count wsX8_printed := goodIn_r _ [23, 24, 16, 17, 18, 13, 19, 1, 2, 28, 29, 30, 31, 32, 33, 34, 35, 36, 37, 38, 39, 40, 41, 42, 43, 44, 45, 46, 47, 48, 49, 50, 51, 52, 53, 54, 55, 56, 57, 58, 59, 60, 61, 62, 63, 64, 65, 66, 67, 68, 69, 70, 71, 72, 73, 74, 75] (by decide +kernel) (by decide +kernel)
set_option maxRecDepth 20000 in
theorem gX8_count_X8_printed : GoodIn wsX8_count (wsV RX8 212 RX8 yX8_printed wsX8_printed) := goodIn_app (goodIn_of _ (by decide +kernel)) ggX8_count_X8_printed
set_option maxRecDepth 20000 in
theorem ggX8_count_X8_in : GoodIn wsX8_count wsX8_in := goodIn_r _ [27] (by decide +kernel) (by decide +kernel)
set_option maxRecDepth 20000 in
theorem gX8_count_X8_in : GoodIn wsX8_count (va_wsS RX8 129 yX8_in wsX8_in) := goodIn_app (goodIn_of _ (by decide +kernel)) ggX8_count_X8_in
