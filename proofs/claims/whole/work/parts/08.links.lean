/-! methods, and the words that their instructions link, each by its place in the tables -/
theorem ltb {a b : Nat} (h : Nat.ble (a + 1) b = true) : a < b := Nat.le_of_ble_eq_true h
theorem leb {a b : Nat} (h : Nat.ble a b = true) : a ≤ b := Nat.le_of_ble_eq_true h
theorem cls0 : Cls 0 RX0 TX0 7 := ⟨rfl, clw0, by decide, tyX0, tyX0_ok, nmX0⟩
theorem cls1 : Cls 1 RX1 TX1 5 := ⟨rfl, clw1, by decide, tyX1, tyX1_ok, nmX1⟩
theorem cls2 : Cls 2 RX2 TX2 7 := ⟨rfl, clw2, by decide, tyX2, tyX2_ok, nmX2⟩
theorem cls3 : Cls 3 RX3 TX3 14 := ⟨rfl, clw3, by decide, tyX3, tyX3_ok, nmX3⟩
theorem cls4 : Cls 4 RX4 TX4 3 := ⟨rfl, clw4, by decide, tyX4, tyX4_ok, nmX4⟩
theorem cls5 : Cls 5 RX5 TX5 8 := ⟨rfl, clw5, by decide, tyX5, tyX5_ok, nmX5⟩
theorem cls6 : Cls 6 RX6 TX6 6 := ⟨rfl, clw6, by decide, tyX6, tyX6_ok, nmX6⟩
theorem cls7 : Cls 7 RX7 TX7 12 := ⟨rfl, clw7, by decide, tyX7, tyX7_ok, nmX7⟩
theorem cls8 : Cls 8 RX8 TX8 51 := ⟨rfl, clw8, by decide, tyX8, tyX8_ok, nmX8⟩
abbrev mX0_init : MD := (yX0_init, cX0_init, 1, none, { frames := 2, cells := 5, slots := 52, locals := 43 })
theorem mk_X0_init : Mk mX0_init 0 := ⟨in_X0, cd_X0_init, by decide, by decide, by decide +kernel⟩
abbrev mX0_empty : MD := (yX0_empty, cX0_empty, 1, none, { frames := 1, cells := 0, slots := 0, locals := 23 })
theorem mk_X0_empty : Mk mX0_empty 0 := ⟨in_X0, cd_X0_empty, by decide, by decide, by decide +kernel⟩
abbrev mX0_read : MD := (yX0_read, cX0_read, 2, (some .boolean), { frames := 4, cells := 0, slots := 0, locals := 87 })
theorem mk_X0_read : Mk mX0_read 1 := ⟨in_X0, cd_X0_read, by decide, by decide, by decide +kernel⟩
abbrev mX0_readItem : MD := (yX0_readItem, cX0_readItem, 2, (some .boolean), { frames := 3, cells := 0, slots := 0, locals := 66 })
theorem mk_X0_readItem : Mk mX0_readItem 1 := ⟨in_X0, cd_X0_readItem, by decide, by decide, by decide +kernel⟩
abbrev mX0_readStuff : MD := (yX0_readStuff, cX0_readStuff, 4, (some .boolean), { frames := 2, cells := 0, slots := 0, locals := 43 })
theorem mk_X0_readStuff : Mk mX0_readStuff 1 := ⟨in_X0, cd_X0_readStuff, by decide, by decide, by decide +kernel⟩
abbrev mX0_readAlike : MD := (yX0_readAlike, cX0_readAlike, 3, (some .boolean), { frames := 2, cells := 0, slots := 0, locals := 42 })
theorem mk_X0_readAlike : Mk mX0_readAlike 1 := ⟨in_X0, cd_X0_readAlike, by decide, by decide, by decide +kernel⟩
abbrev mX0_readBill : MD := (yX0_readBill, cX0_readBill, 2, (some .boolean), { frames := 2, cells := 0, slots := 0, locals := 43 })
theorem mk_X0_readBill : Mk mX0_readBill 1 := ⟨in_X0, cd_X0_readBill, by decide, by decide, by decide +kernel⟩
abbrev mX1_init : MD := (yX1_init, cX1_init, 1, none, { frames := 1, cells := 2, slots := 20, locals := 20 })
theorem mk_X1_init : Mk mX1_init 0 := ⟨in_X1, cd_X1_init, by decide, by decide, by decide +kernel⟩
abbrev mX1_read : MD := (yX1_read, cX1_read, 2, (some .boolean), { frames := 3, cells := 0, slots := 0, locals := 64 })
theorem mk_X1_read : Mk mX1_read 1 := ⟨in_X1, cd_X1_read, by decide, by decide, by decide +kernel⟩
abbrev mX1_readCoats : MD := (yX1_readCoats, cX1_readCoats, 2, (some .boolean), { frames := 2, cells := 0, slots := 0, locals := 43 })
theorem mk_X1_readCoats : Mk mX1_readCoats 1 := ⟨in_X1, cd_X1_readCoats, by decide, by decide, by decide +kernel⟩
abbrev mX1_copy : MD := (yX1_copy, cX1_copy, 2, none, { frames := 1, cells := 0, slots := 0, locals := 54 })
theorem mk_X1_copy : Mk mX1_copy 1 := ⟨in_X1, cd_X1_copy, by decide, by decide, by decide +kernel⟩
abbrev mX2_init : MD := (yX2_init, cX2_init, 1, none, { frames := 1, cells := 2, slots := 242, locals := 20 })
theorem mk_X2_init : Mk mX2_init 0 := ⟨in_X2, cd_X2_init, by decide, by decide, by decide +kernel⟩
abbrev mX2_lay : MD := (yX2_lay, cX2_lay, 8, none, { frames := 3, cells := 0, slots := 0, locals := 72 })
theorem mk_X2_lay : Mk mX2_lay 5 := ⟨in_X2, cd_X2_lay, by decide, by decide, by decide +kernel⟩
abbrev mX2_leastCost : MD := (yX2_leastCost, cX2_leastCost, 1, (some .int), { frames := 0, cells := 0, slots := 0, locals := 0 })
theorem mk_X2_leastCost : Mk mX2_leastCost 0 := ⟨in_X2, cd_X2_leastCost, by decide, by decide, by decide +kernel⟩
abbrev mX2_leastWays : MD := (yX2_leastWays, cX2_leastWays, 1, (some .long), { frames := 0, cells := 0, slots := 0, locals := 0 })
theorem mk_X2_leastWays : Mk mX2_leastWays 0 := ⟨in_X2, cd_X2_leastWays, by decide, by decide, by decide +kernel⟩
abbrev mX2_beside : MD := (yX2_beside, cX2_beside, 5, (some .int), { frames := 3, cells := 0, slots := 0, locals := 67 })
theorem mk_X2_beside : Mk mX2_beside 1 := ⟨in_X2, cd_X2_beside, by decide, by decide, by decide +kernel⟩
abbrev mX2_nearest : MD := (yX2_nearest, cX2_nearest, 4, (some .int), { frames := 2, cells := 0, slots := 0, locals := 44 })
theorem mk_X2_nearest : Mk mX2_nearest 2 := ⟨in_X2, cd_X2_nearest, by decide, by decide, by decide +kernel⟩
abbrev mX2_fill : MD := (yX2_fill, cX2_fill, 9, none, { frames := 2, cells := 0, slots := 0, locals := 44 })
theorem mk_X2_fill : Mk mX2_fill 2 := ⟨in_X2, cd_X2_fill, by decide, by decide, by decide +kernel⟩
abbrev mX2_isSame : MD := (yX2_isSame, cX2_isSame, 3, (some .boolean), { frames := 0, cells := 0, slots := 0, locals := 0 })
theorem mk_X2_isSame : Mk mX2_isSame 2 := ⟨in_X2, cd_X2_isSame, by decide, by decide, by decide +kernel⟩
abbrev mX2_costBeside : MD := (yX2_costBeside, cX2_costBeside, 5, (some .int), { frames := 1, cells := 0, slots := 0, locals := 20 })
theorem mk_X2_costBeside : Mk mX2_costBeside 3 := ⟨in_X2, cd_X2_costBeside, by decide, by decide, by decide +kernel⟩
abbrev mX3_init : MD := (yX3_init, cX3_init, 1, none, { frames := 1, cells := 10, slots := 260, locals := 20 })
theorem mk_X3_init : Mk mX3_init 0 := ⟨in_X3, cd_X3_init, by decide, by decide, by decide +kernel⟩
abbrev mX3_find : MD := (yX3_find, cX3_find, 6, none, { frames := 3, cells := 1, slots := 14641, locals := 69 })
theorem mk_X3_find : Mk mX3_find 2 := ⟨in_X3, cd_X3_find, by decide, by decide, by decide +kernel⟩
abbrev mX3_makeRoom : MD := (yX3_makeRoom, cX3_makeRoom, 2, none, { frames := 1, cells := 1, slots := 14641, locals := 21 })
theorem mk_X3_makeRoom : Mk mX3_makeRoom 1 := ⟨in_X3, cd_X3_makeRoom, by decide, by decide, by decide +kernel⟩
abbrev mX3_notIn : MD := (yX3_notIn, cX3_notIn, 4, (some .int), { frames := 0, cells := 0, slots := 0, locals := 0 })
theorem mk_X3_notIn : Mk mX3_notIn 1 := ⟨in_X3, cd_X3_notIn, by decide, by decide, by decide +kernel⟩
abbrev mX3_findServing : MD := (yX3_findServing, cX3_findServing, 3, none, { frames := 1, cells := 0, slots := 0, locals := 24 })
theorem mk_X3_findServing : Mk mX3_findServing 0 := ⟨in_X3, cd_X3_findServing, by decide, by decide, by decide +kernel⟩
abbrev mX3_fillRow : MD := (yX3_fillRow, cX3_fillRow, 10, none, { frames := 0, cells := 0, slots := 0, locals := 0 })
theorem mk_X3_fillRow : Mk mX3_fillRow 2 := ⟨in_X3, cd_X3_fillRow, by decide, by decide, by decide +kernel⟩
abbrev mX3_walk : MD := (yX3_walk, cX3_walk, 3, none, { frames := 2, cells := 0, slots := 0, locals := 47 })
theorem mk_X3_walk : Mk mX3_walk 0 := ⟨in_X3, cd_X3_walk, by decide, by decide, by decide +kernel⟩
abbrev mX3_firstColour : MD := (yX3_firstColour, cX3_firstColour, 4, (some .int), { frames := 1, cells := 0, slots := 0, locals := 24 })
theorem mk_X3_firstColour : Mk mX3_firstColour 1 := ⟨in_X3, cd_X3_firstColour, by decide, by decide, by decide +kernel⟩
abbrev mX3_paint : MD := (yX3_paint, cX3_paint, 3, none, { frames := 1, cells := 0, slots := 0, locals := 21 })
theorem mk_X3_paint : Mk mX3_paint 1 := ⟨in_X3, cd_X3_paint, by decide, by decide, by decide +kernel⟩
abbrev mX3_look : MD := (yX3_look, cX3_look, 6, none, { frames := 1, cells := 0, slots := 0, locals := 21 })
theorem mk_X3_look : Mk mX3_look 1 := ⟨in_X3, cd_X3_look, by decide, by decide, by decide +kernel⟩
abbrev mX3_strideOf : MD := (yX3_strideOf, cX3_strideOf, 5, (some .int), { frames := 0, cells := 0, slots := 0, locals := 0 })
theorem mk_X3_strideOf : Mk mX3_strideOf 2 := ⟨in_X3, cd_X3_strideOf, by decide, by decide, by decide +kernel⟩
abbrev mX4_init : MD := (yX4_init, cX4_init, 2, none, { frames := 2, cells := 13, slots := 104, locals := 40 })
theorem mk_X4_init : Mk mX4_init 0 := ⟨in_X4, cd_X4_init, by decide, by decide, by decide +kernel⟩
abbrev mX4_takeOut : MD := (yX4_takeOut, cX4_takeOut, 4, none, { frames := 0, cells := 0, slots := 0, locals := 0 })
theorem mk_X4_takeOut : Mk mX4_takeOut 1 := ⟨in_X4, cd_X4_takeOut, by decide, by decide, by decide +kernel⟩
abbrev mX4_copy : MD := (yX4_copy, cX4_copy, 3, none, { frames := 2, cells := 0, slots := 0, locals := 75 })
theorem mk_X4_copy : Mk mX4_copy 1 := ⟨in_X4, cd_X4_copy, by decide, by decide, by decide +kernel⟩
abbrev mX4_coats : MD := (yX4_coats, cX4_coats, 3, (some .int), { frames := 0, cells := 0, slots := 0, locals := 0 })
theorem mk_X4_coats : Mk mX4_coats 0 := ⟨in_X4, cd_X4_coats, by decide, by decide, by decide +kernel⟩
abbrev mX4_inRoom : MD := (yX4_inRoom, cX4_inRoom, 4, (some .int), { frames := 0, cells := 0, slots := 0, locals := 0 })
theorem mk_X4_inRoom : Mk mX4_inRoom 1 := ⟨in_X4, cd_X4_inRoom, by decide, by decide, by decide +kernel⟩
abbrev mX5_init : MD := (yX5_init, cX5_init, 1, none, { frames := 1, cells := 4, slots := 1603, locals := 20 })
theorem mk_X5_init : Mk mX5_init 0 := ⟨in_X5, cd_X5_init, by decide, by decide, by decide +kernel⟩
abbrev mX5_add : MD := (yX5_add, cX5_add, 5, (some .boolean), { frames := 0, cells := 0, slots := 0, locals := 0 })
theorem mk_X5_add : Mk mX5_add 2 := ⟨in_X5, cd_X5_add, by decide, by decide, by decide +kernel⟩
abbrev mX5_split : MD := (yX5_split, cX5_split, 2, none, { frames := 9, cells := 0, slots := 0, locals := 196 })
theorem mk_X5_split : Mk mX5_split 0 := ⟨in_X5, cd_X5_split, by decide, by decide, by decide +kernel⟩
abbrev mX5_isAt : MD := (yX5_isAt, cX5_isAt, 2, (some .boolean), { frames := 0, cells := 0, slots := 0, locals := 0 })
theorem mk_X5_isAt : Mk mX5_isAt 1 := ⟨in_X5, cd_X5_isAt, by decide, by decide, by decide +kernel⟩
abbrev mX5_fault : MD := (yX5_fault, cX5_fault, 1, (some .int), { frames := 0, cells := 0, slots := 0, locals := 0 })
theorem mk_X5_fault : Mk mX5_fault 0 := ⟨in_X5, cd_X5_fault, by decide, by decide, by decide +kernel⟩
abbrev mX5_take : MD := (yX5_take, cX5_take, 2, (some .boolean), { frames := 0, cells := 0, slots := 0, locals := 0 })
theorem mk_X5_take : Mk mX5_take 1 := ⟨in_X5, cd_X5_take, by decide, by decide, by decide +kernel⟩
abbrev mX5_takeNumber : MD := (yX5_takeNumber, cX5_takeNumber, 3, (some .boolean), { frames := 1, cells := 0, slots := 0, locals := 21 })
theorem mk_X5_takeNumber : Mk mX5_takeNumber 2 := ⟨in_X5, cd_X5_takeNumber, by decide, by decide, by decide +kernel⟩
abbrev mX5_takeColourBut : MD := (yX5_takeColourBut, cX5_takeColourBut, 2, (some .boolean), { frames := 1, cells := 0, slots := 0, locals := 21 })
theorem mk_X5_takeColourBut : Mk mX5_takeColourBut 1 := ⟨in_X5, cd_X5_takeColourBut, by decide, by decide, by decide +kernel⟩
abbrev mX5_beginsToken : MD := (yX5_beginsToken, cX5_beginsToken, 4, (some .boolean), { frames := 1, cells := 0, slots := 0, locals := 20 })
theorem mk_X5_beginsToken : Mk mX5_beginsToken 1 := ⟨in_X5, cd_X5_beginsToken, by decide, by decide, by decide +kernel⟩
abbrev mX5_readToken : MD := (yX5_readToken, cX5_readToken, 2, none, { frames := 8, cells := 0, slots := 0, locals := 175 })
theorem mk_X5_readToken : Mk mX5_readToken 1 := ⟨in_X5, cd_X5_readToken, by decide, by decide, by decide +kernel⟩
abbrev mX5_readNumber : MD := (yX5_readNumber, cX5_readNumber, 5, none, { frames := 1, cells := 0, slots := 0, locals := 20 })
theorem mk_X5_readNumber : Mk mX5_readNumber 1 := ⟨in_X5, cd_X5_readNumber, by decide, by decide, by decide +kernel⟩
abbrev mX5_readWord : MD := (yX5_readWord, cX5_readWord, 4, none, { frames := 7, cells := 0, slots := 0, locals := 152 })
theorem mk_X5_readWord : Mk mX5_readWord 1 := ⟨in_X5, cd_X5_readWord, by decide, by decide, by decide +kernel⟩
abbrev mX5_kindOfWord : MD := (yX5_kindOfWord, cX5_kindOfWord, 3, (some .int), { frames := 6, cells := 0, slots := 0, locals := 130 })
theorem mk_X5_kindOfWord : Mk mX5_kindOfWord 2 := ⟨in_X5, cd_X5_kindOfWord, by decide, by decide, by decide +kernel⟩
abbrev mX5_isWord : MD := (yX5_isWord, cX5_isWord, 5, (some .boolean), { frames := 5, cells := 0, slots := 0, locals := 106 })
theorem mk_X5_isWord : Mk mX5_isWord 3 := ⟨in_X5, cd_X5_isWord, by decide, by decide, by decide +kernel⟩
abbrev mX5_isDigit : MD := (yX5_isDigit, cX5_isDigit, 1, (some .boolean), { frames := 0, cells := 0, slots := 0, locals := 0 })
theorem mk_X5_isDigit : Mk mX5_isDigit 1 := ⟨in_X5, cd_X5_isDigit, by decide, by decide, by decide +kernel⟩
abbrev mX5_isLetter : MD := (yX5_isLetter, cX5_isLetter, 1, (some .boolean), { frames := 0, cells := 0, slots := 0, locals := 0 })
theorem mk_X5_isLetter : Mk mX5_isLetter 1 := ⟨in_X5, cd_X5_isLetter, by decide, by decide, by decide +kernel⟩
abbrev mX6_init : MD := (yX6_init, cX6_init, 1, none, { frames := 1, cells := 4, slots := 489, locals := 20 })
theorem mk_X6_init : Mk mX6_init 0 := ⟨in_X6, cd_X6_init, by decide, by decide, by decide +kernel⟩
abbrev mX6_find : MD := (yX6_find, cX6_find, 8, none, { frames := 1, cells := 0, slots := 0, locals := 21 })
theorem mk_X6_find : Mk mX6_find 3 := ⟨in_X6, cd_X6_find, by decide, by decide, by decide +kernel⟩
abbrev mX6_match : MD := (yX6_match, cX6_match, 6, none, { frames := 2, cells := 0, slots := 0, locals := 53 })
theorem mk_X6_match : Mk mX6_match 2 := ⟨in_X6, cd_X6_match, by decide, by decide, by decide +kernel⟩
abbrev mX6_mostFrom : MD := (yX6_mostFrom, cX6_mostFrom, 7, (some .int), { frames := 1, cells := 0, slots := 0, locals := 27 })
theorem mk_X6_mostFrom : Mk mX6_mostFrom 4 := ⟨in_X6, cd_X6_mostFrom, by decide, by decide, by decide +kernel⟩
abbrev mX6_leastBill : MD := (yX6_leastBill, cX6_leastBill, 7, (some .int), { frames := 1, cells := 0, slots := 0, locals := 27 })
theorem mk_X6_leastBill : Mk mX6_leastBill 4 := ⟨in_X6, cd_X6_leastBill, by decide, by decide, by decide +kernel⟩
abbrev mX6_fits : MD := (yX6_fits, cX6_fits, 8, (some .boolean), { frames := 0, cells := 0, slots := 0, locals := 0 })
theorem mk_X6_fits : Mk mX6_fits 5 := ⟨in_X6, cd_X6_fits, by decide, by decide, by decide +kernel⟩
abbrev mX7_init : MD := (yX7_init, cX7_init, 2, none, { frames := 3, cells := 81, slots := 3087, locals := 63 })
theorem mk_X7_init : Mk mX7_init 0 := ⟨in_X7, cd_X7_init, by decide, by decide, by decide +kernel⟩
abbrev mX7_type : MD := (yX7_type, cX7_type, 4, (some .int), { frames := 1, cells := 0, slots := 0, locals := 24 })
theorem mk_X7_type : Mk mX7_type 2 := ⟨in_X7, cd_X7_type, by decide, by decide, by decide +kernel⟩
abbrev mX7_clear : MD := (yX7_clear, cX7_clear, 2, (some .int), { frames := 0, cells := 0, slots := 0, locals := 0 })
theorem mk_X7_clear : Mk mX7_clear 0 := ⟨in_X7, cd_X7_clear, by decide, by decide, by decide +kernel⟩
abbrev mX7_chip : MD := (yX7_chip, cX7_chip, 1, (some .int), { frames := 10, cells := 0, slots := 0, locals := 217 })
theorem mk_X7_chip : Mk mX7_chip 0 := ⟨in_X7, cd_X7_chip, by decide, by decide, by decide +kernel⟩
abbrev mX7_book : MD := (yX7_book, cX7_book, 2, (some .int), { frames := 10, cells := 0, slots := 0, locals := 217 })
theorem mk_X7_book : Mk mX7_book 0 := ⟨in_X7, cd_X7_book, by decide, by decide, by decide +kernel⟩
abbrev mX7_drop : MD := (yX7_drop, cX7_drop, 2, (some .int), { frames := 1, cells := 0, slots := 0, locals := 23 })
theorem mk_X7_drop : Mk mX7_drop 1 := ⟨in_X7, cd_X7_drop, by decide, by decide, by decide +kernel⟩
abbrev mX7_about : MD := (yX7_about, cX7_about, 4, (some .int), { frames := 1, cells := 0, slots := 0, locals := 21 })
theorem mk_X7_about : Mk mX7_about 2 := ⟨in_X7, cd_X7_about, by decide, by decide, by decide +kernel⟩
abbrev mX7_coat : MD := (yX7_coat, cX7_coat, 4, (some .int), { frames := 5, cells := 1, slots := 14641, locals := 114 })
theorem mk_X7_coat : Mk mX7_coat 3 := ⟨in_X7, cd_X7_coat, by decide, by decide, by decide +kernel⟩
abbrev mX7_colour : MD := (yX7_colour, cX7_colour, 3, (some .int), { frames := 0, cells := 0, slots := 0, locals := 0 })
theorem mk_X7_colour : Mk mX7_colour 2 := ⟨in_X7, cd_X7_colour, by decide, by decide, by decide +kernel⟩
abbrev mX7_tune : MD := (yX7_tune, cX7_tune, 4, (some .int), { frames := 0, cells := 0, slots := 0, locals := 0 })
theorem mk_X7_tune : Mk mX7_tune 2 := ⟨in_X7, cd_X7_tune, by decide, by decide, by decide +kernel⟩
abbrev mX7_least : MD := (yX7_least, cX7_least, 3, (some .int), { frames := 5, cells := 0, slots := 0, locals := 121 })
theorem mk_X7_least : Mk mX7_least 2 := ⟨in_X7, cd_X7_least, by decide, by decide, by decide +kernel⟩
abbrev mX7_ways : MD := (yX7_ways, cX7_ways, 3, (some .long), { frames := 5, cells := 0, slots := 0, locals := 121 })
theorem mk_X7_ways : Mk mX7_ways 2 := ⟨in_X7, cd_X7_ways, by decide, by decide, by decide +kernel⟩
abbrev mX7_laid : MD := (yX7_laid, cX7_laid, 4, (some .int), { frames := 5, cells := 0, slots := 0, locals := 121 })
theorem mk_X7_laid : Mk mX7_laid 3 := ⟨in_X7, cd_X7_laid, by decide, by decide, by decide +kernel⟩
abbrev mX7_painting : MD := (yX7_painting, cX7_painting, 2, (some .int), { frames := 5, cells := 1, slots := 14641, locals := 114 })
theorem mk_X7_painting : Mk mX7_painting 1 := ⟨in_X7, cd_X7_painting, by decide, by decide, by decide +kernel⟩
abbrev mX7_had : MD := (yX7_had, cX7_had, 2, (some .int), { frames := 5, cells := 1, slots := 14641, locals := 114 })
theorem mk_X7_had : Mk mX7_had 1 := ⟨in_X7, cd_X7_had, by decide, by decide, by decide +kernel⟩
abbrev mX7_face : MD := (yX7_face, cX7_face, 3, (some .int), { frames := 6, cells := 1, slots := 14641, locals := 148 })
theorem mk_X7_face : Mk mX7_face 2 := ⟨in_X7, cd_X7_face, by decide, by decide, by decide +kernel⟩
abbrev mX7_span : MD := (yX7_span, cX7_span, 3, (some .int), { frames := 5, cells := 1, slots := 14641, locals := 114 })
theorem mk_X7_span : Mk mX7_span 2 := ⟨in_X7, cd_X7_span, by decide, by decide, by decide +kernel⟩
abbrev mX7_day : MD := (yX7_day, cX7_day, 3, (some .int), { frames := 5, cells := 1, slots := 14641, locals := 114 })
theorem mk_X7_day : Mk mX7_day 2 := ⟨in_X7, cd_X7_day, by decide, by decide, by decide +kernel⟩
abbrev mX7_bill : MD := (yX7_bill, cX7_bill, 3, (some .int), { frames := 0, cells := 0, slots := 0, locals := 0 })
theorem mk_X7_bill : Mk mX7_bill 2 := ⟨in_X7, cd_X7_bill, by decide, by decide, by decide +kernel⟩
abbrev mX7_billed : MD := (yX7_billed, cX7_billed, 2, (some .int), { frames := 5, cells := 1, slots := 14641, locals := 114 })
theorem mk_X7_billed : Mk mX7_billed 1 := ⟨in_X7, cd_X7_billed, by decide, by decide, by decide +kernel⟩
abbrev mX7_enough : MD := (yX7_enough, cX7_enough, 10, (some .int), { frames := 1, cells := 0, slots := 0, locals := 25 })
theorem mk_X7_enough : Mk mX7_enough 2 := ⟨in_X7, cd_X7_enough, by decide, by decide, by decide +kernel⟩
abbrev mX7_next : MD := (yX7_next, cX7_next, 6, (some .int), { frames := 5, cells := 1, slots := 14641, locals := 114 })
theorem mk_X7_next : Mk mX7_next 0 := ⟨in_X7, cd_X7_next, by decide, by decide, by decide +kernel⟩
abbrev mX7_rank : MD := (yX7_rank, cX7_rank, 4, (some .int), { frames := 5, cells := 1, slots := 14641, locals := 114 })
theorem mk_X7_rank : Mk mX7_rank 3 := ⟨in_X7, cd_X7_rank, by decide, by decide, by decide +kernel⟩
abbrev mX7_keep : MD := (yX7_keep, cX7_keep, 2, (some .int), { frames := 3, cells := 0, slots := 0, locals := 97 })
theorem mk_X7_keep : Mk mX7_keep 1 := ⟨in_X7, cd_X7_keep, by decide, by decide, by decide +kernel⟩
abbrev mX7_back : MD := (yX7_back, cX7_back, 2, (some .int), { frames := 3, cells := 0, slots := 0, locals := 97 })
theorem mk_X7_back : Mk mX7_back 1 := ⟨in_X7, cd_X7_back, by decide, by decide, by decide +kernel⟩
abbrev mX7_count : MD := (yX7_count, cX7_count, 2, (some .int), { frames := 1, cells := 0, slots := 0, locals := 22 })
theorem mk_X7_count : Mk mX7_count 1 := ⟨in_X7, cd_X7_count, by decide, by decide, by decide +kernel⟩
abbrev mX7_trace : MD := (yX7_trace, cX7_trace, 1, (some .long), { frames := 0, cells := 0, slots := 0, locals := 0 })
theorem mk_X7_trace : Mk mX7_trace 0 := ⟨in_X7, cd_X7_trace, by decide, by decide, by decide +kernel⟩
abbrev mX7_isChip : MD := (yX7_isChip, cX7_isChip, 2, (some .boolean), { frames := 0, cells := 0, slots := 0, locals := 0 })
theorem mk_X7_isChip : Mk mX7_isChip 1 := ⟨in_X7, cd_X7_isChip, by decide, by decide, by decide +kernel⟩
abbrev mX7_isCoat : MD := (yX7_isCoat, cX7_isCoat, 3, (some .boolean), { frames := 1, cells := 0, slots := 0, locals := 21 })
theorem mk_X7_isCoat : Mk mX7_isCoat 2 := ⟨in_X7, cd_X7_isCoat, by decide, by decide, by decide +kernel⟩
abbrev mX7_areTwo : MD := (yX7_areTwo, cX7_areTwo, 3, (some .boolean), { frames := 1, cells := 0, slots := 0, locals := 21 })
theorem mk_X7_areTwo : Mk mX7_areTwo 2 := ⟨in_X7, cd_X7_areTwo, by decide, by decide, by decide +kernel⟩
abbrev mX7_isPainting : MD := (yX7_isPainting, cX7_isPainting, 2, (some .boolean), { frames := 0, cells := 0, slots := 0, locals := 0 })
theorem mk_X7_isPainting : Mk mX7_isPainting 1 := ⟨in_X7, cd_X7_isPainting, by decide, by decide, by decide +kernel⟩
abbrev mX7_findSame : MD := (yX7_findSame, cX7_findSame, 2, none, { frames := 0, cells := 0, slots := 0, locals := 0 })
theorem mk_X7_findSame : Mk mX7_findSame 0 := ⟨in_X7, cd_X7_findSame, by decide, by decide, by decide +kernel⟩
abbrev mX7_lay : MD := (yX7_lay, cX7_lay, 3, none, { frames := 4, cells := 0, slots := 0, locals := 99 })
theorem mk_X7_lay : Mk mX7_lay 2 := ⟨in_X7, cd_X7_lay, by decide, by decide, by decide +kernel⟩
abbrev mX7_settle : MD := (yX7_settle, cX7_settle, 1, none, { frames := 4, cells := 1, slots := 14641, locals := 94 })
theorem mk_X7_settle : Mk mX7_settle 0 := ⟨in_X7, cd_X7_settle, by decide, by decide, by decide +kernel⟩
abbrev mX7_paintingOf : MD := (yX7_paintingOf, cX7_paintingOf, 3, (some .int), { frames := 0, cells := 0, slots := 0, locals := 0 })
theorem mk_X7_paintingOf : Mk mX7_paintingOf 2 := ⟨in_X7, cd_X7_paintingOf, by decide, by decide, by decide +kernel⟩
abbrev mX7_missedBy : MD := (yX7_missedBy, cX7_missedBy, 3, (some .int), { frames := 1, cells := 0, slots := 0, locals := 22 })
theorem mk_X7_missedBy : Mk mX7_missedBy 1 := ⟨in_X7, cd_X7_missedBy, by decide, by decide, by decide +kernel⟩
abbrev mX7_ageOf : MD := (yX7_ageOf, cX7_ageOf, 2, (some .int), { frames := 1, cells := 0, slots := 0, locals := 22 })
theorem mk_X7_ageOf : Mk mX7_ageOf 1 := ⟨in_X7, cd_X7_ageOf, by decide, by decide, by decide +kernel⟩
abbrev mX7_movedFrom : MD := (yX7_movedFrom, cX7_movedFrom, 8, (some .int), { frames := 5, cells := 0, slots := 0, locals := 121 })
theorem mk_X7_movedFrom : Mk mX7_movedFrom 1 := ⟨in_X7, cd_X7_movedFrom, by decide, by decide, by decide +kernel⟩
abbrev mX7_lastCoats : MD := (yX7_lastCoats, cX7_lastCoats, 7, (some .int), { frames := 1, cells := 0, slots := 0, locals := 22 })
theorem mk_X7_lastCoats : Mk mX7_lastCoats 2 := ⟨in_X7, cd_X7_lastCoats, by decide, by decide, by decide +kernel⟩
abbrev mX7_oddsOfAll : MD := (yX7_oddsOfAll, cX7_oddsOfAll, 6, (some .long), { frames := 0, cells := 0, slots := 0, locals := 0 })
theorem mk_X7_oddsOfAll : Mk mX7_oddsOfAll 2 := ⟨in_X7, cd_X7_oddsOfAll, by decide, by decide, by decide +kernel⟩
abbrev mX7_asCoat : MD := (yX7_asCoat, cX7_asCoat, 3, (some .int), { frames := 0, cells := 0, slots := 0, locals := 0 })
theorem mk_X7_asCoat : Mk mX7_asCoat 2 := ⟨in_X7, cd_X7_asCoat, by decide, by decide, by decide +kernel⟩
abbrev mX7_asWhole : MD := (yX7_asWhole, cX7_asWhole, 3, (some .int), { frames := 1, cells := 0, slots := 0, locals := 22 })
theorem mk_X7_asWhole : Mk mX7_asWhole 2 := ⟨in_X7, cd_X7_asWhole, by decide, by decide, by decide +kernel⟩
abbrev mX7_asUnder : MD := (yX7_asUnder, cX7_asUnder, 3, (some .int), { frames := 1, cells := 0, slots := 0, locals := 22 })
theorem mk_X7_asUnder : Mk mX7_asUnder 2 := ⟨in_X7, cd_X7_asUnder, by decide, by decide, by decide +kernel⟩
abbrev mX7_asPatch : MD := (yX7_asPatch, cX7_asPatch, 3, (some .int), { frames := 2, cells := 0, slots := 0, locals := 44 })
theorem mk_X7_asPatch : Mk mX7_asPatch 2 := ⟨in_X7, cd_X7_asPatch, by decide, by decide, by decide +kernel⟩
abbrev mX7_asScraped : MD := (yX7_asScraped, cX7_asScraped, 3, (some .int), { frames := 2, cells := 0, slots := 0, locals := 44 })
theorem mk_X7_asScraped : Mk mX7_asScraped 2 := ⟨in_X7, cd_X7_asScraped, by decide, by decide, by decide +kernel⟩
abbrev mX7_asVarnish : MD := (yX7_asVarnish, cX7_asVarnish, 3, (some .int), { frames := 1, cells := 0, slots := 0, locals := 22 })
theorem mk_X7_asVarnish : Mk mX7_asVarnish 2 := ⟨in_X7, cd_X7_asVarnish, by decide, by decide, by decide +kernel⟩
abbrev mX8_init : MD := (yX8_init, cX8_init, 2, none, { frames := 1, cells := 35, slots := 16227, locals := 20 })
theorem mk_X8_init : Mk mX8_init 0 := ⟨in_X8, cd_X8_init, by decide, by decide, by decide +kernel⟩
abbrev mX8_in : MD := (yX8_in, cX8_in, 3, (some .boolean), { frames := 0, cells := 0, slots := 0, locals := 0 })
theorem mk_X8_in : Mk mX8_in 3 := ⟨in_X8, cd_X8_in, by decide, by decide, by decide +kernel⟩
abbrev mX8_type : MD := (yX8_type, cX8_type, 5, (some .int), { frames := 1, cells := 0, slots := 0, locals := 22 })
theorem mk_X8_type : Mk mX8_type 2 := ⟨in_X8, cd_X8_type, by decide, by decide, by decide +kernel⟩
abbrev mX8_clear : MD := (yX8_clear, cX8_clear, 2, (some .int), { frames := 0, cells := 0, slots := 0, locals := 0 })
theorem mk_X8_clear : Mk mX8_clear 0 := ⟨in_X8, cd_X8_clear, by decide, by decide, by decide +kernel⟩
abbrev mX8_isLetter : MD := (yX8_isLetter, cX8_isLetter, 1, (some .boolean), { frames := 1, cells := 0, slots := 0, locals := 22 })
theorem mk_X8_isLetter : Mk mX8_isLetter 1 := ⟨in_X8, cd_X8_isLetter, by decide, by decide, by decide +kernel⟩
abbrev mX8_isDigit : MD := (yX8_isDigit, cX8_isDigit, 1, (some .boolean), { frames := 1, cells := 0, slots := 0, locals := 22 })
theorem mk_X8_isDigit : Mk mX8_isDigit 1 := ⟨in_X8, cd_X8_isDigit, by decide, by decide, by decide +kernel⟩
abbrev mX8_look : MD := (yX8_look, cX8_look, 1, (some .int), { frames := 0, cells := 0, slots := 0, locals := 0 })
theorem mk_X8_look : Mk mX8_look 0 := ⟨in_X8, cd_X8_look, by decide, by decide, by decide +kernel⟩
abbrev mX8_read : MD := (yX8_read, cX8_read, 2, none, { frames := 3, cells := 0, slots := 0, locals := 64 })
theorem mk_X8_read : Mk mX8_read 0 := ⟨in_X8, cd_X8_read, by decide, by decide, by decide +kernel⟩
abbrev mX8_word : MD := (yX8_word, cX8_word, 3, none, { frames := 2, cells := 0, slots := 0, locals := 42 })
theorem mk_X8_word : Mk mX8_word 0 := ⟨in_X8, cd_X8_word, by decide, by decide, by decide +kernel⟩
abbrev mX8_isNumber : MD := (yX8_isNumber, cX8_isNumber, 3, (some .boolean), { frames := 1, cells := 0, slots := 0, locals := 22 })
theorem mk_X8_isNumber : Mk mX8_isNumber 2 := ⟨in_X8, cd_X8_isNumber, by decide, by decide, by decide +kernel⟩
abbrev mX8_isChip : MD := (yX8_isChip, cX8_isChip, 1, (some .boolean), { frames := 4, cells := 0, slots := 0, locals := 85 })
theorem mk_X8_isChip : Mk mX8_isChip 0 := ⟨in_X8, cd_X8_isChip, by decide, by decide, by decide +kernel⟩
abbrev mX8_chip : MD := (yX8_chip, cX8_chip, 2, (some .int), { frames := 5, cells := 0, slots := 0, locals := 105 })
theorem mk_X8_chip : Mk mX8_chip 0 := ⟨in_X8, cd_X8_chip, by decide, by decide, by decide +kernel⟩
abbrev mX8_isStuff : MD := (yX8_isStuff, cX8_isStuff, 4, (some .boolean), { frames := 4, cells := 0, slots := 0, locals := 85 })
theorem mk_X8_isStuff : Mk mX8_isStuff 0 := ⟨in_X8, cd_X8_isStuff, by decide, by decide, by decide +kernel⟩
abbrev mX8_areAlike : MD := (yX8_areAlike, cX8_areAlike, 3, (some .boolean), { frames := 4, cells := 0, slots := 0, locals := 85 })
theorem mk_X8_areAlike : Mk mX8_areAlike 0 := ⟨in_X8, cd_X8_areAlike, by decide, by decide, by decide +kernel⟩
abbrev mX8_isBill : MD := (yX8_isBill, cX8_isBill, 1, (some .boolean), { frames := 4, cells := 0, slots := 0, locals := 85 })
theorem mk_X8_isBill : Mk mX8_isBill 0 := ⟨in_X8, cd_X8_isBill, by decide, by decide, by decide +kernel⟩
abbrev mX8_book : MD := (yX8_book, cX8_book, 3, (some .int), { frames := 5, cells := 0, slots := 0, locals := 108 })
theorem mk_X8_book : Mk mX8_book 0 := ⟨in_X8, cd_X8_book, by decide, by decide, by decide +kernel⟩
abbrev mX8_isChipAt : MD := (yX8_isChipAt, cX8_isChipAt, 2, (some .boolean), { frames := 1, cells := 0, slots := 0, locals := 22 })
theorem mk_X8_isChipAt : Mk mX8_isChipAt 1 := ⟨in_X8, cd_X8_isChipAt, by decide, by decide, by decide +kernel⟩
abbrev mX8_drop : MD := (yX8_drop, cX8_drop, 4, (some .int), { frames := 2, cells := 0, slots := 0, locals := 43 })
theorem mk_X8_drop : Mk mX8_drop 1 := ⟨in_X8, cd_X8_drop, by decide, by decide, by decide +kernel⟩
abbrev mX8_about : MD := (yX8_about, cX8_about, 3, (some .int), { frames := 2, cells := 0, slots := 0, locals := 43 })
theorem mk_X8_about : Mk mX8_about 2 := ⟨in_X8, cd_X8_about, by decide, by decide, by decide +kernel⟩
abbrev mX8_isCoat : MD := (yX8_isCoat, cX8_isCoat, 3, (some .boolean), { frames := 2, cells := 0, slots := 0, locals := 43 })
theorem mk_X8_isCoat : Mk mX8_isCoat 2 := ⟨in_X8, cd_X8_isCoat, by decide, by decide, by decide +kernel⟩
abbrev mX8_coat : MD := (yX8_coat, cX8_coat, 4, (some .int), { frames := 4, cells := 0, slots := 0, locals := 95 })
theorem mk_X8_coat : Mk mX8_coat 3 := ⟨in_X8, cd_X8_coat, by decide, by decide, by decide +kernel⟩
abbrev mX8_colour : MD := (yX8_colour, cX8_colour, 3, (some .int), { frames := 1, cells := 0, slots := 0, locals := 22 })
theorem mk_X8_colour : Mk mX8_colour 2 := ⟨in_X8, cd_X8_colour, by decide, by decide, by decide +kernel⟩
abbrev mX8_tune : MD := (yX8_tune, cX8_tune, 5, (some .int), { frames := 1, cells := 0, slots := 0, locals := 22 })
theorem mk_X8_tune : Mk mX8_tune 2 := ⟨in_X8, cd_X8_tune, by decide, by decide, by decide +kernel⟩
abbrev mX8_isSame : MD := (yX8_isSame, cX8_isSame, 3, (some .boolean), { frames := 0, cells := 0, slots := 0, locals := 0 })
theorem mk_X8_isSame : Mk mX8_isSame 2 := ⟨in_X8, cd_X8_isSame, by decide, by decide, by decide +kernel⟩
abbrev mX8_costOf : MD := (yX8_costOf, cX8_costOf, 7, (some .int), { frames := 0, cells := 0, slots := 0, locals := 0 })
theorem mk_X8_costOf : Mk mX8_costOf 5 := ⟨in_X8, cd_X8_costOf, by decide, by decide, by decide +kernel⟩
abbrev mX8_areSame : MD := (yX8_areSame, cX8_areSame, 5, (some .boolean), { frames := 1, cells := 0, slots := 0, locals := 22 })
theorem mk_X8_areSame : Mk mX8_areSame 4 := ⟨in_X8, cd_X8_areSame, by decide, by decide, by decide +kernel⟩
abbrev mX8_lay : MD := (yX8_lay, cX8_lay, 9, none, { frames := 2, cells := 0, slots := 0, locals := 46 })
theorem mk_X8_lay : Mk mX8_lay 2 := ⟨in_X8, cd_X8_lay, by decide, by decide, by decide +kernel⟩
abbrev mX8_areTwo : MD := (yX8_areTwo, cX8_areTwo, 3, (some .boolean), { frames := 2, cells := 0, slots := 0, locals := 43 })
theorem mk_X8_areTwo : Mk mX8_areTwo 2 := ⟨in_X8, cd_X8_areTwo, by decide, by decide, by decide +kernel⟩
abbrev mX8_least : MD := (yX8_least, cX8_least, 3, (some .int), { frames := 3, cells := 0, slots := 0, locals := 74 })
theorem mk_X8_least : Mk mX8_least 2 := ⟨in_X8, cd_X8_least, by decide, by decide, by decide +kernel⟩
abbrev mX8_ways : MD := (yX8_ways, cX8_ways, 3, (some .long), { frames := 3, cells := 0, slots := 0, locals := 74 })
theorem mk_X8_ways : Mk mX8_ways 2 := ⟨in_X8, cd_X8_ways, by decide, by decide, by decide +kernel⟩
abbrev mX8_laid : MD := (yX8_laid, cX8_laid, 8, (some .int), { frames := 3, cells := 0, slots := 0, locals := 74 })
theorem mk_X8_laid : Mk mX8_laid 3 := ⟨in_X8, cd_X8_laid, by decide, by decide, by decide +kernel⟩
abbrev mX8_behind : MD := (yX8_behind, cX8_behind, 5, (some .int), { frames := 1, cells := 0, slots := 0, locals := 22 })
theorem mk_X8_behind : Mk mX8_behind 1 := ⟨in_X8, cd_X8_behind, by decide, by decide, by decide +kernel⟩
abbrev mX8_make : MD := (yX8_make, cX8_make, 3, none, { frames := 3, cells := 0, slots := 0, locals := 73 })
theorem mk_X8_make : Mk mX8_make 0 := ⟨in_X8, cd_X8_make, by decide, by decide, by decide +kernel⟩
abbrev mX8_weigh : MD := (yX8_weigh, cX8_weigh, 8, none, { frames := 2, cells := 0, slots := 0, locals := 46 })
theorem mk_X8_weigh : Mk mX8_weigh 1 := ⟨in_X8, cd_X8_weigh, by decide, by decide, by decide +kernel⟩
abbrev mX8_goOn : MD := (yX8_goOn, cX8_goOn, 5, (some .int), { frames := 2, cells := 0, slots := 0, locals := 46 })
theorem mk_X8_goOn : Mk mX8_goOn 1 := ⟨in_X8, cd_X8_goOn, by decide, by decide, by decide +kernel⟩
abbrev mX8_hasPainting : MD := (yX8_hasPainting, cX8_hasPainting, 5, (some .boolean), { frames := 0, cells := 0, slots := 0, locals := 0 })
theorem mk_X8_hasPainting : Mk mX8_hasPainting 2 := ⟨in_X8, cd_X8_hasPainting, by decide, by decide, by decide +kernel⟩
abbrev mX8_painting : MD := (yX8_painting, cX8_painting, 2, (some .int), { frames := 4, cells := 0, slots := 0, locals := 95 })
theorem mk_X8_painting : Mk mX8_painting 1 := ⟨in_X8, cd_X8_painting, by decide, by decide, by decide +kernel⟩
abbrev mX8_had : MD := (yX8_had, cX8_had, 4, (some .int), { frames := 4, cells := 0, slots := 0, locals := 95 })
theorem mk_X8_had : Mk mX8_had 1 := ⟨in_X8, cd_X8_had, by decide, by decide, by decide +kernel⟩
abbrev mX8_moved : MD := (yX8_moved, cX8_moved, 6, (some .int), { frames := 4, cells := 0, slots := 0, locals := 96 })
theorem mk_X8_moved : Mk mX8_moved 1 := ⟨in_X8, cd_X8_moved, by decide, by decide, by decide +kernel⟩
abbrev mX8_face : MD := (yX8_face, cX8_face, 5, (some .int), { frames := 5, cells := 0, slots := 0, locals := 121 })
theorem mk_X8_face : Mk mX8_face 2 := ⟨in_X8, cd_X8_face, by decide, by decide, by decide +kernel⟩
abbrev mX8_later : MD := (yX8_later, cX8_later, 5, (some .int), { frames := 0, cells := 0, slots := 0, locals := 0 })
theorem mk_X8_later : Mk mX8_later 1 := ⟨in_X8, cd_X8_later, by decide, by decide, by decide +kernel⟩
abbrev mX8_years : MD := (yX8_years, cX8_years, 3, none, { frames := 1, cells := 0, slots := 0, locals := 24 })
theorem mk_X8_years : Mk mX8_years 0 := ⟨in_X8, cd_X8_years, by decide, by decide, by decide +kernel⟩
abbrev mX8_span : MD := (yX8_span, cX8_span, 3, (some .int), { frames := 4, cells := 0, slots := 0, locals := 95 })
theorem mk_X8_span : Mk mX8_span 2 := ⟨in_X8, cd_X8_span, by decide, by decide, by decide +kernel⟩
abbrev mX8_day : MD := (yX8_day, cX8_day, 6, (some .int), { frames := 4, cells := 0, slots := 0, locals := 95 })
theorem mk_X8_day : Mk mX8_day 2 := ⟨in_X8, cd_X8_day, by decide, by decide, by decide +kernel⟩
abbrev mX8_bill : MD := (yX8_bill, cX8_bill, 3, (some .int), { frames := 1, cells := 0, slots := 0, locals := 22 })
theorem mk_X8_bill : Mk mX8_bill 2 := ⟨in_X8, cd_X8_bill, by decide, by decide, by decide +kernel⟩
abbrev mX8_suits : MD := (yX8_suits, cX8_suits, 4, (some .boolean), { frames := 1, cells := 0, slots := 0, locals := 22 })
theorem mk_X8_suits : Mk mX8_suits 3 := ⟨in_X8, cd_X8_suits, by decide, by decide, by decide +kernel⟩
abbrev mX8_billed : MD := (yX8_billed, cX8_billed, 6, (some .int), { frames := 4, cells := 0, slots := 0, locals := 95 })
theorem mk_X8_billed : Mk mX8_billed 1 := ⟨in_X8, cd_X8_billed, by decide, by decide, by decide +kernel⟩
abbrev mX8_enough : MD := (yX8_enough, cX8_enough, 13, (some .int), { frames := 1, cells := 0, slots := 0, locals := 22 })
theorem mk_X8_enough : Mk mX8_enough 2 := ⟨in_X8, cd_X8_enough, by decide, by decide, by decide +kernel⟩
abbrev mX8_next : MD := (yX8_next, cX8_next, 9, (some .int), { frames := 4, cells := 0, slots := 0, locals := 95 })
theorem mk_X8_next : Mk mX8_next 0 := ⟨in_X8, cd_X8_next, by decide, by decide, by decide +kernel⟩
abbrev mX8_ofCoat : MD := (yX8_ofCoat, cX8_ofCoat, 3, (some .int), { frames := 0, cells := 0, slots := 0, locals := 0 })
theorem mk_X8_ofCoat : Mk mX8_ofCoat 2 := ⟨in_X8, cd_X8_ofCoat, by decide, by decide, by decide +kernel⟩
abbrev mX8_ofWhole : MD := (yX8_ofWhole, cX8_ofWhole, 5, (some .int), { frames := 1, cells := 0, slots := 0, locals := 24 })
theorem mk_X8_ofWhole : Mk mX8_ofWhole 2 := ⟨in_X8, cd_X8_ofWhole, by decide, by decide, by decide +kernel⟩
abbrev mX8_ofUnder : MD := (yX8_ofUnder, cX8_ofUnder, 3, (some .int), { frames := 1, cells := 0, slots := 0, locals := 22 })
theorem mk_X8_ofUnder : Mk mX8_ofUnder 2 := ⟨in_X8, cd_X8_ofUnder, by decide, by decide, by decide +kernel⟩
abbrev mX8_rank : MD := (yX8_rank, cX8_rank, 4, (some .int), { frames := 4, cells := 0, slots := 0, locals := 95 })
theorem mk_X8_rank : Mk mX8_rank 3 := ⟨in_X8, cd_X8_rank, by decide, by decide, by decide +kernel⟩
abbrev mX8_keep : MD := (yX8_keep, cX8_keep, 3, (some .int), { frames := 1, cells := 0, slots := 0, locals := 22 })
theorem mk_X8_keep : Mk mX8_keep 1 := ⟨in_X8, cd_X8_keep, by decide, by decide, by decide +kernel⟩
abbrev mX8_back : MD := (yX8_back, cX8_back, 3, (some .int), { frames := 1, cells := 0, slots := 0, locals := 22 })
theorem mk_X8_back : Mk mX8_back 1 := ⟨in_X8, cd_X8_back, by decide, by decide, by decide +kernel⟩
abbrev mX8_count : MD := (yX8_count, cX8_count, 4, (some .int), { frames := 1, cells := 0, slots := 0, locals := 22 })
theorem mk_X8_count : Mk mX8_count 1 := ⟨in_X8, cd_X8_count, by decide, by decide, by decide +kernel⟩
abbrev mX8_trace : MD := (yX8_trace, cX8_trace, 1, (some .long), { frames := 0, cells := 0, slots := 0, locals := 0 })
theorem mk_X8_trace : Mk mX8_trace 0 := ⟨in_X8, cd_X8_trace, by decide, by decide, by decide +kernel⟩
abbrev mJ6_bitCount_0f7a4 : MD := (yJ6_bitCount_0f7a4, cJ6_bitCount_0f7a4, 1, (some .int), { frames := 0, cells := 0, slots := 0, locals := 0 })
theorem mk_J6_bitCount_0f7a4 : Mk mJ6_bitCount_0f7a4 1 := ⟨in_J6, cd_J6_bitCount_0f7a4, by decide, by decide, by decide +kernel⟩
abbrev mJ9_abs_0f7a4 : MD := (yJ9_abs_0f7a4, cJ9_abs_0f7a4, 1, (some .int), { frames := 0, cells := 0, slots := 0, locals := 0 })
theorem mk_J9_abs_0f7a4 : Mk mJ9_abs_0f7a4 1 := ⟨in_J9, cd_J9_abs_0f7a4, by decide, by decide, by decide +kernel⟩
abbrev mJ9_max_7cf53 : MD := (yJ9_max_7cf53, cJ9_max_7cf53, 2, (some .int), { frames := 0, cells := 0, slots := 0, locals := 0 })
theorem mk_J9_max_7cf53 : Mk mJ9_max_7cf53 2 := ⟨in_J9, cd_J9_max_7cf53, by decide, by decide, by decide +kernel⟩
abbrev mJ9_min_7cf53 : MD := (yJ9_min_7cf53, cJ9_min_7cf53, 2, (some .int), { frames := 0, cells := 0, slots := 0, locals := 0 })
theorem mk_J9_min_7cf53 : Mk mJ9_min_7cf53 2 := ⟨in_J9, cd_J9_min_7cf53, by decide, by decide, by decide +kernel⟩
abbrev mJ0_length_8abf5 : MD := (yJ0_length_8abf5, cJ0_length_8abf5, 1, (some .int), { frames := 1, cells := 0, slots := 0, locals := 20 })
theorem mk_J0_length_8abf5 : Mk mJ0_length_8abf5 0 := ⟨in_J0, cd_J0_length_8abf5, by decide, by decide, by decide +kernel⟩
abbrev mJ0_charAt_5068e : MD := (yJ0_charAt_5068e, cJ0_charAt_5068e, 2, (some .char), { frames := 4, cells := 0, slots := 0, locals := 85 })
theorem mk_J0_charAt_5068e : Mk mJ0_charAt_5068e 1 := ⟨in_J0, cd_J0_charAt_5068e, by decide, by decide, by decide +kernel⟩
abbrev mJ0_coder_7d493 : MD := (yJ0_coder_7d493, cJ0_coder_7d493, 1, (some .byte), { frames := 0, cells := 0, slots := 0, locals := 0 })
theorem mk_J0_coder_7d493 : Mk mJ0_coder_7d493 0 := ⟨in_J0, cd_J0_coder_7d493, by decide, by decide, by decide +kernel⟩
abbrev mJ0_isLatin1_aae02 : MD := (yJ0_isLatin1_aae02, cJ0_isLatin1_aae02, 1, (some .boolean), { frames := 0, cells := 0, slots := 0, locals := 0 })
theorem mk_J0_isLatin1_aae02 : Mk mJ0_isLatin1_aae02 0 := ⟨in_J0, cd_J0_isLatin1_aae02, by decide, by decide, by decide +kernel⟩
abbrev mJ0_checkIndex_df160 : MD := (yJ0_checkIndex_df160, cJ0_checkIndex_df160, 2, none, { frames := 1, cells := 0, slots := 0, locals := 22 })
theorem mk_J0_checkIndex_df160 : Mk mJ0_checkIndex_df160 2 := ⟨in_J0, cd_J0_checkIndex_df160, by decide, by decide, by decide +kernel⟩
abbrev mJ1_charAt_3b067 : MD := (yJ1_charAt_3b067, cJ1_charAt_3b067, 2, (some .char), { frames := 2, cells := 0, slots := 0, locals := 43 })
theorem mk_J1_charAt_3b067 : Mk mJ1_charAt_3b067 2 := ⟨in_J1, cd_J1_charAt_3b067, by decide, by decide, by decide +kernel⟩
abbrev mJ2_getChar_3b067 : MD := (yJ2_getChar_3b067, cJ2_getChar_3b067, 2, (some .char), { frames := 1, cells := 0, slots := 0, locals := 20 })
theorem mk_J2_getChar_3b067 : Mk mJ2_getChar_3b067 2 := ⟨in_J2, cd_J2_getChar_3b067, by decide, by decide, by decide +kernel⟩
abbrev mJ2_length_9d52b : MD := (yJ2_length_9d52b, cJ2_length_9d52b, 1, (some .int), { frames := 0, cells := 0, slots := 0, locals := 0 })
theorem mk_J2_length_9d52b : Mk mJ2_length_9d52b 1 := ⟨in_J2, cd_J2_length_9d52b, by decide, by decide, by decide +kernel⟩
abbrev mJ2_charAt_3b067 : MD := (yJ2_charAt_3b067, cJ2_charAt_3b067, 2, (some .char), { frames := 3, cells := 0, slots := 0, locals := 64 })
theorem mk_J2_charAt_3b067 : Mk mJ2_charAt_3b067 2 := ⟨in_J2, cd_J2_charAt_3b067, by decide, by decide, by decide +kernel⟩
abbrev mJ2_checkIndex_2214a : MD := (yJ2_checkIndex_2214a, cJ2_checkIndex_2214a, 2, none, { frames := 2, cells := 0, slots := 0, locals := 43 })
theorem mk_J2_checkIndex_2214a : Mk mJ2_checkIndex_2214a 2 := ⟨in_J2, cd_J2_checkIndex_2214a, by decide, by decide, by decide +kernel⟩
abbrev mJ7_fill_53178 : MD := (yJ7_fill_53178, cJ7_fill_53178, 4, none, { frames := 0, cells := 0, slots := 0, locals := 0 })
theorem mk_J7_fill_53178 : Mk mJ7_fill_53178 2 := ⟨in_J7, cd_J7_fill_53178, by decide, by decide, by decide +kernel⟩
abbrev mJ3_checkIndex_8e157 : MD := (yJ3_checkIndex_8e157, cJ3_checkIndex_8e157, 3, (some .int), { frames := 0, cells := 0, slots := 0, locals := 0 })
theorem mk_J3_checkIndex_8e157 : Mk mJ3_checkIndex_8e157 3 := ⟨in_J3, cd_J3_checkIndex_8e157, by decide, by decide, by decide +kernel⟩
