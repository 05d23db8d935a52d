/-- what is known of the kinds: the class's cells, and the model's behind them -/
def msC : List am_M := [.inr (9, 0), .inr (9, 0), .inr (9, 0), .inr (9, 0), .inr (9, 0), .inr (9, 0), .inr (9, 0), .inr (9, 0), .inl (11, [none, none, some 9, none, some 10, none, some 11, some 16, some 17, some 21, some 26, some 27]), .inr (4, 7), .inr (5, 14), .inl (10, [some 12, none, some 13, some 14, none, none, some 15]), .inr (2, 160), .inr (0, 960), .inr (0, 18), .inr (0, 64), .inr (0, 6), .inl (0, [none, none, none, some 18, some 19, some 20]), .inr (0, 42), .inr (0, 43), .inr (1, 3720), .inl (4, [some 22, some 23, some 24, some 25]), .inr (0, 100), .inr (0, 100), .inr (0, 100), .inr (0, 100), .inr (6, 4), .inr (0, 14), .inl (8, [none, none, some 29]), .inr (0, 40), .inl (8, [none, none, some 31]), .inr (0, 40), .inl (8, [none, none, some 33]), .inr (0, 40), .inl (8, [none, none, some 35]), .inr (0, 40)]
def msM : List am_M := [.inr (9, 0), .inr (9, 0), .inr (9, 0), .inr (9, 0), .inr (9, 0), .inr (9, 0), .inr (9, 0), .inr (9, 0), .inl (11, [none, none, some 9, none, some 10, none, some 11, some 16, some 17, some 21, some 26, some 27]), .inr (4, 7), .inr (5, 14), .inl (10, [some 12, none, some 13, some 14, none, none, some 15]), .inr (2, 160), .inr (0, 960), .inr (0, 18), .inr (0, 64), .inr (0, 6), .inl (0, [none, none, none, some 18, some 19, some 20]), .inr (0, 42), .inr (0, 43), .inr (1, 3720), .inl (4, [some 22, some 23, some 24, some 25]), .inr (0, 100), .inr (0, 100), .inr (0, 100), .inr (0, 100), .inr (6, 4), .inr (0, 14), .inl (8, [none, none, some 29]), .inr (0, 40), .inl (8, [none, none, some 31]), .inr (0, 40), .inl (8, [none, none, some 33]), .inr (0, 40), .inl (8, [none, none, some 35]), .inr (0, 40), .inl (12, [none, some 37, some 38, none, none, some 39, none, some 40, some 41, some 42, some 43, none, none, none, some 44, some 45, some 46, some 47, some 48, some 49, some 50, none, none, none, none, none, none, none, none, none, none, none, none, none, none, some 51, some 52, some 53, some 54, some 55, some 56, some 57, some 58, some 59, some 60, some 61, some 62, some 63, none, none, none, none, none, none, some 64, some 65, some 66, some 67]), .inr (0, 960), .inr (0, 6), .inr (0, 160), .inr (0, 7), .inr (0, 7), .inr (0, 7), .inr (0, 7), .inr (0, 14), .inr (0, 14), .inr (0, 14), .inr (0, 14), .inr (0, 14), .inr (0, 14), .inr (0, 14), .inr (0, 8658), .inr (0, 8658), .inr (0, 8658), .inr (0, 8658), .inr (0, 14), .inr (0, 100), .inr (0, 100), .inr (0, 100), .inr (0, 7), .inr (0, 7), .inr (0, 14), .inr (0, 14), .inr (0, 100), .inr (3, 4), .inr (0, 4), .inr (0, 4), .inr (0, 160)]
theorem kC8 : msC[8]? = some (.inl (11, [none, none, some 9, none, some 10, none, some 11, some 16, some 17, some 21, some 26, some 27])) := rfl
theorem kC9 : msC[9]? = some (.inr (4, 7)) := rfl
theorem kC10 : msC[10]? = some (.inr (5, 14)) := rfl
theorem kC11 : msC[11]? = some (.inl (10, [some 12, none, some 13, some 14, none, none, some 15])) := rfl
theorem kC12 : msC[12]? = some (.inr (2, 160)) := rfl
theorem kC13 : msC[13]? = some (.inr (0, 960)) := rfl
theorem kC14 : msC[14]? = some (.inr (0, 18)) := rfl
theorem kC15 : msC[15]? = some (.inr (0, 64)) := rfl
theorem kC16 : msC[16]? = some (.inr (0, 6)) := rfl
theorem kC17 : msC[17]? = some (.inl (0, [none, none, none, some 18, some 19, some 20])) := rfl
theorem kC18 : msC[18]? = some (.inr (0, 42)) := rfl
theorem kC19 : msC[19]? = some (.inr (0, 43)) := rfl
theorem kC20 : msC[20]? = some (.inr (1, 3720)) := rfl
theorem kC21 : msC[21]? = some (.inl (4, [some 22, some 23, some 24, some 25])) := rfl
theorem kC22 : msC[22]? = some (.inr (0, 100)) := rfl
theorem kC23 : msC[23]? = some (.inr (0, 100)) := rfl
theorem kC24 : msC[24]? = some (.inr (0, 100)) := rfl
theorem kC25 : msC[25]? = some (.inr (0, 100)) := rfl
theorem kC26 : msC[26]? = some (.inr (6, 4)) := rfl
theorem kC27 : msC[27]? = some (.inr (0, 14)) := rfl
theorem kC28 : msC[28]? = some (.inl (8, [none, none, some 29])) := rfl
theorem kC29 : msC[29]? = some (.inr (0, 40)) := rfl
theorem kC30 : msC[30]? = some (.inl (8, [none, none, some 31])) := rfl
theorem kC31 : msC[31]? = some (.inr (0, 40)) := rfl
theorem kC32 : msC[32]? = some (.inl (8, [none, none, some 33])) := rfl
theorem kC33 : msC[33]? = some (.inr (0, 40)) := rfl
theorem kC34 : msC[34]? = some (.inl (8, [none, none, some 35])) := rfl
theorem kC35 : msC[35]? = some (.inr (0, 40)) := rfl
theorem kM8 : msM[8]? = some (.inl (11, [none, none, some 9, none, some 10, none, some 11, some 16, some 17, some 21, some 26, some 27])) := rfl
theorem kM9 : msM[9]? = some (.inr (4, 7)) := rfl
theorem kM10 : msM[10]? = some (.inr (5, 14)) := rfl
theorem kM11 : msM[11]? = some (.inl (10, [some 12, none, some 13, some 14, none, none, some 15])) := rfl
theorem kM12 : msM[12]? = some (.inr (2, 160)) := rfl
theorem kM13 : msM[13]? = some (.inr (0, 960)) := rfl
theorem kM14 : msM[14]? = some (.inr (0, 18)) := rfl
theorem kM15 : msM[15]? = some (.inr (0, 64)) := rfl
theorem kM16 : msM[16]? = some (.inr (0, 6)) := rfl
theorem kM17 : msM[17]? = some (.inl (0, [none, none, none, some 18, some 19, some 20])) := rfl
theorem kM18 : msM[18]? = some (.inr (0, 42)) := rfl
theorem kM19 : msM[19]? = some (.inr (0, 43)) := rfl
theorem kM20 : msM[20]? = some (.inr (1, 3720)) := rfl
theorem kM21 : msM[21]? = some (.inl (4, [some 22, some 23, some 24, some 25])) := rfl
theorem kM22 : msM[22]? = some (.inr (0, 100)) := rfl
theorem kM23 : msM[23]? = some (.inr (0, 100)) := rfl
theorem kM24 : msM[24]? = some (.inr (0, 100)) := rfl
theorem kM25 : msM[25]? = some (.inr (0, 100)) := rfl
theorem kM26 : msM[26]? = some (.inr (6, 4)) := rfl
theorem kM27 : msM[27]? = some (.inr (0, 14)) := rfl
theorem kM28 : msM[28]? = some (.inl (8, [none, none, some 29])) := rfl
theorem kM29 : msM[29]? = some (.inr (0, 40)) := rfl
theorem kM30 : msM[30]? = some (.inl (8, [none, none, some 31])) := rfl
theorem kM31 : msM[31]? = some (.inr (0, 40)) := rfl
theorem kM32 : msM[32]? = some (.inl (8, [none, none, some 33])) := rfl
theorem kM33 : msM[33]? = some (.inr (0, 40)) := rfl
theorem kM34 : msM[34]? = some (.inl (8, [none, none, some 35])) := rfl
theorem kM35 : msM[35]? = some (.inr (0, 40)) := rfl
theorem kM36 : msM[36]? = some (.inl (12, [none, some 37, some 38, none, none, some 39, none, some 40, some 41, some 42, some 43, none, none, none, some 44, some 45, some 46, some 47, some 48, some 49, some 50, none, none, none, none, none, none, none, none, none, none, none, none, none, none, some 51, some 52, some 53, some 54, some 55, some 56, some 57, some 58, some 59, some 60, some 61, some 62, some 63, none, none, none, none, none, none, some 64, some 65, some 66, some 67])) := rfl
theorem kM37 : msM[37]? = some (.inr (0, 960)) := rfl
theorem kM38 : msM[38]? = some (.inr (0, 6)) := rfl
theorem kM39 : msM[39]? = some (.inr (0, 160)) := rfl
theorem kM40 : msM[40]? = some (.inr (0, 7)) := rfl
theorem kM41 : msM[41]? = some (.inr (0, 7)) := rfl
theorem kM42 : msM[42]? = some (.inr (0, 7)) := rfl
theorem kM43 : msM[43]? = some (.inr (0, 7)) := rfl
theorem kM44 : msM[44]? = some (.inr (0, 14)) := rfl
theorem kM45 : msM[45]? = some (.inr (0, 14)) := rfl
theorem kM46 : msM[46]? = some (.inr (0, 14)) := rfl
theorem kM47 : msM[47]? = some (.inr (0, 14)) := rfl
theorem kM48 : msM[48]? = some (.inr (0, 14)) := rfl
theorem kM49 : msM[49]? = some (.inr (0, 14)) := rfl
theorem kM50 : msM[50]? = some (.inr (0, 14)) := rfl
theorem kM51 : msM[51]? = some (.inr (0, 8658)) := rfl
theorem kM52 : msM[52]? = some (.inr (0, 8658)) := rfl
theorem kM53 : msM[53]? = some (.inr (0, 8658)) := rfl
theorem kM54 : msM[54]? = some (.inr (0, 8658)) := rfl
theorem kM55 : msM[55]? = some (.inr (0, 14)) := rfl
theorem kM56 : msM[56]? = some (.inr (0, 100)) := rfl
theorem kM57 : msM[57]? = some (.inr (0, 100)) := rfl
theorem kM58 : msM[58]? = some (.inr (0, 100)) := rfl
theorem kM59 : msM[59]? = some (.inr (0, 7)) := rfl
theorem kM60 : msM[60]? = some (.inr (0, 7)) := rfl
theorem kM61 : msM[61]? = some (.inr (0, 14)) := rfl
theorem kM62 : msM[62]? = some (.inr (0, 14)) := rfl
theorem kM63 : msM[63]? = some (.inr (0, 100)) := rfl
theorem kM64 : msM[64]? = some (.inr (3, 4)) := rfl
theorem kM65 : msM[65]? = some (.inr (0, 4)) := rfl
theorem kM66 : msM[66]? = some (.inr (0, 4)) := rfl
theorem kM67 : msM[67]? = some (.inr (0, 160)) := rfl
abbrev YJ0_charAt_5068e : am_Y := (yJ0_charAt_5068e, cJ0_charAt_5068e, 2, (some .char))
abbrev YJ0_indexOf_0f7a4 : am_Y := (yJ0_indexOf_0f7a4, cJ0_indexOf_0f7a4, 2, (some .int))
abbrev YJ0_length_8abf5 : am_Y := (yJ0_length_8abf5, cJ0_length_8abf5, 1, (some .int))
abbrev YJ7_fill_53178 : am_Y := (yJ7_fill_53178, cJ7_fill_53178, 4, none)
abbrev YX0_awaits : am_Y := (yX0_awaits, cX0_awaits, 5, (some .boolean))
abbrev YX0_bestFrom : am_Y := (yX0_bestFrom, cX0_bestFrom, 7, (some .long))
abbrev YX0_bestPlan : am_Y := (yX0_bestPlan, cX0_bestPlan, 6, (some .long))
abbrev YX0_minutesOf : am_Y := (yX0_minutesOf, cX0_minutesOf, 2, (some .int))
abbrev YX0_planPuttingOff : am_Y := (yX0_planPuttingOff, cX0_planPuttingOff, 9, (some .long))
abbrev YX0_waitsAfterLast : am_Y := (yX0_waitsAfterLast, cX0_waitsAfterLast, 4, (some .long))
abbrev YX0_waitsOf : am_Y := (yX0_waitsOf, cX0_waitsOf, 2, (some .int))
abbrev YX10_addBytes : am_Y := (yX10_addBytes, cX10_addBytes, 5, (some .int))
abbrev YX10_addSigns : am_Y := (yX10_addSigns, cX10_addSigns, 3, none)
abbrev YX10_doStep : am_Y := (yX10_doStep, cX10_doStep, 6, (some .int))
abbrev YX10_isDigit : am_Y := (yX10_isDigit, cX10_isDigit, 1, (some .boolean))
abbrev YX10_isLetter : am_Y := (yX10_isLetter, cX10_isLetter, 1, (some .boolean))
abbrev YX10_isWord : am_Y := (yX10_isWord, cX10_isWord, 5, (some .boolean))
abbrev YX10_joined : am_Y := (yX10_joined, cX10_joined, 3, (some .int))
abbrev YX10_joins : am_Y := (yX10_joins, cX10_joins, 2, (some .boolean))
abbrev YX10_nextToken : am_Y := (yX10_nextToken, cX10_nextToken, 2, none)
abbrev YX10_pass : am_Y := (yX10_pass, cX10_pass, 2, none)
abbrev YX10_read : am_Y := (yX10_read, cX10_read, 4, none)
abbrev YX10_readJoined : am_Y := (yX10_readJoined, cX10_readJoined, 6, none)
abbrev YX10_readOne : am_Y := (yX10_readOne, cX10_readOne, 1, none)
abbrev YX10_readOpening : am_Y := (yX10_readOpening, cX10_readOpening, 3, none)
abbrev YX10_readTape : am_Y := (yX10_readTape, cX10_readTape, 2, (some .int))
abbrev YX10_refuse : am_Y := (yX10_refuse, cX10_refuse, 1, none)
abbrev YX10_takeNumber : am_Y := (yX10_takeNumber, cX10_takeNumber, 1, none)
abbrev YX10_takeWord : am_Y := (yX10_takeWord, cX10_takeWord, 2, none)
abbrev YX10_value : am_Y := (yX10_value, cX10_value, 6, (some .int))
abbrev YX10_write : am_Y := (yX10_write, cX10_write, 2, none)
abbrev YX11_back : am_Y := (yX11_back, cX11_back, 2, (some .int))
abbrev YX11_box : am_Y := (yX11_box, cX11_box, 13, (some .int))
abbrev YX11_bridge : am_Y := (yX11_bridge, cX11_bridge, 4, (some .int))
abbrev YX11_byRule : am_Y := (yX11_byRule, cX11_byRule, 6, (some .int))
abbrev YX11_cell : am_Y := (yX11_cell, cX11_cell, 5, (some .int))
abbrev YX11_copy : am_Y := (yX11_copy, cX11_copy, 8, (some .int))
abbrev YX11_count : am_Y := (yX11_count, cX11_count, 2, (some .int))
abbrev YX11_crossing : am_Y := (yX11_crossing, cX11_crossing, 3, (some .int))
abbrev YX11_crossingAt : am_Y := (yX11_crossingAt, cX11_crossingAt, 3, (some (.object RX1)))
abbrev YX11_dueTwo : am_Y := (yX11_dueTwo, cX11_dueTwo, 10, (some .int))
abbrev YX11_eldestSon : am_Y := (yX11_eldestSon, cX11_eldestSon, 6, (some .int))
abbrev YX11_feed : am_Y := (yX11_feed, cX11_feed, 4, (some .int))
abbrev YX11_firstOfBlood : am_Y := (yX11_firstOfBlood, cX11_firstOfBlood, 6, (some .int))
abbrev YX11_firstOther : am_Y := (yX11_firstOther, cX11_firstOther, 5, (some .int))
abbrev YX11_fog : am_Y := (yX11_fog, cX11_fog, 17, (some .int))
abbrev YX11_foot : am_Y := (yX11_foot, cX11_foot, 3, (some .int))
abbrev YX11_force : am_Y := (yX11_force, cX11_force, 3, (some .int))
abbrev YX11_heir : am_Y := (yX11_heir, cX11_heir, 4, (some .int))
abbrev YX11_ill : am_Y := (yX11_ill, cX11_ill, 5, (some .int))
abbrev YX11_illOnes : am_Y := (yX11_illOnes, cX11_illOnes, 3, (some .int))
abbrev YX11_image : am_Y := (yX11_image, cX11_image, 2, (some .int))
abbrev YX11_isABoat : am_Y := (yX11_isABoat, cX11_isABoat, 1, (some .boolean))
abbrev YX11_isHour : am_Y := (yX11_isHour, cX11_isHour, 1, (some .boolean))
abbrev YX11_isUnder : am_Y := (yX11_isUnder, cX11_isUnder, 2, (some .boolean))
abbrev YX11_judge : am_Y := (yX11_judge, cX11_judge, 6, (some .int))
abbrev YX11_load : am_Y := (yX11_load, cX11_load, 9, (some .int))
abbrev YX11_lost : am_Y := (yX11_lost, cX11_lost, 4, (some .int))
abbrev YX11_mostTurns : am_Y := (yX11_mostTurns, cX11_mostTurns, 8, (some .int))
abbrev YX11_newRower : am_Y := (yX11_newRower, cX11_newRower, 3, (some (.object RX7)))
abbrev YX11_oneMore : am_Y := (yX11_oneMore, cX11_oneMore, 4, none)
abbrev YX11_oneOf : am_Y := (yX11_oneOf, cX11_oneOf, 2, (some (.object RX7)))
abbrev YX11_open : am_Y := (yX11_open, cX11_open, 10, (some .int))
abbrev YX11_openOnes : am_Y := (yX11_openOnes, cX11_openOnes, 3, (some .int))
abbrev YX11_otherOf : am_Y := (yX11_otherOf, cX11_otherOf, 2, (some (.object RX7)))
abbrev YX11_path : am_Y := (yX11_path, cX11_path, 4, (some .int))
abbrev YX11_priceOf : am_Y := (yX11_priceOf, cX11_priceOf, 3, (some .int))
abbrev YX11_rowed : am_Y := (yX11_rowed, cX11_rowed, 4, (some .int))
abbrev YX11_rower : am_Y := (yX11_rower, cX11_rower, 4, (some .int))
abbrev YX11_rowerAt : am_Y := (yX11_rowerAt, cX11_rowerAt, 2, (some (.object RX7)))
abbrev YX11_rowers : am_Y := (yX11_rowers, cX11_rowers, 9, (some .int))
abbrev YX11_set : am_Y := (yX11_set, cX11_set, 5, (some .int))
abbrev YX11_setWater : am_Y := (yX11_setWater, cX11_setWater, 4, (some .int))
abbrev YX11_shareOf : am_Y := (yX11_shareOf, cX11_shareOf, 3, (some .int))
abbrev YX11_shares : am_Y := (yX11_shares, cX11_shares, 9, (some .int))
abbrev YX11_sheet : am_Y := (yX11_sheet, cX11_sheet, 5, (some .int))
abbrev YX11_sheetAt : am_Y := (yX11_sheetAt, cX11_sheetAt, 2, (some (.object RX8)))
abbrev YX11_taken : am_Y := (yX11_taken, cX11_taken, 4, (some .int))
abbrev YX11_takes : am_Y := (yX11_takes, cX11_takes, 8, (some .int))
abbrev YX11_text : am_Y := (yX11_text, cX11_text, 1, (some .int))
abbrev YX11_told : am_Y := (yX11_told, cX11_told, 5, (some .int))
abbrev YX11_turn : am_Y := (yX11_turn, cX11_turn, 3, (some .int))
abbrev YX11_turnedAbout : am_Y := (yX11_turnedAbout, cX11_turnedAbout, 2, (some .int))
abbrev YX11_turnsInAll : am_Y := (yX11_turnsInAll, cX11_turnsInAll, 3, (some .int))
abbrev YX11_waits : am_Y := (yX11_waits, cX11_waits, 8, (some .int))
abbrev YX11_within : am_Y := (yX11_within, cX11_within, 3, (some .boolean))
abbrev YX12_added : am_Y := (yX12_added, cX12_added, 4, (some .int))
abbrev YX12_areLandings : am_Y := (yX12_areLandings, cX12_areLandings, 1, (some .boolean))
abbrev YX12_areTwo : am_Y := (yX12_areTwo, cX12_areTwo, 2, (some .boolean))
abbrev YX12_back : am_Y := (yX12_back, cX12_back, 2, (some .int))
abbrev YX12_both : am_Y := (yX12_both, cX12_both, 3, (some .int))
abbrev YX12_box : am_Y := (yX12_box, cX12_box, 11, (some .int))
abbrev YX12_bridge : am_Y := (yX12_bridge, cX12_bridge, 3, (some .int))
abbrev YX12_byteAt : am_Y := (yX12_byteAt, cX12_byteAt, 2, (some .int))
abbrev YX12_cell : am_Y := (yX12_cell, cX12_cell, 4, (some .int))
abbrev YX12_copy : am_Y := (yX12_copy, cX12_copy, 9, (some .int))
abbrev YX12_count : am_Y := (yX12_count, cX12_count, 4, (some .int))
abbrev YX12_crossing : am_Y := (yX12_crossing, cX12_crossing, 3, (some .int))
abbrev YX12_dueOf : am_Y := (yX12_dueOf, cX12_dueOf, 3, (some .int))
abbrev YX12_either : am_Y := (yX12_either, cX12_either, 3, (some .int))
abbrev YX12_fail : am_Y := (yX12_fail, cX12_fail, 1, none)
abbrev YX12_feed : am_Y := (yX12_feed, cX12_feed, 5, (some .int))
abbrev YX12_fog : am_Y := (yX12_fog, cX12_fog, 14, (some .int))
abbrev YX12_foot : am_Y := (yX12_foot, cX12_foot, 2, (some .int))
abbrev YX12_force : am_Y := (yX12_force, cX12_force, 3, (some .int))
abbrev YX12_foremost : am_Y := (yX12_foremost, cX12_foremost, 6, (some .int))
abbrev YX12_heir : am_Y := (yX12_heir, cX12_heir, 7, (some .int))
abbrev YX12_ill : am_Y := (yX12_ill, cX12_ill, 4, (some .int))
abbrev YX12_image : am_Y := (yX12_image, cX12_image, 2, (some .int))
abbrev YX12_in : am_Y := (yX12_in, cX12_in, 6, (some .boolean))
abbrev YX12_isAhead : am_Y := (yX12_isAhead, cX12_isAhead, 3, (some .boolean))
abbrev YX12_isBoat : am_Y := (yX12_isBoat, cX12_isBoat, 1, (some .boolean))
abbrev YX12_isCrossing : am_Y := (yX12_isCrossing, cX12_isCrossing, 2, (some .boolean))
abbrev YX12_isHour : am_Y := (yX12_isHour, cX12_isHour, 1, (some .boolean))
abbrev YX12_isRower : am_Y := (yX12_isRower, cX12_isRower, 2, (some .boolean))
abbrev YX12_isSheet : am_Y := (yX12_isSheet, cX12_isSheet, 1, (some .boolean))
abbrev YX12_isSign : am_Y := (yX12_isSign, cX12_isSign, 2, (some .boolean))
abbrev YX12_isWord : am_Y := (yX12_isWord, cX12_isWord, 3, (some .boolean))
abbrev YX12_judge : am_Y := (yX12_judge, cX12_judge, 5, (some .int))
abbrev YX12_load : am_Y := (yX12_load, cX12_load, 5, (some .int))
abbrev YX12_lost : am_Y := (yX12_lost, cX12_lost, 6, (some .int))
abbrev YX12_may : am_Y := (yX12_may, cX12_may, 4, (some .boolean))
abbrev YX12_minute : am_Y := (yX12_minute, cX12_minute, 14, none)
abbrev YX12_name : am_Y := (yX12_name, cX12_name, 1, (some .int))
abbrev YX12_next : am_Y := (yX12_next, cX12_next, 3, none)
abbrev YX12_not : am_Y := (yX12_not, cX12_not, 4, (some .int))
abbrev YX12_one : am_Y := (yX12_one, cX12_one, 2, (some .int))
abbrev YX12_onward : am_Y := (yX12_onward, cX12_onward, 2, (some .int))
abbrev YX12_open : am_Y := (yX12_open, cX12_open, 10, (some .int))
abbrev YX12_opens : am_Y := (yX12_opens, cX12_opens, 1, (some .boolean))
abbrev YX12_over : am_Y := (yX12_over, cX12_over, 1, (some .int))
abbrev YX12_paceOf : am_Y := (yX12_paceOf, cX12_paceOf, 3, (some .int))
abbrev YX12_part : am_Y := (yX12_part, cX12_part, 4, (some .int))
abbrev YX12_partsOf : am_Y := (yX12_partsOf, cX12_partsOf, 3, (some .int))
abbrev YX12_path : am_Y := (yX12_path, cX12_path, 4, (some .int))
abbrev YX12_plain : am_Y := (yX12_plain, cX12_plain, 1, (some .int))
abbrev YX12_priceOf : am_Y := (yX12_priceOf, cX12_priceOf, 3, (some .int))
abbrev YX12_read : am_Y := (yX12_read, cX12_read, 10, (some .int))
abbrev YX12_rowed : am_Y := (yX12_rowed, cX12_rowed, 4, (some .int))
abbrev YX12_rower : am_Y := (yX12_rower, cX12_rower, 4, (some .int))
abbrev YX12_rowers : am_Y := (yX12_rowers, cX12_rowers, 8, (some .int))
abbrev YX12_set : am_Y := (yX12_set, cX12_set, 4, (some .int))
abbrev YX12_shares : am_Y := (yX12_shares, cX12_shares, 7, (some .int))
abbrev YX12_sheet : am_Y := (yX12_sheet, cX12_sheet, 5, (some .int))
abbrev YX12_spell : am_Y := (yX12_spell, cX12_spell, 5, none)
abbrev YX12_tail : am_Y := (yX12_tail, cX12_tail, 6, (some .int))
abbrev YX12_taken : am_Y := (yX12_taken, cX12_taken, 4, (some .int))
abbrev YX12_takes : am_Y := (yX12_takes, cX12_takes, 4, (some .int))
abbrev YX12_term : am_Y := (yX12_term, cX12_term, 2, (some .int))
abbrev YX12_text : am_Y := (yX12_text, cX12_text, 2, (some .int))
abbrev YX12_told : am_Y := (yX12_told, cX12_told, 4, (some .int))
abbrev YX12_turn : am_Y := (yX12_turn, cX12_turn, 3, (some .int))
abbrev YX12_turnOf : am_Y := (yX12_turnOf, cX12_turnOf, 5, (some .int))
abbrev YX12_waits : am_Y := (yX12_waits, cX12_waits, 11, (some .int))
abbrev YX12_walks : am_Y := (yX12_walks, cX12_walks, 5, none)
abbrev YX12_within : am_Y := (yX12_within, cX12_within, 3, (some .int))
abbrev YX1_become : am_Y := (yX1_become, cX1_become, 3, (some .int))
abbrev YX1_comeBack : am_Y := (yX1_comeBack, cX1_comeBack, 1, none)
abbrev YX1_crewNeeded : am_Y := (yX1_crewNeeded, cX1_crewNeeded, 1, (some .int))
abbrev YX1_init : am_Y := (yX1_init, cX1_init, 3, none)
abbrev YX1_keep : am_Y := (yX1_keep, cX1_keep, 1, none)
abbrev YX1_takeHeads : am_Y := (yX1_takeHeads, cX1_takeHeads, 3, (some .int))
abbrev YX2_init : am_Y := (yX2_init, cX2_init, 4, none)
abbrev YX2_may : am_Y := (yX2_may, cX2_may, 2, (some .boolean))
abbrev YX2_pace : am_Y := (yX2_pace, cX2_pace, 1, (some .int))
abbrev YX2_parts : am_Y := (yX2_parts, cX2_parts, 1, (some .int))
abbrev YX3_init : am_Y := (yX3_init, cX3_init, 4, none)
abbrev YX3_may : am_Y := (yX3_may, cX3_may, 2, (some .boolean))
abbrev YX3_pace : am_Y := (yX3_pace, cX3_pace, 1, (some .int))
abbrev YX3_parts : am_Y := (yX3_parts, cX3_parts, 1, (some .int))
abbrev YX4_areTwo : am_Y := (yX4_areTwo, cX4_areTwo, 1, (some .boolean))
abbrev YX4_comeBack : am_Y := (yX4_comeBack, cX4_comeBack, 1, none)
abbrev YX4_keep : am_Y := (yX4_keep, cX4_keep, 1, none)
abbrev YX4_leastWay : am_Y := (yX4_leastWay, cX4_leastWay, 4, (some .int))
abbrev YX4_lostMinutes : am_Y := (yX4_lostMinutes, cX4_lostMinutes, 3, (some .int))
abbrev YX4_measure : am_Y := (yX4_measure, cX4_measure, 7, none)
abbrev YX4_measureNow : am_Y := (yX4_measureNow, cX4_measureNow, 3, none)
abbrev YX4_measureThen : am_Y := (yX4_measureThen, cX4_measureThen, 3, none)
abbrev YX4_takePath : am_Y := (yX4_takePath, cX4_takePath, 4, (some .int))
abbrev YX4_turned : am_Y := (yX4_turned, cX4_turned, 1, (some .int))
abbrev YX5_init : am_Y := (yX5_init, cX5_init, 4, none)
abbrev YX5_may : am_Y := (yX5_may, cX5_may, 2, (some .boolean))
abbrev YX5_pace : am_Y := (yX5_pace, cX5_pace, 1, (some .int))
abbrev YX5_parts : am_Y := (yX5_parts, cX5_parts, 1, (some .int))
abbrev YX6_init : am_Y := (yX6_init, cX6_init, 4, none)
abbrev YX6_may : am_Y := (yX6_may, cX6_may, 2, (some .boolean))
abbrev YX6_pace : am_Y := (yX6_pace, cX6_pace, 1, (some .int))
abbrev YX7_comeBack : am_Y := (yX7_comeBack, cX7_comeBack, 1, none)
abbrev YX7_init : am_Y := (yX7_init, cX7_init, 4, none)
abbrev YX7_isIll : am_Y := (yX7_isIll, cX7_isIll, 1, (some .boolean))
abbrev YX7_keep : am_Y := (yX7_keep, cX7_keep, 1, none)
abbrev YX7_may : am_Y := (yX7_may, cX7_may, 2, (some .boolean))
abbrev YX7_pace : am_Y := (yX7_pace, cX7_pace, 1, (some .int))
abbrev YX7_parts : am_Y := (yX7_parts, cX7_parts, 1, (some .int))
abbrev YX7_rowsAt : am_Y := (yX7_rowsAt, cX7_rowsAt, 2, (some .boolean))
abbrev YX7_toldPace : am_Y := (yX7_toldPace, cX7_toldPace, 1, (some .int))
abbrev YX8_become : am_Y := (yX8_become, cX8_become, 3, none)
abbrev YX8_holds : am_Y := (yX8_holds, cX8_holds, 3, (some .boolean))
abbrev YX8_isMissing : am_Y := (yX8_isMissing, cX8_isMissing, 1, (some .boolean))
abbrev YX8_item : am_Y := (yX8_item, cX8_item, 2, (some .int))
abbrev YX8_put : am_Y := (yX8_put, cX8_put, 3, (some .boolean))
abbrev YX9_init : am_Y := (yX9_init, cX9_init, 4, none)
abbrev YX9_may : am_Y := (yX9_may, cX9_may, 2, (some .boolean))
abbrev YX9_pace : am_Y := (yX9_pace, cX9_pace, 1, (some .int))
abbrev YX9_parts : am_Y := (yX9_parts, cX9_parts, 1, (some .int))
abbrev YX9_rowsAt : am_Y := (yX9_rowsAt, cX9_rowsAt, 2, (some .boolean))
theorem cd_J0_charAt_5068e : am_code YJ0_charAt_5068e ∈ am_gt := am_gt_in (List.mem_of_getElem? (i := 232) (by decide +kernel)) rfl
theorem cd_J0_indexOf_0f7a4 : am_code YJ0_indexOf_0f7a4 ∈ am_gt := am_gt_in (List.mem_of_getElem? (i := 302) (by decide +kernel)) rfl
theorem cd_J0_length_8abf5 : am_code YJ0_length_8abf5 ∈ am_gt := am_gt_in (List.mem_of_getElem? (i := 222) (by decide +kernel)) rfl
theorem cd_J7_fill_53178 : am_code YJ7_fill_53178 ∈ am_gt := am_gt_in (List.mem_of_getElem? (i := 1062) (by decide +kernel)) rfl
theorem cd_X0_awaits : am_code YX0_awaits ∈ am_gt := am_gt_in (List.mem_of_getElem? (i := 813) (by decide +kernel)) rfl
theorem cd_X0_bestFrom : am_code YX0_bestFrom ∈ am_gt := am_gt_in (List.mem_of_getElem? (i := 830) (by decide +kernel)) rfl
theorem cd_X0_bestPlan : am_code YX0_bestPlan ∈ am_gt := am_gt_in (List.mem_of_getElem? (i := 825) (by decide +kernel)) rfl
theorem cd_X0_minutesOf : am_code YX0_minutesOf ∈ am_gt := am_gt_in (List.mem_of_getElem? (i := 849) (by decide +kernel)) rfl
theorem cd_X0_planPuttingOff : am_code YX0_planPuttingOff ∈ am_gt := am_gt_in (List.mem_of_getElem? (i := 834) (by decide +kernel)) rfl
theorem cd_X0_waitsAfterLast : am_code YX0_waitsAfterLast ∈ am_gt := am_gt_in (List.mem_of_getElem? (i := 838) (by decide +kernel)) rfl
theorem cd_X0_waitsOf : am_code YX0_waitsOf ∈ am_gt := am_gt_in (List.mem_of_getElem? (i := 846) (by decide +kernel)) rfl
theorem cd_X10_addBytes : am_code YX10_addBytes ∈ am_gt := am_gt_in (List.mem_of_getElem? (i := 270) (by decide +kernel)) rfl
theorem cd_X10_doStep : am_code YX10_doStep ∈ am_gt := am_gt_in (List.mem_of_getElem? (i := 763) (by decide +kernel)) rfl
theorem cd_X10_isDigit : am_code YX10_isDigit ∈ am_gt := am_gt_in (List.mem_of_getElem? (i := 293) (by decide +kernel)) rfl
theorem cd_X10_isLetter : am_code YX10_isLetter ∈ am_gt := am_gt_in (List.mem_of_getElem? (i := 281) (by decide +kernel)) rfl
theorem cd_X10_isWord : am_code YX10_isWord ∈ am_gt := am_gt_in (List.mem_of_getElem? (i := 289) (by decide +kernel)) rfl
theorem cd_X10_joined : am_code YX10_joined ∈ am_gt := am_gt_in (List.mem_of_getElem? (i := 766) (by decide +kernel)) rfl
theorem cd_X10_joins : am_code YX10_joins ∈ am_gt := am_gt_in (List.mem_of_getElem? (i := 389) (by decide +kernel)) rfl
theorem cd_X10_nextToken : am_code YX10_nextToken ∈ am_gt := am_gt_in (List.mem_of_getElem? (i := 278) (by decide +kernel)) rfl
theorem cd_X10_pass : am_code YX10_pass ∈ am_gt := am_gt_in (List.mem_of_getElem? (i := 361) (by decide +kernel)) rfl
theorem cd_X10_read : am_code YX10_read ∈ am_gt := am_gt_in (List.mem_of_getElem? (i := 369) (by decide +kernel)) rfl
theorem cd_X10_readJoined : am_code YX10_readJoined ∈ am_gt := am_gt_in (List.mem_of_getElem? (i := 385) (by decide +kernel)) rfl
theorem cd_X10_readOne : am_code YX10_readOne ∈ am_gt := am_gt_in (List.mem_of_getElem? (i := 381) (by decide +kernel)) rfl
theorem cd_X10_readOpening : am_code YX10_readOpening ∈ am_gt := am_gt_in (List.mem_of_getElem? (i := 373) (by decide +kernel)) rfl
theorem cd_X10_readTape : am_code YX10_readTape ∈ am_gt := am_gt_in (List.mem_of_getElem? (i := 274) (by decide +kernel)) rfl
theorem cd_X10_refuse : am_code YX10_refuse ∈ am_gt := am_gt_in (List.mem_of_getElem? (i := 365) (by decide +kernel)) rfl
theorem cd_X10_takeNumber : am_code YX10_takeNumber ∈ am_gt := am_gt_in (List.mem_of_getElem? (i := 297) (by decide +kernel)) rfl
theorem cd_X10_takeWord : am_code YX10_takeWord ∈ am_gt := am_gt_in (List.mem_of_getElem? (i := 285) (by decide +kernel)) rfl
theorem cd_X10_value : am_code YX10_value ∈ am_gt := am_gt_in (List.mem_of_getElem? (i := 759) (by decide +kernel)) rfl
theorem cd_X10_write : am_code YX10_write ∈ am_gt := am_gt_in (List.mem_of_getElem? (i := 377) (by decide +kernel)) rfl
theorem cd_X11_byRule : am_code YX11_byRule ∈ am_gt := am_gt_in (List.mem_of_getElem? (i := 755) (by decide +kernel)) rfl
theorem cd_X11_crossingAt : am_code YX11_crossingAt ∈ am_gt := am_gt_in (List.mem_of_getElem? (i := 496) (by decide +kernel)) rfl
theorem cd_X11_dueTwo : am_code YX11_dueTwo ∈ am_gt := am_gt_in (List.mem_of_getElem? (i := 857) (by decide +kernel)) rfl
theorem cd_X11_eldestSon : am_code YX11_eldestSon ∈ am_gt := am_gt_in (List.mem_of_getElem? (i := 895) (by decide +kernel)) rfl
theorem cd_X11_firstOfBlood : am_code YX11_firstOfBlood ∈ am_gt := am_gt_in (List.mem_of_getElem? (i := 899) (by decide +kernel)) rfl
theorem cd_X11_firstOther : am_code YX11_firstOther ∈ am_gt := am_gt_in (List.mem_of_getElem? (i := 886) (by decide +kernel)) rfl
theorem cd_X11_illOnes : am_code YX11_illOnes ∈ am_gt := am_gt_in (List.mem_of_getElem? (i := 1045) (by decide +kernel)) rfl
theorem cd_X11_isABoat : am_code YX11_isABoat ∈ am_gt := am_gt_in (List.mem_of_getElem? (i := 960) (by decide +kernel)) rfl
theorem cd_X11_isHour : am_code YX11_isHour ∈ am_gt := am_gt_in (List.mem_of_getElem? (i := 655) (by decide +kernel)) rfl
theorem cd_X11_isUnder : am_code YX11_isUnder ∈ am_gt := am_gt_in (List.mem_of_getElem? (i := 1088) (by decide +kernel)) rfl
theorem cd_X11_mostTurns : am_code YX11_mostTurns ∈ am_gt := am_gt_in (List.mem_of_getElem? (i := 903) (by decide +kernel)) rfl
theorem cd_X11_newRower : am_code YX11_newRower ∈ am_gt := am_gt_in (List.mem_of_getElem? (i := 516) (by decide +kernel)) rfl
theorem cd_X11_oneMore : am_code YX11_oneMore ∈ am_gt := am_gt_in (List.mem_of_getElem? (i := 878) (by decide +kernel)) rfl
theorem cd_X11_oneOf : am_code YX11_oneOf ∈ am_gt := am_gt_in (List.mem_of_getElem? (i := 787) (by decide +kernel)) rfl
theorem cd_X11_openOnes : am_code YX11_openOnes ∈ am_gt := am_gt_in (List.mem_of_getElem? (i := 1041) (by decide +kernel)) rfl
theorem cd_X11_otherOf : am_code YX11_otherOf ∈ am_gt := am_gt_in (List.mem_of_getElem? (i := 791) (by decide +kernel)) rfl
theorem cd_X11_priceOf : am_code YX11_priceOf ∈ am_gt := am_gt_in (List.mem_of_getElem? (i := 975) (by decide +kernel)) rfl
theorem cd_X11_rower : am_code YX11_rower ∈ am_gt := am_gt_in (List.mem_of_getElem? (i := 509) (by decide +kernel)) rfl
theorem cd_X11_rowerAt : am_code YX11_rowerAt ∈ am_gt := am_gt_in (List.mem_of_getElem? (i := 513) (by decide +kernel)) rfl
theorem cd_X11_setWater : am_code YX11_setWater ∈ am_gt := am_gt_in (List.mem_of_getElem? (i := 491) (by decide +kernel)) rfl
theorem cd_X11_shareOf : am_code YX11_shareOf ∈ am_gt := am_gt_in (List.mem_of_getElem? (i := 982) (by decide +kernel)) rfl
theorem cd_X11_sheetAt : am_code YX11_sheetAt ∈ am_gt := am_gt_in (List.mem_of_getElem? (i := 805) (by decide +kernel)) rfl
theorem cd_X11_turn : am_code YX11_turn ∈ am_gt := am_gt_in (List.mem_of_getElem? (i := 853) (by decide +kernel)) rfl
theorem cd_X11_turnedAbout : am_code YX11_turnedAbout ∈ am_gt := am_gt_in (List.mem_of_getElem? (i := 966) (by decide +kernel)) rfl
theorem cd_X11_turnsInAll : am_code YX11_turnsInAll ∈ am_gt := am_gt_in (List.mem_of_getElem? (i := 1049) (by decide +kernel)) rfl
theorem cd_X11_within : am_code YX11_within ∈ am_gt := am_gt_in (List.mem_of_getElem? (i := 451) (by decide +kernel)) rfl
theorem cd_X12_added : am_code YX12_added ∈ am_gt := am_gt_in (List.mem_of_getElem? (i := 1400) (by decide +kernel)) rfl
theorem cd_X12_areLandings : am_code YX12_areLandings ∈ am_gt := am_gt_in (List.mem_of_getElem? (i := 1292) (by decide +kernel)) rfl
theorem cd_X12_areTwo : am_code YX12_areTwo ∈ am_gt := am_gt_in (List.mem_of_getElem? (i := 1448) (by decide +kernel)) rfl
theorem cd_X12_both : am_code YX12_both ∈ am_gt := am_gt_in (List.mem_of_getElem? (i := 1387) (by decide +kernel)) rfl
theorem cd_X12_byteAt : am_code YX12_byteAt ∈ am_gt := am_gt_in (List.mem_of_getElem? (i := 1358) (by decide +kernel)) rfl
theorem cd_X12_dueOf : am_code YX12_dueOf ∈ am_gt := am_gt_in (List.mem_of_getElem? (i := 1346) (by decide +kernel)) rfl
theorem cd_X12_either : am_code YX12_either ∈ am_gt := am_gt_in (List.mem_of_getElem? (i := 1383) (by decide +kernel)) rfl
theorem cd_X12_fail : am_code YX12_fail ∈ am_gt := am_gt_in (List.mem_of_getElem? (i := 1379) (by decide +kernel)) rfl
theorem cd_X12_foremost : am_code YX12_foremost ∈ am_gt := am_gt_in (List.mem_of_getElem? (i := 1485) (by decide +kernel)) rfl
theorem cd_X12_in : am_code YX12_in ∈ am_gt := am_gt_in (List.mem_of_getElem? (i := 1289) (by decide +kernel)) rfl
theorem cd_X12_isAhead : am_code YX12_isAhead ∈ am_gt := am_gt_in (List.mem_of_getElem? (i := 1503) (by decide +kernel)) rfl
theorem cd_X12_isBoat : am_code YX12_isBoat ∈ am_gt := am_gt_in (List.mem_of_getElem? (i := 1532) (by decide +kernel)) rfl
theorem cd_X12_isCrossing : am_code YX12_isCrossing ∈ am_gt := am_gt_in (List.mem_of_getElem? (i := 1302) (by decide +kernel)) rfl
theorem cd_X12_isHour : am_code YX12_isHour ∈ am_gt := am_gt_in (List.mem_of_getElem? (i := 1325) (by decide +kernel)) rfl
theorem cd_X12_isRower : am_code YX12_isRower ∈ am_gt := am_gt_in (List.mem_of_getElem? (i := 1314) (by decide +kernel)) rfl
theorem cd_X12_isSheet : am_code YX12_isSheet ∈ am_gt := am_gt_in (List.mem_of_getElem? (i := 1462) (by decide +kernel)) rfl
theorem cd_X12_isSign : am_code YX12_isSign ∈ am_gt := am_gt_in (List.mem_of_getElem? (i := 1412) (by decide +kernel)) rfl
theorem cd_X12_isWord : am_code YX12_isWord ∈ am_gt := am_gt_in (List.mem_of_getElem? (i := 1375) (by decide +kernel)) rfl
theorem cd_X12_may : am_code YX12_may ∈ am_gt := am_gt_in (List.mem_of_getElem? (i := 1335) (by decide +kernel)) rfl
theorem cd_X12_minute : am_code YX12_minute ∈ am_gt := am_gt_in (List.mem_of_getElem? (i := 1473) (by decide +kernel)) rfl
theorem cd_X12_name : am_code YX12_name ∈ am_gt := am_gt_in (List.mem_of_getElem? (i := 1416) (by decide +kernel)) rfl
theorem cd_X12_next : am_code YX12_next ∈ am_gt := am_gt_in (List.mem_of_getElem? (i := 1354) (by decide +kernel)) rfl
theorem cd_X12_not : am_code YX12_not ∈ am_gt := am_gt_in (List.mem_of_getElem? (i := 1391) (by decide +kernel)) rfl
theorem cd_X12_one : am_code YX12_one ∈ am_gt := am_gt_in (List.mem_of_getElem? (i := 1408) (by decide +kernel)) rfl
theorem cd_X12_onward : am_code YX12_onward ∈ am_gt := am_gt_in (List.mem_of_getElem? (i := 1538) (by decide +kernel)) rfl
theorem cd_X12_opens : am_code YX12_opens ∈ am_gt := am_gt_in (List.mem_of_getElem? (i := 1396) (by decide +kernel)) rfl
theorem cd_X12_over : am_code YX12_over ∈ am_gt := am_gt_in (List.mem_of_getElem? (i := 1594) (by decide +kernel)) rfl
theorem cd_X12_paceOf : am_code YX12_paceOf ∈ am_gt := am_gt_in (List.mem_of_getElem? (i := 1331) (by decide +kernel)) rfl
theorem cd_X12_part : am_code YX12_part ∈ am_gt := am_gt_in (List.mem_of_getElem? (i := 1371) (by decide +kernel)) rfl
theorem cd_X12_partsOf : am_code YX12_partsOf ∈ am_gt := am_gt_in (List.mem_of_getElem? (i := 1342) (by decide +kernel)) rfl
theorem cd_X12_plain : am_code YX12_plain ∈ am_gt := am_gt_in (List.mem_of_getElem? (i := 1535) (by decide +kernel)) rfl
theorem cd_X12_priceOf : am_code YX12_priceOf ∈ am_gt := am_gt_in (List.mem_of_getElem? (i := 1548) (by decide +kernel)) rfl
theorem cd_X12_read : am_code YX12_read ∈ am_gt := am_gt_in (List.mem_of_getElem? (i := 1350) (by decide +kernel)) rfl
theorem cd_X12_rowed : am_code YX12_rowed ∈ am_gt := am_gt_in (List.mem_of_getElem? (i := 1489) (by decide +kernel)) rfl
theorem cd_X12_rower : am_code YX12_rower ∈ am_gt := am_gt_in (List.mem_of_getElem? (i := 1307) (by decide +kernel)) rfl
theorem cd_X12_tail : am_code YX12_tail ∈ am_gt := am_gt_in (List.mem_of_getElem? (i := 1469) (by decide +kernel)) rfl
theorem cd_X12_term : am_code YX12_term ∈ am_gt := am_gt_in (List.mem_of_getElem? (i := 1404) (by decide +kernel)) rfl
theorem cd_X12_turnOf : am_code YX12_turnOf ∈ am_gt := am_gt_in (List.mem_of_getElem? (i := 1481) (by decide +kernel)) rfl
theorem cd_X12_walks : am_code YX12_walks ∈ am_gt := am_gt_in (List.mem_of_getElem? (i := 1521) (by decide +kernel)) rfl
theorem cd_X12_within : am_code YX12_within ∈ am_gt := am_gt_in (List.mem_of_getElem? (i := 1451) (by decide +kernel)) rfl
theorem cd_X1_become : am_code YX1_become ∈ am_gt := am_gt_in (List.mem_of_getElem? (i := 500) (by decide +kernel)) rfl
theorem cd_X1_comeBack : am_code YX1_comeBack ∈ am_gt := am_gt_in (List.mem_of_getElem? (i := 1019) (by decide +kernel)) rfl
theorem cd_X1_crewNeeded : am_code YX1_crewNeeded ∈ am_gt := am_gt_in (List.mem_of_getElem? (i := 911) (by decide +kernel)) rfl
theorem cd_X1_init : am_code YX1_init ∈ am_gt := am_gt_in (List.mem_of_getElem? (i := 458) (by decide +kernel)) rfl
theorem cd_X1_keep : am_code YX1_keep ∈ am_gt := am_gt_in (List.mem_of_getElem? (i := 994) (by decide +kernel)) rfl
theorem cd_X1_takeHeads : am_code YX1_takeHeads ∈ am_gt := am_gt_in (List.mem_of_getElem? (i := 505) (by decide +kernel)) rfl
theorem cd_X2_init : am_code YX2_init ∈ am_gt := am_gt_in (List.mem_of_getElem? (i := 621) (by decide +kernel)) rfl
theorem cd_X2_may : am_code YX2_may ∈ am_gt := am_gt_in (List.mem_of_getElem? (i := 699) (by decide +kernel)) rfl
theorem cd_X2_pace : am_code YX2_pace ∈ am_gt := am_gt_in (List.mem_of_getElem? (i := 673) (by decide +kernel)) rfl
theorem cd_X2_parts : am_code YX2_parts ∈ am_gt := am_gt_in (List.mem_of_getElem? (i := 734) (by decide +kernel)) rfl
theorem cd_X3_init : am_code YX3_init ∈ am_gt := am_gt_in (List.mem_of_getElem? (i := 521) (by decide +kernel)) rfl
theorem cd_X3_may : am_code YX3_may ∈ am_gt := am_gt_in (List.mem_of_getElem? (i := 706) (by decide +kernel)) rfl
theorem cd_X3_pace : am_code YX3_pace ∈ am_gt := am_gt_in (List.mem_of_getElem? (i := 680) (by decide +kernel)) rfl
theorem cd_X3_parts : am_code YX3_parts ∈ am_gt := am_gt_in (List.mem_of_getElem? (i := 740) (by decide +kernel)) rfl
theorem cd_X4_areTwo : am_code YX4_areTwo ∈ am_gt := am_gt_in (List.mem_of_getElem? (i := 454) (by decide +kernel)) rfl
theorem cd_X4_comeBack : am_code YX4_comeBack ∈ am_gt := am_gt_in (List.mem_of_getElem? (i := 1033) (by decide +kernel)) rfl
theorem cd_X4_keep : am_code YX4_keep ∈ am_gt := am_gt_in (List.mem_of_getElem? (i := 1008) (by decide +kernel)) rfl
theorem cd_X4_leastWay : am_code YX4_leastWay ∈ am_gt := am_gt_in (List.mem_of_getElem? (i := 930) (by decide +kernel)) rfl
theorem cd_X4_lostMinutes : am_code YX4_lostMinutes ∈ am_gt := am_gt_in (List.mem_of_getElem? (i := 953) (by decide +kernel)) rfl
theorem cd_X4_measure : am_code YX4_measure ∈ am_gt := am_gt_in (List.mem_of_getElem? (i := 934) (by decide +kernel)) rfl
theorem cd_X4_measureNow : am_code YX4_measureNow ∈ am_gt := am_gt_in (List.mem_of_getElem? (i := 949) (by decide +kernel)) rfl
theorem cd_X4_measureThen : am_code YX4_measureThen ∈ am_gt := am_gt_in (List.mem_of_getElem? (i := 945) (by decide +kernel)) rfl
theorem cd_X4_takePath : am_code YX4_takePath ∈ am_gt := am_gt_in (List.mem_of_getElem? (i := 919) (by decide +kernel)) rfl
theorem cd_X4_turned : am_code YX4_turned ∈ am_gt := am_gt_in (List.mem_of_getElem? (i := 922) (by decide +kernel)) rfl
theorem cd_X5_init : am_code YX5_init ∈ am_gt := am_gt_in (List.mem_of_getElem? (i := 589) (by decide +kernel)) rfl
theorem cd_X5_may : am_code YX5_may ∈ am_gt := am_gt_in (List.mem_of_getElem? (i := 710) (by decide +kernel)) rfl
theorem cd_X5_pace : am_code YX5_pace ∈ am_gt := am_gt_in (List.mem_of_getElem? (i := 684) (by decide +kernel)) rfl
theorem cd_X5_parts : am_code YX5_parts ∈ am_gt := am_gt_in (List.mem_of_getElem? (i := 744) (by decide +kernel)) rfl
theorem cd_X6_init : am_code YX6_init ∈ am_gt := am_gt_in (List.mem_of_getElem? (i := 573) (by decide +kernel)) rfl
theorem cd_X6_may : am_code YX6_may ∈ am_gt := am_gt_in (List.mem_of_getElem? (i := 702) (by decide +kernel)) rfl
theorem cd_X6_pace : am_code YX6_pace ∈ am_gt := am_gt_in (List.mem_of_getElem? (i := 676) (by decide +kernel)) rfl
theorem cd_X7_comeBack : am_code YX7_comeBack ∈ am_gt := am_gt_in (List.mem_of_getElem? (i := 1029) (by decide +kernel)) rfl
theorem cd_X7_init : am_code YX7_init ∈ am_gt := am_gt_in (List.mem_of_getElem? (i := 524) (by decide +kernel)) rfl
theorem cd_X7_isIll : am_code YX7_isIll ∈ am_gt := am_gt_in (List.mem_of_getElem? (i := 717) (by decide +kernel)) rfl
theorem cd_X7_keep : am_code YX7_keep ∈ am_gt := am_gt_in (List.mem_of_getElem? (i := 1004) (by decide +kernel)) rfl
theorem cd_X7_may : am_code YX7_may ∈ am_gt := am_gt_in (List.mem_of_getElem? (i := 726) (by decide +kernel)) rfl
theorem cd_X7_pace : am_code YX7_pace ∈ am_gt := am_gt_in (List.mem_of_getElem? (i := 691) (by decide +kernel)) rfl
theorem cd_X7_parts : am_code YX7_parts ∈ am_gt := am_gt_in (List.mem_of_getElem? (i := 751) (by decide +kernel)) rfl
theorem cd_X7_rowsAt : am_code YX7_rowsAt ∈ am_gt := am_gt_in (List.mem_of_getElem? (i := 869) (by decide +kernel)) rfl
theorem cd_X7_toldPace : am_code YX7_toldPace ∈ am_gt := am_gt_in (List.mem_of_getElem? (i := 666) (by decide +kernel)) rfl
theorem cd_X8_become : am_code YX8_become ∈ am_gt := am_gt_in (List.mem_of_getElem? (i := 1057) (by decide +kernel)) rfl
theorem cd_X8_holds : am_code YX8_holds ∈ am_gt := am_gt_in (List.mem_of_getElem? (i := 821) (by decide +kernel)) rfl
theorem cd_X8_isMissing : am_code YX8_isMissing ∈ am_gt := am_gt_in (List.mem_of_getElem? (i := 809) (by decide +kernel)) rfl
theorem cd_X8_item : am_code YX8_item ∈ am_gt := am_gt_in (List.mem_of_getElem? (i := 817) (by decide +kernel)) rfl
theorem cd_X8_put : am_code YX8_put ∈ am_gt := am_gt_in (List.mem_of_getElem? (i := 1070) (by decide +kernel)) rfl
theorem cd_X9_init : am_code YX9_init ∈ am_gt := am_gt_in (List.mem_of_getElem? (i := 605) (by decide +kernel)) rfl
theorem cd_X9_may : am_code YX9_may ∈ am_gt := am_gt_in (List.mem_of_getElem? (i := 721) (by decide +kernel)) rfl
theorem cd_X9_pace : am_code YX9_pace ∈ am_gt := am_gt_in (List.mem_of_getElem? (i := 689) (by decide +kernel)) rfl
theorem cd_X9_parts : am_code YX9_parts ∈ am_gt := am_gt_in (List.mem_of_getElem? (i := 749) (by decide +kernel)) rfl
theorem cd_X9_rowsAt : am_code YX9_rowsAt ∈ am_gt := am_gt_in (List.mem_of_getElem? (i := 868) (by decide +kernel)) rfl
theorem cd_math_abs : Cond.code Lib.Math.abs.name Lib.Math.abs.code 1 (some .int) ∈ am_gt := am_gt_in (List.mem_of_getElem? (i := 963) (by decide +kernel)) (by first | rfl | decide +kernel)
theorem cd_math_max : Cond.code Lib.Math.max.name Lib.Math.max.code 2 (some .int) ∈ am_gt := am_gt_in (List.mem_of_getElem? (i := 316) (by decide +kernel)) (by first | rfl | decide +kernel)
theorem cd_math_min : Cond.code Lib.Math.min.name Lib.Math.min.code 2 (some .int) ∈ am_gt := am_gt_in (List.mem_of_getElem? (i := 319) (by decide +kernel)) (by first | rfl | decide +kernel)
theorem cd_math_minl : Cond.code Lib.MathLoose.min_long.x Lib.MathLoose.min_long.code 4 (some .long) ∈ am_gt := am_gt_in (List.mem_of_getElem? (i := 843) (by decide +kernel)) (by first | rfl | decide +kernel)
theorem cd_objInit : Cond.code Lib.objectInit ⟨#[0xb1]⟩ 1 none ∈ am_gt := am_gt_in (List.mem_of_getElem? (i := 92) (by decide +kernel)) (by first | rfl | decide +kernel)
theorem cl_RX11_117 : Cond.classLink RX11 117 RX3 ∈ am_gt := am_gt_in (List.mem_of_getElem? (i := 517) (by decide +kernel)) (by decide +kernel)
theorem cl_RX11_122 : Cond.classLink RX11 122 RX6 ∈ am_gt := am_gt_in (List.mem_of_getElem? (i := 569) (by decide +kernel)) (by decide +kernel)
theorem cl_RX11_125 : Cond.classLink RX11 125 RX5 ∈ am_gt := am_gt_in (List.mem_of_getElem? (i := 585) (by decide +kernel)) (by decide +kernel)
theorem cl_RX11_128 : Cond.classLink RX11 128 RX9 ∈ am_gt := am_gt_in (List.mem_of_getElem? (i := 601) (by decide +kernel)) (by decide +kernel)
theorem cl_RX11_131 : Cond.classLink RX11 131 RX2 ∈ am_gt := am_gt_in (List.mem_of_getElem? (i := 617) (by decide +kernel)) (by decide +kernel)
theorem cl_RX11_15 : Cond.classLink RX11 15 RX7 ∈ am_gt := am_gt_in (List.mem_of_getElem? (i := 95) (by decide +kernel)) (by decide +kernel)
theorem cl_RX11_9 : Cond.classLink RX11 9 RX1 ∈ am_gt := am_gt_in (List.mem_of_getElem? (i := 93) (by decide +kernel)) (by decide +kernel)
theorem ff_RX1_13_p1 : ∀ ci ∈ [1], am_fi RX1 13 ci 0 ∧ am_ty ci 0 = .int := fun ci hc => by
  simp only [List.mem_cons, List.not_mem_nil, or_false] at hc
  subst hc
  exact ⟨⟨⟨(RX1, TX1, 6), RX1, rfl, by decide, am_gt_in (List.mem_of_getElem? (i := 460) (by decide +kernel)) (by decide +kernel), Or.inl rfl⟩, fun q h => by cases h; exact ⟨rfl, rfl⟩⟩, rfl⟩
theorem ff_RX1_16_p1 : ∀ ci ∈ [1], am_fi RX1 16 ci 1 ∧ am_ty ci 1 = .int := fun ci hc => by
  simp only [List.mem_cons, List.not_mem_nil, or_false] at hc
  subst hc
  exact ⟨⟨⟨(RX1, TX1, 6), RX1, rfl, by decide, am_gt_in (List.mem_of_getElem? (i := 462) (by decide +kernel)) (by decide +kernel), Or.inl rfl⟩, fun q h => by cases h; exact ⟨rfl, rfl⟩⟩, rfl⟩
theorem ff_RX7_13_p235679 : ∀ ci ∈ [2, 3, 5, 6, 7, 9], am_fi RX7 13 ci 1 ∧ am_ty ci 1 = .int := fun ci hc => by
  simp only [List.mem_cons, List.not_mem_nil, or_false] at hc
  rcases hc with rfl | rfl | rfl | rfl | rfl | rfl
  · exact ⟨⟨⟨(RX2, TX2, 9), RX7, rfl, by decide, am_gt_in (List.mem_of_getElem? (i := 528) (by decide +kernel)) (by decide +kernel), Or.inl rfl⟩, fun q h => by cases h; exact ⟨rfl, rfl⟩⟩, rfl⟩
  · exact ⟨⟨⟨(RX3, TX3, 9), RX7, rfl, by decide, am_gt_in (List.mem_of_getElem? (i := 528) (by decide +kernel)) (by decide +kernel), Or.inl rfl⟩, fun q h => by cases h; exact ⟨rfl, rfl⟩⟩, rfl⟩
  · exact ⟨⟨⟨(RX5, TX5, 9), RX7, rfl, by decide, am_gt_in (List.mem_of_getElem? (i := 528) (by decide +kernel)) (by decide +kernel), Or.inl rfl⟩, fun q h => by cases h; exact ⟨rfl, rfl⟩⟩, rfl⟩
  · exact ⟨⟨⟨(RX6, TX6, 9), RX7, rfl, by decide, am_gt_in (List.mem_of_getElem? (i := 528) (by decide +kernel)) (by decide +kernel), Or.inl rfl⟩, fun q h => by cases h; exact ⟨rfl, rfl⟩⟩, rfl⟩
  · exact ⟨⟨⟨(RX7, TX7, 9), RX7, rfl, by decide, am_gt_in (List.mem_of_getElem? (i := 528) (by decide +kernel)) (by decide +kernel), Or.inl rfl⟩, fun q h => by cases h; exact ⟨rfl, rfl⟩⟩, rfl⟩
  · exact ⟨⟨⟨(RX9, TX9, 9), RX7, rfl, by decide, am_gt_in (List.mem_of_getElem? (i := 528) (by decide +kernel)) (by decide +kernel), Or.inl rfl⟩, fun q h => by cases h; exact ⟨rfl, rfl⟩⟩, rfl⟩
theorem ff_RX7_16_p235679 : ∀ ci ∈ [2, 3, 5, 6, 7, 9], am_fi RX7 16 ci 2 ∧ am_ty ci 2 = .int := fun ci hc => by
  simp only [List.mem_cons, List.not_mem_nil, or_false] at hc
  rcases hc with rfl | rfl | rfl | rfl | rfl | rfl
  · exact ⟨⟨⟨(RX2, TX2, 9), RX7, rfl, by decide, am_gt_in (List.mem_of_getElem? (i := 534) (by decide +kernel)) (by decide +kernel), Or.inl rfl⟩, fun q h => by cases h; exact ⟨rfl, rfl⟩⟩, rfl⟩
  · exact ⟨⟨⟨(RX3, TX3, 9), RX7, rfl, by decide, am_gt_in (List.mem_of_getElem? (i := 534) (by decide +kernel)) (by decide +kernel), Or.inl rfl⟩, fun q h => by cases h; exact ⟨rfl, rfl⟩⟩, rfl⟩
  · exact ⟨⟨⟨(RX5, TX5, 9), RX7, rfl, by decide, am_gt_in (List.mem_of_getElem? (i := 534) (by decide +kernel)) (by decide +kernel), Or.inl rfl⟩, fun q h => by cases h; exact ⟨rfl, rfl⟩⟩, rfl⟩
  · exact ⟨⟨⟨(RX6, TX6, 9), RX7, rfl, by decide, am_gt_in (List.mem_of_getElem? (i := 534) (by decide +kernel)) (by decide +kernel), Or.inl rfl⟩, fun q h => by cases h; exact ⟨rfl, rfl⟩⟩, rfl⟩
  · exact ⟨⟨⟨(RX7, TX7, 9), RX7, rfl, by decide, am_gt_in (List.mem_of_getElem? (i := 534) (by decide +kernel)) (by decide +kernel), Or.inl rfl⟩, fun q h => by cases h; exact ⟨rfl, rfl⟩⟩, rfl⟩
  · exact ⟨⟨⟨(RX9, TX9, 9), RX7, rfl, by decide, am_gt_in (List.mem_of_getElem? (i := 534) (by decide +kernel)) (by decide +kernel), Or.inl rfl⟩, fun q h => by cases h; exact ⟨rfl, rfl⟩⟩, rfl⟩
theorem ff_RX7_19_p235679 : ∀ ci ∈ [2, 3, 5, 6, 7, 9], am_fi RX7 19 ci 3 ∧ am_ty ci 3 = .int := fun ci hc => by
  simp only [List.mem_cons, List.not_mem_nil, or_false] at hc
  rcases hc with rfl | rfl | rfl | rfl | rfl | rfl
  · exact ⟨⟨⟨(RX2, TX2, 9), RX7, rfl, by decide, am_gt_in (List.mem_of_getElem? (i := 540) (by decide +kernel)) (by decide +kernel), Or.inl rfl⟩, fun q h => by cases h; exact ⟨rfl, rfl⟩⟩, rfl⟩
  · exact ⟨⟨⟨(RX3, TX3, 9), RX7, rfl, by decide, am_gt_in (List.mem_of_getElem? (i := 540) (by decide +kernel)) (by decide +kernel), Or.inl rfl⟩, fun q h => by cases h; exact ⟨rfl, rfl⟩⟩, rfl⟩
  · exact ⟨⟨⟨(RX5, TX5, 9), RX7, rfl, by decide, am_gt_in (List.mem_of_getElem? (i := 540) (by decide +kernel)) (by decide +kernel), Or.inl rfl⟩, fun q h => by cases h; exact ⟨rfl, rfl⟩⟩, rfl⟩
  · exact ⟨⟨⟨(RX6, TX6, 9), RX7, rfl, by decide, am_gt_in (List.mem_of_getElem? (i := 540) (by decide +kernel)) (by decide +kernel), Or.inl rfl⟩, fun q h => by cases h; exact ⟨rfl, rfl⟩⟩, rfl⟩
  · exact ⟨⟨⟨(RX7, TX7, 9), RX7, rfl, by decide, am_gt_in (List.mem_of_getElem? (i := 540) (by decide +kernel)) (by decide +kernel), Or.inl rfl⟩, fun q h => by cases h; exact ⟨rfl, rfl⟩⟩, rfl⟩
  · exact ⟨⟨⟨(RX9, TX9, 9), RX7, rfl, by decide, am_gt_in (List.mem_of_getElem? (i := 540) (by decide +kernel)) (by decide +kernel), Or.inl rfl⟩, fun q h => by cases h; exact ⟨rfl, rfl⟩⟩, rfl⟩
theorem ff_RX7_22_p235679 : ∀ ci ∈ [2, 3, 5, 6, 7, 9], am_fi RX7 22 ci 4 ∧ am_ty ci 4 = .int := fun ci hc => by
  simp only [List.mem_cons, List.not_mem_nil, or_false] at hc
  rcases hc with rfl | rfl | rfl | rfl | rfl | rfl
  · exact ⟨⟨⟨(RX2, TX2, 9), RX7, rfl, by decide, am_gt_in (List.mem_of_getElem? (i := 542) (by decide +kernel)) (by decide +kernel), Or.inl rfl⟩, fun q h => by cases h; exact ⟨rfl, rfl⟩⟩, rfl⟩
  · exact ⟨⟨⟨(RX3, TX3, 9), RX7, rfl, by decide, am_gt_in (List.mem_of_getElem? (i := 542) (by decide +kernel)) (by decide +kernel), Or.inl rfl⟩, fun q h => by cases h; exact ⟨rfl, rfl⟩⟩, rfl⟩
  · exact ⟨⟨⟨(RX5, TX5, 9), RX7, rfl, by decide, am_gt_in (List.mem_of_getElem? (i := 542) (by decide +kernel)) (by decide +kernel), Or.inl rfl⟩, fun q h => by cases h; exact ⟨rfl, rfl⟩⟩, rfl⟩
  · exact ⟨⟨⟨(RX6, TX6, 9), RX7, rfl, by decide, am_gt_in (List.mem_of_getElem? (i := 542) (by decide +kernel)) (by decide +kernel), Or.inl rfl⟩, fun q h => by cases h; exact ⟨rfl, rfl⟩⟩, rfl⟩
  · exact ⟨⟨⟨(RX7, TX7, 9), RX7, rfl, by decide, am_gt_in (List.mem_of_getElem? (i := 542) (by decide +kernel)) (by decide +kernel), Or.inl rfl⟩, fun q h => by cases h; exact ⟨rfl, rfl⟩⟩, rfl⟩
  · exact ⟨⟨⟨(RX9, TX9, 9), RX7, rfl, by decide, am_gt_in (List.mem_of_getElem? (i := 542) (by decide +kernel)) (by decide +kernel), Or.inl rfl⟩, fun q h => by cases h; exact ⟨rfl, rfl⟩⟩, rfl⟩
theorem ff_RX7_7_p235679 : ∀ ci ∈ [2, 3, 5, 6, 7, 9], am_fi RX7 7 ci 0 ∧ am_ty ci 0 = .int := fun ci hc => by
  simp only [List.mem_cons, List.not_mem_nil, or_false] at hc
  rcases hc with rfl | rfl | rfl | rfl | rfl | rfl
  · exact ⟨⟨⟨(RX2, TX2, 9), RX7, rfl, by decide, am_gt_in (List.mem_of_getElem? (i := 526) (by decide +kernel)) (by decide +kernel), Or.inl rfl⟩, fun q h => by cases h; exact ⟨rfl, rfl⟩⟩, rfl⟩
  · exact ⟨⟨⟨(RX3, TX3, 9), RX7, rfl, by decide, am_gt_in (List.mem_of_getElem? (i := 526) (by decide +kernel)) (by decide +kernel), Or.inl rfl⟩, fun q h => by cases h; exact ⟨rfl, rfl⟩⟩, rfl⟩
  · exact ⟨⟨⟨(RX5, TX5, 9), RX7, rfl, by decide, am_gt_in (List.mem_of_getElem? (i := 526) (by decide +kernel)) (by decide +kernel), Or.inl rfl⟩, fun q h => by cases h; exact ⟨rfl, rfl⟩⟩, rfl⟩
  · exact ⟨⟨⟨(RX6, TX6, 9), RX7, rfl, by decide, am_gt_in (List.mem_of_getElem? (i := 526) (by decide +kernel)) (by decide +kernel), Or.inl rfl⟩, fun q h => by cases h; exact ⟨rfl, rfl⟩⟩, rfl⟩
  · exact ⟨⟨⟨(RX7, TX7, 9), RX7, rfl, by decide, am_gt_in (List.mem_of_getElem? (i := 526) (by decide +kernel)) (by decide +kernel), Or.inl rfl⟩, fun q h => by cases h; exact ⟨rfl, rfl⟩⟩, rfl⟩
  · exact ⟨⟨⟨(RX9, TX9, 9), RX7, rfl, by decide, am_gt_in (List.mem_of_getElem? (i := 526) (by decide +kernel)) (by decide +kernel), Or.inl rfl⟩, fun q h => by cases h; exact ⟨rfl, rfl⟩⟩, rfl⟩
theorem fr_RX0_13_0 : am_fr RX0 13 0 4 := ⟨(RX0, TX0, 6), RX0, rfl, by decide, am_gt_in (List.mem_of_getElem? (i := 158) (by decide +kernel)) (by decide +kernel), Or.inl rfl⟩
theorem fr_RX0_16_0 : am_fr RX0 16 0 5 := ⟨(RX0, TX0, 6), RX0, rfl, by decide, am_gt_in (List.mem_of_getElem? (i := 159) (by decide +kernel)) (by decide +kernel), Or.inl rfl⟩
theorem fr_RX0_22_p8 : ∀ ci ∈ [8], am_fr RX0 22 ci 1 ∧ am_kd (am_ty ci 1) = 0 := fun ci hc => by
  simp only [List.mem_cons, List.not_mem_nil, or_false] at hc
  subst hc
  exact ⟨⟨(RX8, TX8, 3), RX8, rfl, by decide, am_gt_in (List.mem_of_getElem? (i := 203) (by decide +kernel)) (by decide +kernel), Or.inl rfl⟩, rfl⟩
theorem fr_RX0_32_0 : am_fr RX0 32 0 0 := ⟨(RX0, TX0, 6), RX0, rfl, by decide, am_gt_in (List.mem_of_getElem? (i := 154) (by decide +kernel)) (by decide +kernel), Or.inl rfl⟩
theorem fr_RX0_35_0 : am_fr RX0 35 0 2 := ⟨(RX0, TX0, 6), RX0, rfl, by decide, am_gt_in (List.mem_of_getElem? (i := 156) (by decide +kernel)) (by decide +kernel), Or.inl rfl⟩
theorem fr_RX0_38_0 : am_fr RX0 38 0 1 := ⟨(RX0, TX0, 6), RX0, rfl, by decide, am_gt_in (List.mem_of_getElem? (i := 155) (by decide +kernel)) (by decide +kernel), Or.inl rfl⟩
theorem fr_RX0_9_0 : am_fr RX0 9 0 3 := ⟨(RX0, TX0, 6), RX0, rfl, by decide, am_gt_in (List.mem_of_getElem? (i := 157) (by decide +kernel)) (by decide +kernel), Or.inl rfl⟩
theorem fr_RX10_116_10 : am_fr RX10 116 10 5 := ⟨(RX10, TX10, 13), RX10, rfl, by decide, am_gt_in (List.mem_of_getElem? (i := 111) (by decide +kernel)) (by decide +kernel), Or.inl rfl⟩
theorem fr_RX10_11_10 : am_fr RX10 11 10 0 := ⟨(RX10, TX10, 13), RX10, rfl, by decide, am_gt_in (List.mem_of_getElem? (i := 103) (by decide +kernel)) (by decide +kernel), Or.inl rfl⟩
theorem fr_RX10_15_10 : am_fr RX10 15 10 2 := ⟨(RX10, TX10, 13), RX10, rfl, by decide, am_gt_in (List.mem_of_getElem? (i := 106) (by decide +kernel)) (by decide +kernel), Or.inl rfl⟩
theorem fr_RX10_19_10 : am_fr RX10 19 10 3 := ⟨(RX10, TX10, 13), RX10, rfl, by decide, am_gt_in (List.mem_of_getElem? (i := 107) (by decide +kernel)) (by decide +kernel), Or.inl rfl⟩
theorem fr_RX10_22_10 : am_fr RX10 22 10 6 := ⟨(RX10, TX10, 13), RX10, rfl, by decide, am_gt_in (List.mem_of_getElem? (i := 112) (by decide +kernel)) (by decide +kernel), Or.inl rfl⟩
theorem fr_RX10_25_10 : am_fr RX10 25 10 1 := ⟨(RX10, TX10, 13), RX10, rfl, by decide, am_gt_in (List.mem_of_getElem? (i := 104) (by decide +kernel)) (by decide +kernel), Or.inl rfl⟩
theorem fr_RX10_43_10 : am_fr RX10 43 10 4 := ⟨(RX10, TX10, 13), RX10, rfl, by decide, am_gt_in (List.mem_of_getElem? (i := 108) (by decide +kernel)) (by decide +kernel), Or.inl rfl⟩
theorem fr_RX10_46_10 : am_fr RX10 46 10 7 := ⟨(RX10, TX10, 13), RX10, rfl, by decide, am_gt_in (List.mem_of_getElem? (i := 113) (by decide +kernel)) (by decide +kernel), Or.inl rfl⟩
theorem fr_RX10_48_10 : am_fr RX10 48 10 8 := ⟨(RX10, TX10, 13), RX10, rfl, by decide, am_gt_in (List.mem_of_getElem? (i := 114) (by decide +kernel)) (by decide +kernel), Or.inl rfl⟩
theorem fr_RX10_51_10 : am_fr RX10 51 10 12 := ⟨(RX10, TX10, 13), RX10, rfl, by decide, am_gt_in (List.mem_of_getElem? (i := 118) (by decide +kernel)) (by decide +kernel), Or.inl rfl⟩
theorem fr_RX10_68_10 : am_fr RX10 68 10 10 := ⟨(RX10, TX10, 13), RX10, rfl, by decide, am_gt_in (List.mem_of_getElem? (i := 116) (by decide +kernel)) (by decide +kernel), Or.inl rfl⟩
theorem fr_RX10_83_10 : am_fr RX10 83 10 11 := ⟨(RX10, TX10, 13), RX10, rfl, by decide, am_gt_in (List.mem_of_getElem? (i := 117) (by decide +kernel)) (by decide +kernel), Or.inl rfl⟩
theorem fr_RX10_90_10 : am_fr RX10 90 10 9 := ⟨(RX10, TX10, 13), RX10, rfl, by decide, am_gt_in (List.mem_of_getElem? (i := 115) (by decide +kernel)) (by decide +kernel), Or.inl rfl⟩
theorem fr_RX11_100_11 : am_fr RX11 100 11 0 := ⟨(RX11, TX11, 18), RX11, rfl, by decide, am_gt_in (List.mem_of_getElem? (i := 390) (by decide +kernel)) (by decide +kernel), Or.inl rfl⟩
theorem fr_RX11_103_11 : am_fr RX11 103 11 1 := ⟨(RX11, TX11, 18), RX11, rfl, by decide, am_gt_in (List.mem_of_getElem? (i := 391) (by decide +kernel)) (by decide +kernel), Or.inl rfl⟩
theorem fr_RX11_110_11 : am_fr RX11 110 11 5 := ⟨(RX11, TX11, 18), RX11, rfl, by decide, am_gt_in (List.mem_of_getElem? (i := 395) (by decide +kernel)) (by decide +kernel), Or.inl rfl⟩
theorem fr_RX11_11_11 : am_fr RX11 11 11 2 := ⟨(RX11, TX11, 18), RX11, rfl, by decide, am_gt_in (List.mem_of_getElem? (i := 392) (by decide +kernel)) (by decide +kernel), Or.inl rfl⟩
theorem fr_RX11_135_p235679 : ∀ ci ∈ [2, 3, 5, 6, 7, 9], am_fr RX11 135 ci 5 ∧ am_kd (am_ty ci 5) = 0 := fun ci hc => by
  simp only [List.mem_cons, List.not_mem_nil, or_false] at hc
  rcases hc with rfl | rfl | rfl | rfl | rfl | rfl
  · exact ⟨⟨(RX2, TX2, 9), RX7, rfl, by decide, am_gt_in (List.mem_of_getElem? (i := 545) (by decide +kernel)) (by decide +kernel), Or.inl rfl⟩, rfl⟩
  · exact ⟨⟨(RX3, TX3, 9), RX7, rfl, by decide, am_gt_in (List.mem_of_getElem? (i := 545) (by decide +kernel)) (by decide +kernel), Or.inl rfl⟩, rfl⟩
  · exact ⟨⟨(RX5, TX5, 9), RX7, rfl, by decide, am_gt_in (List.mem_of_getElem? (i := 545) (by decide +kernel)) (by decide +kernel), Or.inl rfl⟩, rfl⟩
  · exact ⟨⟨(RX6, TX6, 9), RX7, rfl, by decide, am_gt_in (List.mem_of_getElem? (i := 545) (by decide +kernel)) (by decide +kernel), Or.inl rfl⟩, rfl⟩
  · exact ⟨⟨(RX7, TX7, 9), RX7, rfl, by decide, am_gt_in (List.mem_of_getElem? (i := 545) (by decide +kernel)) (by decide +kernel), Or.inl rfl⟩, rfl⟩
  · exact ⟨⟨(RX9, TX9, 9), RX7, rfl, by decide, am_gt_in (List.mem_of_getElem? (i := 545) (by decide +kernel)) (by decide +kernel), Or.inl rfl⟩, rfl⟩
theorem fr_RX11_142_p235679 : ∀ ci ∈ [2, 3, 5, 6, 7, 9], am_fr RX11 142 ci 0 ∧ am_kd (am_ty ci 0) = 0 := fun ci hc => by
  simp only [List.mem_cons, List.not_mem_nil, or_false] at hc
  rcases hc with rfl | rfl | rfl | rfl | rfl | rfl
  · exact ⟨⟨(RX2, TX2, 9), RX7, rfl, by decide, am_gt_in (List.mem_of_getElem? (i := 527) (by decide +kernel)) (by decide +kernel), Or.inl rfl⟩, rfl⟩
  · exact ⟨⟨(RX3, TX3, 9), RX7, rfl, by decide, am_gt_in (List.mem_of_getElem? (i := 527) (by decide +kernel)) (by decide +kernel), Or.inl rfl⟩, rfl⟩
  · exact ⟨⟨(RX5, TX5, 9), RX7, rfl, by decide, am_gt_in (List.mem_of_getElem? (i := 527) (by decide +kernel)) (by decide +kernel), Or.inl rfl⟩, rfl⟩
  · exact ⟨⟨(RX6, TX6, 9), RX7, rfl, by decide, am_gt_in (List.mem_of_getElem? (i := 527) (by decide +kernel)) (by decide +kernel), Or.inl rfl⟩, rfl⟩
  · exact ⟨⟨(RX7, TX7, 9), RX7, rfl, by decide, am_gt_in (List.mem_of_getElem? (i := 527) (by decide +kernel)) (by decide +kernel), Or.inl rfl⟩, rfl⟩
  · exact ⟨⟨(RX9, TX9, 9), RX7, rfl, by decide, am_gt_in (List.mem_of_getElem? (i := 527) (by decide +kernel)) (by decide +kernel), Or.inl rfl⟩, rfl⟩
theorem fr_RX11_145_p235679 : ∀ ci ∈ [2, 3, 5, 6, 7, 9], am_fr RX11 145 ci 1 ∧ am_kd (am_ty ci 1) = 0 := fun ci hc => by
  simp only [List.mem_cons, List.not_mem_nil, or_false] at hc
  rcases hc with rfl | rfl | rfl | rfl | rfl | rfl
  · exact ⟨⟨(RX2, TX2, 9), RX7, rfl, by decide, am_gt_in (List.mem_of_getElem? (i := 533) (by decide +kernel)) (by decide +kernel), Or.inl rfl⟩, rfl⟩
  · exact ⟨⟨(RX3, TX3, 9), RX7, rfl, by decide, am_gt_in (List.mem_of_getElem? (i := 533) (by decide +kernel)) (by decide +kernel), Or.inl rfl⟩, rfl⟩
  · exact ⟨⟨(RX5, TX5, 9), RX7, rfl, by decide, am_gt_in (List.mem_of_getElem? (i := 533) (by decide +kernel)) (by decide +kernel), Or.inl rfl⟩, rfl⟩
  · exact ⟨⟨(RX6, TX6, 9), RX7, rfl, by decide, am_gt_in (List.mem_of_getElem? (i := 533) (by decide +kernel)) (by decide +kernel), Or.inl rfl⟩, rfl⟩
  · exact ⟨⟨(RX7, TX7, 9), RX7, rfl, by decide, am_gt_in (List.mem_of_getElem? (i := 533) (by decide +kernel)) (by decide +kernel), Or.inl rfl⟩, rfl⟩
  · exact ⟨⟨(RX9, TX9, 9), RX7, rfl, by decide, am_gt_in (List.mem_of_getElem? (i := 533) (by decide +kernel)) (by decide +kernel), Or.inl rfl⟩, rfl⟩
theorem fr_RX11_148_p235679 : ∀ ci ∈ [2, 3, 5, 6, 7, 9], am_fr RX11 148 ci 2 ∧ am_kd (am_ty ci 2) = 0 := fun ci hc => by
  simp only [List.mem_cons, List.not_mem_nil, or_false] at hc
  rcases hc with rfl | rfl | rfl | rfl | rfl | rfl
  · exact ⟨⟨(RX2, TX2, 9), RX7, rfl, by decide, am_gt_in (List.mem_of_getElem? (i := 539) (by decide +kernel)) (by decide +kernel), Or.inl rfl⟩, rfl⟩
  · exact ⟨⟨(RX3, TX3, 9), RX7, rfl, by decide, am_gt_in (List.mem_of_getElem? (i := 539) (by decide +kernel)) (by decide +kernel), Or.inl rfl⟩, rfl⟩
  · exact ⟨⟨(RX5, TX5, 9), RX7, rfl, by decide, am_gt_in (List.mem_of_getElem? (i := 539) (by decide +kernel)) (by decide +kernel), Or.inl rfl⟩, rfl⟩
  · exact ⟨⟨(RX6, TX6, 9), RX7, rfl, by decide, am_gt_in (List.mem_of_getElem? (i := 539) (by decide +kernel)) (by decide +kernel), Or.inl rfl⟩, rfl⟩
  · exact ⟨⟨(RX7, TX7, 9), RX7, rfl, by decide, am_gt_in (List.mem_of_getElem? (i := 539) (by decide +kernel)) (by decide +kernel), Or.inl rfl⟩, rfl⟩
  · exact ⟨⟨(RX9, TX9, 9), RX7, rfl, by decide, am_gt_in (List.mem_of_getElem? (i := 539) (by decide +kernel)) (by decide +kernel), Or.inl rfl⟩, rfl⟩
theorem fr_RX11_151_p235679 : ∀ ci ∈ [2, 3, 5, 6, 7, 9], am_fr RX11 151 ci 3 ∧ am_kd (am_ty ci 3) = 0 := fun ci hc => by
  simp only [List.mem_cons, List.not_mem_nil, or_false] at hc
  rcases hc with rfl | rfl | rfl | rfl | rfl | rfl
  · exact ⟨⟨(RX2, TX2, 9), RX7, rfl, by decide, am_gt_in (List.mem_of_getElem? (i := 541) (by decide +kernel)) (by decide +kernel), Or.inl rfl⟩, rfl⟩
  · exact ⟨⟨(RX3, TX3, 9), RX7, rfl, by decide, am_gt_in (List.mem_of_getElem? (i := 541) (by decide +kernel)) (by decide +kernel), Or.inl rfl⟩, rfl⟩
  · exact ⟨⟨(RX5, TX5, 9), RX7, rfl, by decide, am_gt_in (List.mem_of_getElem? (i := 541) (by decide +kernel)) (by decide +kernel), Or.inl rfl⟩, rfl⟩
  · exact ⟨⟨(RX6, TX6, 9), RX7, rfl, by decide, am_gt_in (List.mem_of_getElem? (i := 541) (by decide +kernel)) (by decide +kernel), Or.inl rfl⟩, rfl⟩
  · exact ⟨⟨(RX7, TX7, 9), RX7, rfl, by decide, am_gt_in (List.mem_of_getElem? (i := 541) (by decide +kernel)) (by decide +kernel), Or.inl rfl⟩, rfl⟩
  · exact ⟨⟨(RX9, TX9, 9), RX7, rfl, by decide, am_gt_in (List.mem_of_getElem? (i := 541) (by decide +kernel)) (by decide +kernel), Or.inl rfl⟩, rfl⟩
theorem fr_RX11_154_p235679 : ∀ ci ∈ [2, 3, 5, 6, 7, 9], am_fr RX11 154 ci 4 ∧ am_kd (am_ty ci 4) = 0 := fun ci hc => by
  simp only [List.mem_cons, List.not_mem_nil, or_false] at hc
  rcases hc with rfl | rfl | rfl | rfl | rfl | rfl
  · exact ⟨⟨(RX2, TX2, 9), RX7, rfl, by decide, am_gt_in (List.mem_of_getElem? (i := 543) (by decide +kernel)) (by decide +kernel), Or.inl rfl⟩, rfl⟩
  · exact ⟨⟨(RX3, TX3, 9), RX7, rfl, by decide, am_gt_in (List.mem_of_getElem? (i := 543) (by decide +kernel)) (by decide +kernel), Or.inl rfl⟩, rfl⟩
  · exact ⟨⟨(RX5, TX5, 9), RX7, rfl, by decide, am_gt_in (List.mem_of_getElem? (i := 543) (by decide +kernel)) (by decide +kernel), Or.inl rfl⟩, rfl⟩
  · exact ⟨⟨(RX6, TX6, 9), RX7, rfl, by decide, am_gt_in (List.mem_of_getElem? (i := 543) (by decide +kernel)) (by decide +kernel), Or.inl rfl⟩, rfl⟩
  · exact ⟨⟨(RX7, TX7, 9), RX7, rfl, by decide, am_gt_in (List.mem_of_getElem? (i := 543) (by decide +kernel)) (by decide +kernel), Or.inl rfl⟩, rfl⟩
  · exact ⟨⟨(RX9, TX9, 9), RX7, rfl, by decide, am_gt_in (List.mem_of_getElem? (i := 543) (by decide +kernel)) (by decide +kernel), Or.inl rfl⟩, rfl⟩
theorem fr_RX11_157_p235679 : ∀ ci ∈ [2, 3, 5, 6, 7, 9], am_fr RX11 157 ci 6 ∧ am_kd (am_ty ci 6) = 0 := fun ci hc => by
  simp only [List.mem_cons, List.not_mem_nil, or_false] at hc
  rcases hc with rfl | rfl | rfl | rfl | rfl | rfl
  · exact ⟨⟨(RX2, TX2, 9), RX7, rfl, by decide, am_gt_in (List.mem_of_getElem? (i := 547) (by decide +kernel)) (by decide +kernel), Or.inl rfl⟩, rfl⟩
  · exact ⟨⟨(RX3, TX3, 9), RX7, rfl, by decide, am_gt_in (List.mem_of_getElem? (i := 547) (by decide +kernel)) (by decide +kernel), Or.inl rfl⟩, rfl⟩
  · exact ⟨⟨(RX5, TX5, 9), RX7, rfl, by decide, am_gt_in (List.mem_of_getElem? (i := 547) (by decide +kernel)) (by decide +kernel), Or.inl rfl⟩, rfl⟩
  · exact ⟨⟨(RX6, TX6, 9), RX7, rfl, by decide, am_gt_in (List.mem_of_getElem? (i := 547) (by decide +kernel)) (by decide +kernel), Or.inl rfl⟩, rfl⟩
  · exact ⟨⟨(RX7, TX7, 9), RX7, rfl, by decide, am_gt_in (List.mem_of_getElem? (i := 547) (by decide +kernel)) (by decide +kernel), Or.inl rfl⟩, rfl⟩
  · exact ⟨⟨(RX9, TX9, 9), RX7, rfl, by decide, am_gt_in (List.mem_of_getElem? (i := 547) (by decide +kernel)) (by decide +kernel), Or.inl rfl⟩, rfl⟩
theorem fr_RX11_177_10 : am_fr RX11 177 10 4 := ⟨(RX10, TX10, 13), RX10, rfl, by decide, am_gt_in (List.mem_of_getElem? (i := 109) (by decide +kernel)) (by decide +kernel), Or.inl rfl⟩
theorem fr_RX11_17_11 : am_fr RX11 17 11 4 := ⟨(RX11, TX11, 18), RX11, rfl, by decide, am_gt_in (List.mem_of_getElem? (i := 394) (by decide +kernel)) (by decide +kernel), Or.inl rfl⟩
theorem fr_RX11_180_10 : am_fr RX11 180 10 5 := ⟨(RX10, TX10, 13), RX10, rfl, by decide, am_gt_in (List.mem_of_getElem? (i := 110) (by decide +kernel)) (by decide +kernel), Or.inl rfl⟩
theorem fr_RX11_197_p1 : ∀ ci ∈ [1], am_fr RX11 197 ci 0 ∧ am_kd (am_ty ci 0) = 0 := fun ci hc => by
  simp only [List.mem_cons, List.not_mem_nil, or_false] at hc
  subst hc
  exact ⟨⟨(RX1, TX1, 6), RX1, rfl, by decide, am_gt_in (List.mem_of_getElem? (i := 461) (by decide +kernel)) (by decide +kernel), Or.inl rfl⟩, rfl⟩
theorem fr_RX11_237_p8 : ∀ ci ∈ [8], am_fr RX11 237 ci 1 ∧ am_kd (am_ty ci 1) = 0 := fun ci hc => by
  simp only [List.mem_cons, List.not_mem_nil, or_false] at hc
  subst hc
  exact ⟨⟨(RX8, TX8, 3), RX8, rfl, by decide, am_gt_in (List.mem_of_getElem? (i := 204) (by decide +kernel)) (by decide +kernel), Or.inl rfl⟩, rfl⟩
theorem fr_RX11_24_11 : am_fr RX11 24 11 6 := ⟨(RX11, TX11, 18), RX11, rfl, by decide, am_gt_in (List.mem_of_getElem? (i := 396) (by decide +kernel)) (by decide +kernel), Or.inl rfl⟩
theorem fr_RX11_259_p1 : ∀ ci ∈ [1], am_fr RX11 259 ci 3 ∧ am_kd (am_ty ci 3) = 0 := fun ci hc => by
  simp only [List.mem_cons, List.not_mem_nil, or_false] at hc
  subst hc
  exact ⟨⟨(RX1, TX1, 6), RX1, rfl, by decide, am_gt_in (List.mem_of_getElem? (i := 468) (by decide +kernel)) (by decide +kernel), Or.inl rfl⟩, rfl⟩
theorem fr_RX11_28_11 : am_fr RX11 28 11 7 := ⟨(RX11, TX11, 18), RX11, rfl, by decide, am_gt_in (List.mem_of_getElem? (i := 397) (by decide +kernel)) (by decide +kernel), Or.inl rfl⟩
theorem fr_RX11_300_11 : am_fr RX11 300 11 13 := ⟨(RX11, TX11, 18), RX11, rfl, by decide, am_gt_in (List.mem_of_getElem? (i := 403) (by decide +kernel)) (by decide +kernel), Or.inl rfl⟩
theorem fr_RX11_303_11 : am_fr RX11 303 11 14 := ⟨(RX11, TX11, 18), RX11, rfl, by decide, am_gt_in (List.mem_of_getElem? (i := 404) (by decide +kernel)) (by decide +kernel), Or.inl rfl⟩
theorem fr_RX11_306_11 : am_fr RX11 306 11 15 := ⟨(RX11, TX11, 18), RX11, rfl, by decide, am_gt_in (List.mem_of_getElem? (i := 405) (by decide +kernel)) (by decide +kernel), Or.inl rfl⟩
theorem fr_RX11_309_11 : am_fr RX11 309 11 16 := ⟨(RX11, TX11, 18), RX11, rfl, by decide, am_gt_in (List.mem_of_getElem? (i := 406) (by decide +kernel)) (by decide +kernel), Or.inl rfl⟩
theorem fr_RX11_312_11 : am_fr RX11 312 11 17 := ⟨(RX11, TX11, 18), RX11, rfl, by decide, am_gt_in (List.mem_of_getElem? (i := 407) (by decide +kernel)) (by decide +kernel), Or.inl rfl⟩
theorem fr_RX11_320_11 : am_fr RX11 320 11 12 := ⟨(RX11, TX11, 18), RX11, rfl, by decide, am_gt_in (List.mem_of_getElem? (i := 402) (by decide +kernel)) (by decide +kernel), Or.inl rfl⟩
theorem fr_RX11_338_10 : am_fr RX11 338 10 1 := ⟨(RX10, TX10, 13), RX10, rfl, by decide, am_gt_in (List.mem_of_getElem? (i := 105) (by decide +kernel)) (by decide +kernel), Or.inl rfl⟩
theorem fr_RX11_339_p1 : ∀ ci ∈ [1], am_fr RX11 339 ci 2 ∧ am_kd (am_ty ci 2) = 0 := fun ci hc => by
  simp only [List.mem_cons, List.not_mem_nil, or_false] at hc
  subst hc
  exact ⟨⟨(RX1, TX1, 6), RX1, rfl, by decide, am_gt_in (List.mem_of_getElem? (i := 466) (by decide +kernel)) (by decide +kernel), Or.inl rfl⟩, rfl⟩
theorem fr_RX11_348_p8 : ∀ ci ∈ [8], am_fr RX11 348 ci 0 ∧ am_kd (am_ty ci 0) = 0 := fun ci hc => by
  simp only [List.mem_cons, List.not_mem_nil, or_false] at hc
  subst hc
  exact ⟨⟨(RX8, TX8, 3), RX8, rfl, by decide, am_gt_in (List.mem_of_getElem? (i := 201) (by decide +kernel)) (by decide +kernel), Or.inl rfl⟩, rfl⟩
theorem fr_RX11_354_p8 : ∀ ci ∈ [8], am_fr RX11 354 ci 2 ∧ am_kd (am_ty ci 2) = 2 := fun ci hc => by
  simp only [List.mem_cons, List.not_mem_nil, or_false] at hc
  subst hc
  exact ⟨⟨(RX8, TX8, 3), RX8, rfl, by decide, am_gt_in (List.mem_of_getElem? (i := 206) (by decide +kernel)) (by decide +kernel), Or.inl rfl⟩, rfl⟩
theorem fr_RX11_35_11 : am_fr RX11 35 11 8 := ⟨(RX11, TX11, 18), RX11, rfl, by decide, am_gt_in (List.mem_of_getElem? (i := 398) (by decide +kernel)) (by decide +kernel), Or.inl rfl⟩
theorem fr_RX11_42_11 : am_fr RX11 42 11 9 := ⟨(RX11, TX11, 18), RX11, rfl, by decide, am_gt_in (List.mem_of_getElem? (i := 399) (by decide +kernel)) (by decide +kernel), Or.inl rfl⟩
theorem fr_RX11_48_11 : am_fr RX11 48 11 10 := ⟨(RX11, TX11, 18), RX11, rfl, by decide, am_gt_in (List.mem_of_getElem? (i := 400) (by decide +kernel)) (by decide +kernel), Or.inl rfl⟩
theorem fr_RX11_52_11 : am_fr RX11 52 11 11 := ⟨(RX11, TX11, 18), RX11, rfl, by decide, am_gt_in (List.mem_of_getElem? (i := 401) (by decide +kernel)) (by decide +kernel), Or.inl rfl⟩
theorem fr_RX11_74_11 : am_fr RX11 74 11 3 := ⟨(RX11, TX11, 18), RX11, rfl, by decide, am_gt_in (List.mem_of_getElem? (i := 393) (by decide +kernel)) (by decide +kernel), Or.inl rfl⟩
theorem fr_RX12_102_12 : am_fr RX12 102 12 56 := ⟨(RX12, TX12, 58), RX12, rfl, by decide, am_gt_in (List.mem_of_getElem? (i := 1162) (by decide +kernel)) (by decide +kernel), Or.inl rfl⟩
theorem fr_RX12_105_12 : am_fr RX12 105 12 57 := ⟨(RX12, TX12, 58), RX12, rfl, by decide, am_gt_in (List.mem_of_getElem? (i := 1163) (by decide +kernel)) (by decide +kernel), Or.inl rfl⟩
theorem fr_RX12_126_12 : am_fr RX12 126 12 3 := ⟨(RX12, TX12, 58), RX12, rfl, by decide, am_gt_in (List.mem_of_getElem? (i := 1109) (by decide +kernel)) (by decide +kernel), Or.inl rfl⟩
theorem fr_RX12_131_12 : am_fr RX12 131 12 11 := ⟨(RX12, TX12, 58), RX12, rfl, by decide, am_gt_in (List.mem_of_getElem? (i := 1117) (by decide +kernel)) (by decide +kernel), Or.inl rfl⟩
theorem fr_RX12_138_12 : am_fr RX12 138 12 21 := ⟨(RX12, TX12, 58), RX12, rfl, by decide, am_gt_in (List.mem_of_getElem? (i := 1127) (by decide +kernel)) (by decide +kernel), Or.inl rfl⟩
theorem fr_RX12_13_12 : am_fr RX12 13 12 1 := ⟨(RX12, TX12, 58), RX12, rfl, by decide, am_gt_in (List.mem_of_getElem? (i := 1107) (by decide +kernel)) (by decide +kernel), Or.inl rfl⟩
theorem fr_RX12_153_12 : am_fr RX12 153 12 12 := ⟨(RX12, TX12, 58), RX12, rfl, by decide, am_gt_in (List.mem_of_getElem? (i := 1118) (by decide +kernel)) (by decide +kernel), Or.inl rfl⟩
theorem fr_RX12_156_12 : am_fr RX12 156 12 13 := ⟨(RX12, TX12, 58), RX12, rfl, by decide, am_gt_in (List.mem_of_getElem? (i := 1119) (by decide +kernel)) (by decide +kernel), Or.inl rfl⟩
theorem fr_RX12_17_12 : am_fr RX12 17 12 2 := ⟨(RX12, TX12, 58), RX12, rfl, by decide, am_gt_in (List.mem_of_getElem? (i := 1108) (by decide +kernel)) (by decide +kernel), Or.inl rfl⟩
theorem fr_RX12_200_12 : am_fr RX12 200 12 6 := ⟨(RX12, TX12, 58), RX12, rfl, by decide, am_gt_in (List.mem_of_getElem? (i := 1112) (by decide +kernel)) (by decide +kernel), Or.inl rfl⟩
theorem fr_RX12_203_12 : am_fr RX12 203 12 23 := ⟨(RX12, TX12, 58), RX12, rfl, by decide, am_gt_in (List.mem_of_getElem? (i := 1129) (by decide +kernel)) (by decide +kernel), Or.inl rfl⟩
theorem fr_RX12_206_12 : am_fr RX12 206 12 22 := ⟨(RX12, TX12, 58), RX12, rfl, by decide, am_gt_in (List.mem_of_getElem? (i := 1128) (by decide +kernel)) (by decide +kernel), Or.inl rfl⟩
theorem fr_RX12_209_12 : am_fr RX12 209 12 27 := ⟨(RX12, TX12, 58), RX12, rfl, by decide, am_gt_in (List.mem_of_getElem? (i := 1133) (by decide +kernel)) (by decide +kernel), Or.inl rfl⟩
theorem fr_RX12_20_12 : am_fr RX12 20 12 5 := ⟨(RX12, TX12, 58), RX12, rfl, by decide, am_gt_in (List.mem_of_getElem? (i := 1111) (by decide +kernel)) (by decide +kernel), Or.inl rfl⟩
theorem fr_RX12_215_12 : am_fr RX12 215 12 25 := ⟨(RX12, TX12, 58), RX12, rfl, by decide, am_gt_in (List.mem_of_getElem? (i := 1131) (by decide +kernel)) (by decide +kernel), Or.inl rfl⟩
theorem fr_RX12_218_12 : am_fr RX12 218 12 24 := ⟨(RX12, TX12, 58), RX12, rfl, by decide, am_gt_in (List.mem_of_getElem? (i := 1130) (by decide +kernel)) (by decide +kernel), Or.inl rfl⟩
theorem fr_RX12_225_12 : am_fr RX12 225 12 26 := ⟨(RX12, TX12, 58), RX12, rfl, by decide, am_gt_in (List.mem_of_getElem? (i := 1132) (by decide +kernel)) (by decide +kernel), Or.inl rfl⟩
theorem fr_RX12_23_12 : am_fr RX12 23 12 7 := ⟨(RX12, TX12, 58), RX12, rfl, by decide, am_gt_in (List.mem_of_getElem? (i := 1113) (by decide +kernel)) (by decide +kernel), Or.inl rfl⟩
theorem fr_RX12_241_12 : am_fr RX12 241 12 29 := ⟨(RX12, TX12, 58), RX12, rfl, by decide, am_gt_in (List.mem_of_getElem? (i := 1135) (by decide +kernel)) (by decide +kernel), Or.inl rfl⟩
theorem fr_RX12_245_12 : am_fr RX12 245 12 30 := ⟨(RX12, TX12, 58), RX12, rfl, by decide, am_gt_in (List.mem_of_getElem? (i := 1136) (by decide +kernel)) (by decide +kernel), Or.inl rfl⟩
theorem fr_RX12_248_12 : am_fr RX12 248 12 28 := ⟨(RX12, TX12, 58), RX12, rfl, by decide, am_gt_in (List.mem_of_getElem? (i := 1134) (by decide +kernel)) (by decide +kernel), Or.inl rfl⟩
theorem fr_RX12_263_12 : am_fr RX12 263 12 31 := ⟨(RX12, TX12, 58), RX12, rfl, by decide, am_gt_in (List.mem_of_getElem? (i := 1137) (by decide +kernel)) (by decide +kernel), Or.inl rfl⟩
theorem fr_RX12_26_12 : am_fr RX12 26 12 8 := ⟨(RX12, TX12, 58), RX12, rfl, by decide, am_gt_in (List.mem_of_getElem? (i := 1114) (by decide +kernel)) (by decide +kernel), Or.inl rfl⟩
theorem fr_RX12_272_12 : am_fr RX12 272 12 32 := ⟨(RX12, TX12, 58), RX12, rfl, by decide, am_gt_in (List.mem_of_getElem? (i := 1138) (by decide +kernel)) (by decide +kernel), Or.inl rfl⟩
theorem fr_RX12_277_12 : am_fr RX12 277 12 33 := ⟨(RX12, TX12, 58), RX12, rfl, by decide, am_gt_in (List.mem_of_getElem? (i := 1139) (by decide +kernel)) (by decide +kernel), Or.inl rfl⟩
theorem fr_RX12_282_12 : am_fr RX12 282 12 34 := ⟨(RX12, TX12, 58), RX12, rfl, by decide, am_gt_in (List.mem_of_getElem? (i := 1140) (by decide +kernel)) (by decide +kernel), Or.inl rfl⟩
theorem fr_RX12_29_12 : am_fr RX12 29 12 9 := ⟨(RX12, TX12, 58), RX12, rfl, by decide, am_gt_in (List.mem_of_getElem? (i := 1115) (by decide +kernel)) (by decide +kernel), Or.inl rfl⟩
theorem fr_RX12_32_12 : am_fr RX12 32 12 10 := ⟨(RX12, TX12, 58), RX12, rfl, by decide, am_gt_in (List.mem_of_getElem? (i := 1116) (by decide +kernel)) (by decide +kernel), Or.inl rfl⟩
theorem fr_RX12_332_12 : am_fr RX12 332 12 4 := ⟨(RX12, TX12, 58), RX12, rfl, by decide, am_gt_in (List.mem_of_getElem? (i := 1110) (by decide +kernel)) (by decide +kernel), Or.inl rfl⟩
theorem fr_RX12_35_12 : am_fr RX12 35 12 14 := ⟨(RX12, TX12, 58), RX12, rfl, by decide, am_gt_in (List.mem_of_getElem? (i := 1120) (by decide +kernel)) (by decide +kernel), Or.inl rfl⟩
theorem fr_RX12_38_12 : am_fr RX12 38 12 15 := ⟨(RX12, TX12, 58), RX12, rfl, by decide, am_gt_in (List.mem_of_getElem? (i := 1121) (by decide +kernel)) (by decide +kernel), Or.inl rfl⟩
theorem fr_RX12_404_12 : am_fr RX12 404 12 48 := ⟨(RX12, TX12, 58), RX12, rfl, by decide, am_gt_in (List.mem_of_getElem? (i := 1154) (by decide +kernel)) (by decide +kernel), Or.inl rfl⟩
theorem fr_RX12_407_12 : am_fr RX12 407 12 49 := ⟨(RX12, TX12, 58), RX12, rfl, by decide, am_gt_in (List.mem_of_getElem? (i := 1155) (by decide +kernel)) (by decide +kernel), Or.inl rfl⟩
theorem fr_RX12_410_12 : am_fr RX12 410 12 50 := ⟨(RX12, TX12, 58), RX12, rfl, by decide, am_gt_in (List.mem_of_getElem? (i := 1156) (by decide +kernel)) (by decide +kernel), Or.inl rfl⟩
theorem fr_RX12_413_12 : am_fr RX12 413 12 51 := ⟨(RX12, TX12, 58), RX12, rfl, by decide, am_gt_in (List.mem_of_getElem? (i := 1157) (by decide +kernel)) (by decide +kernel), Or.inl rfl⟩
theorem fr_RX12_416_12 : am_fr RX12 416 12 52 := ⟨(RX12, TX12, 58), RX12, rfl, by decide, am_gt_in (List.mem_of_getElem? (i := 1158) (by decide +kernel)) (by decide +kernel), Or.inl rfl⟩
theorem fr_RX12_419_12 : am_fr RX12 419 12 53 := ⟨(RX12, TX12, 58), RX12, rfl, by decide, am_gt_in (List.mem_of_getElem? (i := 1159) (by decide +kernel)) (by decide +kernel), Or.inl rfl⟩
theorem fr_RX12_41_12 : am_fr RX12 41 12 16 := ⟨(RX12, TX12, 58), RX12, rfl, by decide, am_gt_in (List.mem_of_getElem? (i := 1122) (by decide +kernel)) (by decide +kernel), Or.inl rfl⟩
theorem fr_RX12_44_12 : am_fr RX12 44 12 17 := ⟨(RX12, TX12, 58), RX12, rfl, by decide, am_gt_in (List.mem_of_getElem? (i := 1123) (by decide +kernel)) (by decide +kernel), Or.inl rfl⟩
theorem fr_RX12_47_12 : am_fr RX12 47 12 18 := ⟨(RX12, TX12, 58), RX12, rfl, by decide, am_gt_in (List.mem_of_getElem? (i := 1124) (by decide +kernel)) (by decide +kernel), Or.inl rfl⟩
theorem fr_RX12_50_12 : am_fr RX12 50 12 19 := ⟨(RX12, TX12, 58), RX12, rfl, by decide, am_gt_in (List.mem_of_getElem? (i := 1125) (by decide +kernel)) (by decide +kernel), Or.inl rfl⟩
theorem fr_RX12_53_12 : am_fr RX12 53 12 20 := ⟨(RX12, TX12, 58), RX12, rfl, by decide, am_gt_in (List.mem_of_getElem? (i := 1126) (by decide +kernel)) (by decide +kernel), Or.inl rfl⟩
theorem fr_RX12_56_12 : am_fr RX12 56 12 35 := ⟨(RX12, TX12, 58), RX12, rfl, by decide, am_gt_in (List.mem_of_getElem? (i := 1141) (by decide +kernel)) (by decide +kernel), Or.inl rfl⟩
theorem fr_RX12_59_12 : am_fr RX12 59 12 36 := ⟨(RX12, TX12, 58), RX12, rfl, by decide, am_gt_in (List.mem_of_getElem? (i := 1142) (by decide +kernel)) (by decide +kernel), Or.inl rfl⟩
theorem fr_RX12_62_12 : am_fr RX12 62 12 37 := ⟨(RX12, TX12, 58), RX12, rfl, by decide, am_gt_in (List.mem_of_getElem? (i := 1143) (by decide +kernel)) (by decide +kernel), Or.inl rfl⟩
theorem fr_RX12_65_12 : am_fr RX12 65 12 38 := ⟨(RX12, TX12, 58), RX12, rfl, by decide, am_gt_in (List.mem_of_getElem? (i := 1144) (by decide +kernel)) (by decide +kernel), Or.inl rfl⟩
theorem fr_RX12_68_12 : am_fr RX12 68 12 39 := ⟨(RX12, TX12, 58), RX12, rfl, by decide, am_gt_in (List.mem_of_getElem? (i := 1145) (by decide +kernel)) (by decide +kernel), Or.inl rfl⟩
theorem fr_RX12_71_12 : am_fr RX12 71 12 40 := ⟨(RX12, TX12, 58), RX12, rfl, by decide, am_gt_in (List.mem_of_getElem? (i := 1146) (by decide +kernel)) (by decide +kernel), Or.inl rfl⟩
theorem fr_RX12_74_12 : am_fr RX12 74 12 41 := ⟨(RX12, TX12, 58), RX12, rfl, by decide, am_gt_in (List.mem_of_getElem? (i := 1147) (by decide +kernel)) (by decide +kernel), Or.inl rfl⟩
theorem fr_RX12_77_12 : am_fr RX12 77 12 42 := ⟨(RX12, TX12, 58), RX12, rfl, by decide, am_gt_in (List.mem_of_getElem? (i := 1148) (by decide +kernel)) (by decide +kernel), Or.inl rfl⟩
theorem fr_RX12_80_12 : am_fr RX12 80 12 43 := ⟨(RX12, TX12, 58), RX12, rfl, by decide, am_gt_in (List.mem_of_getElem? (i := 1149) (by decide +kernel)) (by decide +kernel), Or.inl rfl⟩
theorem fr_RX12_83_12 : am_fr RX12 83 12 44 := ⟨(RX12, TX12, 58), RX12, rfl, by decide, am_gt_in (List.mem_of_getElem? (i := 1150) (by decide +kernel)) (by decide +kernel), Or.inl rfl⟩
theorem fr_RX12_86_12 : am_fr RX12 86 12 45 := ⟨(RX12, TX12, 58), RX12, rfl, by decide, am_gt_in (List.mem_of_getElem? (i := 1151) (by decide +kernel)) (by decide +kernel), Or.inl rfl⟩
theorem fr_RX12_89_12 : am_fr RX12 89 12 46 := ⟨(RX12, TX12, 58), RX12, rfl, by decide, am_gt_in (List.mem_of_getElem? (i := 1152) (by decide +kernel)) (by decide +kernel), Or.inl rfl⟩
theorem fr_RX12_92_12 : am_fr RX12 92 12 47 := ⟨(RX12, TX12, 58), RX12, rfl, by decide, am_gt_in (List.mem_of_getElem? (i := 1153) (by decide +kernel)) (by decide +kernel), Or.inl rfl⟩
theorem fr_RX12_95_12 : am_fr RX12 95 12 54 := ⟨(RX12, TX12, 58), RX12, rfl, by decide, am_gt_in (List.mem_of_getElem? (i := 1160) (by decide +kernel)) (by decide +kernel), Or.inl rfl⟩
theorem fr_RX12_99_12 : am_fr RX12 99 12 55 := ⟨(RX12, TX12, 58), RX12, rfl, by decide, am_gt_in (List.mem_of_getElem? (i := 1161) (by decide +kernel)) (by decide +kernel), Or.inl rfl⟩
theorem fr_RX1_13_p1 : ∀ ci ∈ [1], am_fr RX1 13 ci 0 ∧ am_kd (am_ty ci 0) = 0 := fun ci hc => by
  simp only [List.mem_cons, List.not_mem_nil, or_false] at hc
  subst hc
  exact ⟨⟨(RX1, TX1, 6), RX1, rfl, by decide, am_gt_in (List.mem_of_getElem? (i := 460) (by decide +kernel)) (by decide +kernel), Or.inl rfl⟩, rfl⟩
theorem fr_RX1_19_p1 : ∀ ci ∈ [1], am_fr RX1 19 ci 3 ∧ am_kd (am_ty ci 3) = 0 := fun ci hc => by
  simp only [List.mem_cons, List.not_mem_nil, or_false] at hc
  subst hc
  exact ⟨⟨(RX1, TX1, 6), RX1, rfl, by decide, am_gt_in (List.mem_of_getElem? (i := 467) (by decide +kernel)) (by decide +kernel), Or.inl rfl⟩, rfl⟩
theorem fr_RX1_22_p1 : ∀ ci ∈ [1], am_fr RX1 22 ci 4 ∧ am_kd (am_ty ci 4) = 0 := fun ci hc => by
  simp only [List.mem_cons, List.not_mem_nil, or_false] at hc
  subst hc
  exact ⟨⟨(RX1, TX1, 6), RX1, rfl, by decide, am_gt_in (List.mem_of_getElem? (i := 469) (by decide +kernel)) (by decide +kernel), Or.inl rfl⟩, rfl⟩
theorem fr_RX1_25_p1 : ∀ ci ∈ [1], am_fr RX1 25 ci 5 ∧ am_kd (am_ty ci 5) = 0 := fun ci hc => by
  simp only [List.mem_cons, List.not_mem_nil, or_false] at hc
  subst hc
  exact ⟨⟨(RX1, TX1, 6), RX1, rfl, by decide, am_gt_in (List.mem_of_getElem? (i := 470) (by decide +kernel)) (by decide +kernel), Or.inl rfl⟩, rfl⟩
theorem fr_RX1_7_p1 : ∀ ci ∈ [1], am_fr RX1 7 ci 2 ∧ am_kd (am_ty ci 2) = 0 := fun ci hc => by
  simp only [List.mem_cons, List.not_mem_nil, or_false] at hc
  subst hc
  exact ⟨⟨(RX1, TX1, 6), RX1, rfl, by decide, am_gt_in (List.mem_of_getElem? (i := 464) (by decide +kernel)) (by decide +kernel), Or.inl rfl⟩, rfl⟩
theorem fr_RX3_15_p35 : ∀ ci ∈ [3, 5], am_fr RX3 15 ci 1 ∧ am_kd (am_ty ci 1) = 0 := fun ci hc => by
  simp only [List.mem_cons, List.not_mem_nil, or_false] at hc
  rcases hc with rfl | rfl
  · exact ⟨⟨(RX3, TX3, 9), RX3, rfl, by decide, am_gt_in (List.mem_of_getElem? (i := 531) (by decide +kernel)) (by decide +kernel), Or.inr (am_gt_in (List.mem_of_getElem? (i := 532) (by decide +kernel)) (by decide +kernel))⟩, rfl⟩
  · exact ⟨⟨(RX5, TX5, 9), RX3, rfl, by decide, am_gt_in (List.mem_of_getElem? (i := 531) (by decide +kernel)) (by decide +kernel), Or.inr (am_gt_in (List.mem_of_getElem? (i := 532) (by decide +kernel)) (by decide +kernel))⟩, rfl⟩
theorem fr_RX4_13_4 : am_fr RX4 13 4 1 := ⟨(RX4, TX4, 4), RX4, rfl, by decide, am_gt_in (List.mem_of_getElem? (i := 181) (by decide +kernel)) (by decide +kernel), Or.inl rfl⟩
theorem fr_RX4_16_4 : am_fr RX4 16 4 2 := ⟨(RX4, TX4, 4), RX4, rfl, by decide, am_gt_in (List.mem_of_getElem? (i := 182) (by decide +kernel)) (by decide +kernel), Or.inl rfl⟩
theorem fr_RX4_19_4 : am_fr RX4 19 4 3 := ⟨(RX4, TX4, 4), RX4, rfl, by decide, am_gt_in (List.mem_of_getElem? (i := 183) (by decide +kernel)) (by decide +kernel), Or.inl rfl⟩
theorem fr_RX4_31_p1 : ∀ ci ∈ [1], am_fr RX4 31 ci 2 ∧ am_kd (am_ty ci 2) = 0 := fun ci hc => by
  simp only [List.mem_cons, List.not_mem_nil, or_false] at hc
  subst hc
  exact ⟨⟨(RX1, TX1, 6), RX1, rfl, by decide, am_gt_in (List.mem_of_getElem? (i := 465) (by decide +kernel)) (by decide +kernel), Or.inl rfl⟩, rfl⟩
theorem fr_RX4_37_p1 : ∀ ci ∈ [1], am_fr RX4 37 ci 1 ∧ am_kd (am_ty ci 1) = 0 := fun ci hc => by
  simp only [List.mem_cons, List.not_mem_nil, or_false] at hc
  subst hc
  exact ⟨⟨(RX1, TX1, 6), RX1, rfl, by decide, am_gt_in (List.mem_of_getElem? (i := 463) (by decide +kernel)) (by decide +kernel), Or.inl rfl⟩, rfl⟩
theorem fr_RX4_9_4 : am_fr RX4 9 4 0 := ⟨(RX4, TX4, 4), RX4, rfl, by decide, am_gt_in (List.mem_of_getElem? (i := 180) (by decide +kernel)) (by decide +kernel), Or.inl rfl⟩
theorem fr_RX5_11_p5 : ∀ ci ∈ [5], am_fr RX5 11 ci 2 ∧ am_kd (am_ty ci 2) = 0 := fun ci hc => by
  simp only [List.mem_cons, List.not_mem_nil, or_false] at hc
  subst hc
  exact ⟨⟨(RX5, TX5, 9), RX5, rfl, by decide, am_gt_in (List.mem_of_getElem? (i := 535) (by decide +kernel)) (by decide +kernel), Or.inr (am_gt_in (List.mem_of_getElem? (i := 536) (by decide +kernel)) (by decide +kernel))⟩, rfl⟩
theorem fr_RX6_11_p26 : ∀ ci ∈ [2, 6], am_fr RX6 11 ci 1 ∧ am_kd (am_ty ci 1) = 0 := fun ci hc => by
  simp only [List.mem_cons, List.not_mem_nil, or_false] at hc
  rcases hc with rfl | rfl
  · exact ⟨⟨(RX2, TX2, 9), RX6, rfl, by decide, am_gt_in (List.mem_of_getElem? (i := 529) (by decide +kernel)) (by decide +kernel), Or.inr (am_gt_in (List.mem_of_getElem? (i := 530) (by decide +kernel)) (by decide +kernel))⟩, rfl⟩
  · exact ⟨⟨(RX6, TX6, 9), RX6, rfl, by decide, am_gt_in (List.mem_of_getElem? (i := 529) (by decide +kernel)) (by decide +kernel), Or.inr (am_gt_in (List.mem_of_getElem? (i := 530) (by decide +kernel)) (by decide +kernel))⟩, rfl⟩
theorem fr_RX6_21_p26 : ∀ ci ∈ [2, 6], am_fr RX6 21 ci 2 ∧ am_kd (am_ty ci 2) = 0 := fun ci hc => by
  simp only [List.mem_cons, List.not_mem_nil, or_false] at hc
  rcases hc with rfl | rfl
  · exact ⟨⟨(RX2, TX2, 9), RX6, rfl, by decide, am_gt_in (List.mem_of_getElem? (i := 537) (by decide +kernel)) (by decide +kernel), Or.inr (am_gt_in (List.mem_of_getElem? (i := 538) (by decide +kernel)) (by decide +kernel))⟩, rfl⟩
  · exact ⟨⟨(RX6, TX6, 9), RX6, rfl, by decide, am_gt_in (List.mem_of_getElem? (i := 537) (by decide +kernel)) (by decide +kernel), Or.inr (am_gt_in (List.mem_of_getElem? (i := 538) (by decide +kernel)) (by decide +kernel))⟩, rfl⟩
theorem fr_RX7_19_p235679 : ∀ ci ∈ [2, 3, 5, 6, 7, 9], am_fr RX7 19 ci 3 ∧ am_kd (am_ty ci 3) = 0 := fun ci hc => by
  simp only [List.mem_cons, List.not_mem_nil, or_false] at hc
  rcases hc with rfl | rfl | rfl | rfl | rfl | rfl
  · exact ⟨⟨(RX2, TX2, 9), RX7, rfl, by decide, am_gt_in (List.mem_of_getElem? (i := 540) (by decide +kernel)) (by decide +kernel), Or.inl rfl⟩, rfl⟩
  · exact ⟨⟨(RX3, TX3, 9), RX7, rfl, by decide, am_gt_in (List.mem_of_getElem? (i := 540) (by decide +kernel)) (by decide +kernel), Or.inl rfl⟩, rfl⟩
  · exact ⟨⟨(RX5, TX5, 9), RX7, rfl, by decide, am_gt_in (List.mem_of_getElem? (i := 540) (by decide +kernel)) (by decide +kernel), Or.inl rfl⟩, rfl⟩
  · exact ⟨⟨(RX6, TX6, 9), RX7, rfl, by decide, am_gt_in (List.mem_of_getElem? (i := 540) (by decide +kernel)) (by decide +kernel), Or.inl rfl⟩, rfl⟩
  · exact ⟨⟨(RX7, TX7, 9), RX7, rfl, by decide, am_gt_in (List.mem_of_getElem? (i := 540) (by decide +kernel)) (by decide +kernel), Or.inl rfl⟩, rfl⟩
  · exact ⟨⟨(RX9, TX9, 9), RX7, rfl, by decide, am_gt_in (List.mem_of_getElem? (i := 540) (by decide +kernel)) (by decide +kernel), Or.inl rfl⟩, rfl⟩
theorem fr_RX7_39_p235679 : ∀ ci ∈ [2, 3, 5, 6, 7, 9], am_fr RX7 39 ci 5 ∧ am_kd (am_ty ci 5) = 0 := fun ci hc => by
  simp only [List.mem_cons, List.not_mem_nil, or_false] at hc
  rcases hc with rfl | rfl | rfl | rfl | rfl | rfl
  · exact ⟨⟨(RX2, TX2, 9), RX7, rfl, by decide, am_gt_in (List.mem_of_getElem? (i := 544) (by decide +kernel)) (by decide +kernel), Or.inl rfl⟩, rfl⟩
  · exact ⟨⟨(RX3, TX3, 9), RX7, rfl, by decide, am_gt_in (List.mem_of_getElem? (i := 544) (by decide +kernel)) (by decide +kernel), Or.inl rfl⟩, rfl⟩
  · exact ⟨⟨(RX5, TX5, 9), RX7, rfl, by decide, am_gt_in (List.mem_of_getElem? (i := 544) (by decide +kernel)) (by decide +kernel), Or.inl rfl⟩, rfl⟩
  · exact ⟨⟨(RX6, TX6, 9), RX7, rfl, by decide, am_gt_in (List.mem_of_getElem? (i := 544) (by decide +kernel)) (by decide +kernel), Or.inl rfl⟩, rfl⟩
  · exact ⟨⟨(RX7, TX7, 9), RX7, rfl, by decide, am_gt_in (List.mem_of_getElem? (i := 544) (by decide +kernel)) (by decide +kernel), Or.inl rfl⟩, rfl⟩
  · exact ⟨⟨(RX9, TX9, 9), RX7, rfl, by decide, am_gt_in (List.mem_of_getElem? (i := 544) (by decide +kernel)) (by decide +kernel), Or.inl rfl⟩, rfl⟩
theorem fr_RX7_42_p235679 : ∀ ci ∈ [2, 3, 5, 6, 7, 9], am_fr RX7 42 ci 7 ∧ am_kd (am_ty ci 7) = 0 := fun ci hc => by
  simp only [List.mem_cons, List.not_mem_nil, or_false] at hc
  rcases hc with rfl | rfl | rfl | rfl | rfl | rfl
  · exact ⟨⟨(RX2, TX2, 9), RX7, rfl, by decide, am_gt_in (List.mem_of_getElem? (i := 548) (by decide +kernel)) (by decide +kernel), Or.inl rfl⟩, rfl⟩
  · exact ⟨⟨(RX3, TX3, 9), RX7, rfl, by decide, am_gt_in (List.mem_of_getElem? (i := 548) (by decide +kernel)) (by decide +kernel), Or.inl rfl⟩, rfl⟩
  · exact ⟨⟨(RX5, TX5, 9), RX7, rfl, by decide, am_gt_in (List.mem_of_getElem? (i := 548) (by decide +kernel)) (by decide +kernel), Or.inl rfl⟩, rfl⟩
  · exact ⟨⟨(RX6, TX6, 9), RX7, rfl, by decide, am_gt_in (List.mem_of_getElem? (i := 548) (by decide +kernel)) (by decide +kernel), Or.inl rfl⟩, rfl⟩
  · exact ⟨⟨(RX7, TX7, 9), RX7, rfl, by decide, am_gt_in (List.mem_of_getElem? (i := 548) (by decide +kernel)) (by decide +kernel), Or.inl rfl⟩, rfl⟩
  · exact ⟨⟨(RX9, TX9, 9), RX7, rfl, by decide, am_gt_in (List.mem_of_getElem? (i := 548) (by decide +kernel)) (by decide +kernel), Or.inl rfl⟩, rfl⟩
theorem fr_RX7_45_p235679 : ∀ ci ∈ [2, 3, 5, 6, 7, 9], am_fr RX7 45 ci 6 ∧ am_kd (am_ty ci 6) = 0 := fun ci hc => by
  simp only [List.mem_cons, List.not_mem_nil, or_false] at hc
  rcases hc with rfl | rfl | rfl | rfl | rfl | rfl
  · exact ⟨⟨(RX2, TX2, 9), RX7, rfl, by decide, am_gt_in (List.mem_of_getElem? (i := 546) (by decide +kernel)) (by decide +kernel), Or.inl rfl⟩, rfl⟩
  · exact ⟨⟨(RX3, TX3, 9), RX7, rfl, by decide, am_gt_in (List.mem_of_getElem? (i := 546) (by decide +kernel)) (by decide +kernel), Or.inl rfl⟩, rfl⟩
  · exact ⟨⟨(RX5, TX5, 9), RX7, rfl, by decide, am_gt_in (List.mem_of_getElem? (i := 546) (by decide +kernel)) (by decide +kernel), Or.inl rfl⟩, rfl⟩
  · exact ⟨⟨(RX6, TX6, 9), RX7, rfl, by decide, am_gt_in (List.mem_of_getElem? (i := 546) (by decide +kernel)) (by decide +kernel), Or.inl rfl⟩, rfl⟩
  · exact ⟨⟨(RX7, TX7, 9), RX7, rfl, by decide, am_gt_in (List.mem_of_getElem? (i := 546) (by decide +kernel)) (by decide +kernel), Or.inl rfl⟩, rfl⟩
  · exact ⟨⟨(RX9, TX9, 9), RX7, rfl, by decide, am_gt_in (List.mem_of_getElem? (i := 546) (by decide +kernel)) (by decide +kernel), Or.inl rfl⟩, rfl⟩
theorem fr_RX7_48_p235679 : ∀ ci ∈ [2, 3, 5, 6, 7, 9], am_fr RX7 48 ci 8 ∧ am_kd (am_ty ci 8) = 0 := fun ci hc => by
  simp only [List.mem_cons, List.not_mem_nil, or_false] at hc
  rcases hc with rfl | rfl | rfl | rfl | rfl | rfl
  · exact ⟨⟨(RX2, TX2, 9), RX7, rfl, by decide, am_gt_in (List.mem_of_getElem? (i := 549) (by decide +kernel)) (by decide +kernel), Or.inl rfl⟩, rfl⟩
  · exact ⟨⟨(RX3, TX3, 9), RX7, rfl, by decide, am_gt_in (List.mem_of_getElem? (i := 549) (by decide +kernel)) (by decide +kernel), Or.inl rfl⟩, rfl⟩
  · exact ⟨⟨(RX5, TX5, 9), RX7, rfl, by decide, am_gt_in (List.mem_of_getElem? (i := 549) (by decide +kernel)) (by decide +kernel), Or.inl rfl⟩, rfl⟩
  · exact ⟨⟨(RX6, TX6, 9), RX7, rfl, by decide, am_gt_in (List.mem_of_getElem? (i := 549) (by decide +kernel)) (by decide +kernel), Or.inl rfl⟩, rfl⟩
  · exact ⟨⟨(RX7, TX7, 9), RX7, rfl, by decide, am_gt_in (List.mem_of_getElem? (i := 549) (by decide +kernel)) (by decide +kernel), Or.inl rfl⟩, rfl⟩
  · exact ⟨⟨(RX9, TX9, 9), RX7, rfl, by decide, am_gt_in (List.mem_of_getElem? (i := 549) (by decide +kernel)) (by decide +kernel), Or.inl rfl⟩, rfl⟩
theorem fr_RX8_13_p8 : ∀ ci ∈ [8], am_fr RX8 13 ci 2 ∧ am_kd (am_ty ci 2) = 2 := fun ci hc => by
  simp only [List.mem_cons, List.not_mem_nil, or_false] at hc
  subst hc
  exact ⟨⟨(RX8, TX8, 3), RX8, rfl, by decide, am_gt_in (List.mem_of_getElem? (i := 205) (by decide +kernel)) (by decide +kernel), Or.inl rfl⟩, rfl⟩
theorem fr_RX8_26_p8 : ∀ ci ∈ [8], am_fr RX8 26 ci 1 ∧ am_kd (am_ty ci 1) = 0 := fun ci hc => by
  simp only [List.mem_cons, List.not_mem_nil, or_false] at hc
  subst hc
  exact ⟨⟨(RX8, TX8, 3), RX8, rfl, by decide, am_gt_in (List.mem_of_getElem? (i := 202) (by decide +kernel)) (by decide +kernel), Or.inl rfl⟩, rfl⟩
theorem fr_RX8_9_p8 : ∀ ci ∈ [8], am_fr RX8 9 ci 0 ∧ am_kd (am_ty ci 0) = 0 := fun ci hc => by
  simp only [List.mem_cons, List.not_mem_nil, or_false] at hc
  subst hc
  exact ⟨⟨(RX8, TX8, 3), RX8, rfl, by decide, am_gt_in (List.mem_of_getElem? (i := 200) (by decide +kernel)) (by decide +kernel), Or.inl rfl⟩, rfl⟩
theorem fw_RX0_32_0 : am_fw RX0 32 0 0 := ⟨⟨(RX0, TX0, 6), RX0, rfl, by decide, am_gt_in (List.mem_of_getElem? (i := 154) (by decide +kernel)) (by decide +kernel), Or.inl rfl⟩, fun q h => by cases h; rfl⟩
theorem fw_RX0_35_0 : am_fw RX0 35 0 2 := ⟨⟨(RX0, TX0, 6), RX0, rfl, by decide, am_gt_in (List.mem_of_getElem? (i := 156) (by decide +kernel)) (by decide +kernel), Or.inl rfl⟩, fun q h => by cases h; rfl⟩
theorem fw_RX0_38_0 : am_fw RX0 38 0 1 := ⟨⟨(RX0, TX0, 6), RX0, rfl, by decide, am_gt_in (List.mem_of_getElem? (i := 155) (by decide +kernel)) (by decide +kernel), Or.inl rfl⟩, fun q h => by cases h; rfl⟩
theorem fw_RX10_25_10 : am_fw RX10 25 10 1 := ⟨⟨(RX10, TX10, 13), RX10, rfl, by decide, am_gt_in (List.mem_of_getElem? (i := 104) (by decide +kernel)) (by decide +kernel), Or.inl rfl⟩, fun q h => by cases h; rfl⟩
theorem fw_RX10_43_10 : am_fw RX10 43 10 4 := ⟨⟨(RX10, TX10, 13), RX10, rfl, by decide, am_gt_in (List.mem_of_getElem? (i := 108) (by decide +kernel)) (by decide +kernel), Or.inl rfl⟩, fun q h => by cases h; rfl⟩
theorem fw_RX10_46_10 : am_fw RX10 46 10 7 := ⟨⟨(RX10, TX10, 13), RX10, rfl, by decide, am_gt_in (List.mem_of_getElem? (i := 113) (by decide +kernel)) (by decide +kernel), Or.inl rfl⟩, fun q h => by cases h; rfl⟩
theorem fw_RX10_48_10 : am_fw RX10 48 10 8 := ⟨⟨(RX10, TX10, 13), RX10, rfl, by decide, am_gt_in (List.mem_of_getElem? (i := 114) (by decide +kernel)) (by decide +kernel), Or.inl rfl⟩, fun q h => by cases h; rfl⟩
theorem fw_RX10_51_10 : am_fw RX10 51 10 12 := ⟨⟨(RX10, TX10, 13), RX10, rfl, by decide, am_gt_in (List.mem_of_getElem? (i := 118) (by decide +kernel)) (by decide +kernel), Or.inl rfl⟩, fun q h => by cases h; rfl⟩
theorem fw_RX10_68_10 : am_fw RX10 68 10 10 := ⟨⟨(RX10, TX10, 13), RX10, rfl, by decide, am_gt_in (List.mem_of_getElem? (i := 116) (by decide +kernel)) (by decide +kernel), Or.inl rfl⟩, fun q h => by cases h; rfl⟩
theorem fw_RX10_83_10 : am_fw RX10 83 10 11 := ⟨⟨(RX10, TX10, 13), RX10, rfl, by decide, am_gt_in (List.mem_of_getElem? (i := 117) (by decide +kernel)) (by decide +kernel), Or.inl rfl⟩, fun q h => by cases h; rfl⟩
theorem fw_RX10_90_10 : am_fw RX10 90 10 9 := ⟨⟨(RX10, TX10, 13), RX10, rfl, by decide, am_gt_in (List.mem_of_getElem? (i := 115) (by decide +kernel)) (by decide +kernel), Or.inl rfl⟩, fun q h => by cases h; rfl⟩
theorem fw_RX11_100_11 : am_fw RX11 100 11 0 := ⟨⟨(RX11, TX11, 18), RX11, rfl, by decide, am_gt_in (List.mem_of_getElem? (i := 390) (by decide +kernel)) (by decide +kernel), Or.inl rfl⟩, fun q h => by cases h; rfl⟩
theorem fw_RX11_103_11 : am_fw RX11 103 11 1 := ⟨⟨(RX11, TX11, 18), RX11, rfl, by decide, am_gt_in (List.mem_of_getElem? (i := 391) (by decide +kernel)) (by decide +kernel), Or.inl rfl⟩, fun q h => by cases h; rfl⟩
theorem fw_RX11_110_11 : am_fw RX11 110 11 5 := ⟨⟨(RX11, TX11, 18), RX11, rfl, by decide, am_gt_in (List.mem_of_getElem? (i := 395) (by decide +kernel)) (by decide +kernel), Or.inl rfl⟩, fun q h => by cases h; rfl⟩
theorem fw_RX11_135_p235679 : ∀ ci ∈ [2, 3, 5, 6, 7, 9], am_fw RX11 135 ci 5 ∧ am_ty ci 5 = .int := fun ci hc => by
  simp only [List.mem_cons, List.not_mem_nil, or_false] at hc
  rcases hc with rfl | rfl | rfl | rfl | rfl | rfl
  · exact ⟨⟨⟨(RX2, TX2, 9), RX7, rfl, by decide, am_gt_in (List.mem_of_getElem? (i := 545) (by decide +kernel)) (by decide +kernel), Or.inl rfl⟩, fun q h => by cases h; rfl⟩, rfl⟩
  · exact ⟨⟨⟨(RX3, TX3, 9), RX7, rfl, by decide, am_gt_in (List.mem_of_getElem? (i := 545) (by decide +kernel)) (by decide +kernel), Or.inl rfl⟩, fun q h => by cases h; rfl⟩, rfl⟩
  · exact ⟨⟨⟨(RX5, TX5, 9), RX7, rfl, by decide, am_gt_in (List.mem_of_getElem? (i := 545) (by decide +kernel)) (by decide +kernel), Or.inl rfl⟩, fun q h => by cases h; rfl⟩, rfl⟩
  · exact ⟨⟨⟨(RX6, TX6, 9), RX7, rfl, by decide, am_gt_in (List.mem_of_getElem? (i := 545) (by decide +kernel)) (by decide +kernel), Or.inl rfl⟩, fun q h => by cases h; rfl⟩, rfl⟩
  · exact ⟨⟨⟨(RX7, TX7, 9), RX7, rfl, by decide, am_gt_in (List.mem_of_getElem? (i := 545) (by decide +kernel)) (by decide +kernel), Or.inl rfl⟩, fun q h => by cases h; rfl⟩, rfl⟩
  · exact ⟨⟨⟨(RX9, TX9, 9), RX7, rfl, by decide, am_gt_in (List.mem_of_getElem? (i := 545) (by decide +kernel)) (by decide +kernel), Or.inl rfl⟩, fun q h => by cases h; rfl⟩, rfl⟩
theorem fw_RX11_157_p235679 : ∀ ci ∈ [2, 3, 5, 6, 7, 9], am_fw RX11 157 ci 6 ∧ am_ty ci 6 = .int := fun ci hc => by
  simp only [List.mem_cons, List.not_mem_nil, or_false] at hc
  rcases hc with rfl | rfl | rfl | rfl | rfl | rfl
  · exact ⟨⟨⟨(RX2, TX2, 9), RX7, rfl, by decide, am_gt_in (List.mem_of_getElem? (i := 547) (by decide +kernel)) (by decide +kernel), Or.inl rfl⟩, fun q h => by cases h; rfl⟩, rfl⟩
  · exact ⟨⟨⟨(RX3, TX3, 9), RX7, rfl, by decide, am_gt_in (List.mem_of_getElem? (i := 547) (by decide +kernel)) (by decide +kernel), Or.inl rfl⟩, fun q h => by cases h; rfl⟩, rfl⟩
  · exact ⟨⟨⟨(RX5, TX5, 9), RX7, rfl, by decide, am_gt_in (List.mem_of_getElem? (i := 547) (by decide +kernel)) (by decide +kernel), Or.inl rfl⟩, fun q h => by cases h; rfl⟩, rfl⟩
  · exact ⟨⟨⟨(RX6, TX6, 9), RX7, rfl, by decide, am_gt_in (List.mem_of_getElem? (i := 547) (by decide +kernel)) (by decide +kernel), Or.inl rfl⟩, fun q h => by cases h; rfl⟩, rfl⟩
  · exact ⟨⟨⟨(RX7, TX7, 9), RX7, rfl, by decide, am_gt_in (List.mem_of_getElem? (i := 547) (by decide +kernel)) (by decide +kernel), Or.inl rfl⟩, fun q h => by cases h; rfl⟩, rfl⟩
  · exact ⟨⟨⟨(RX9, TX9, 9), RX7, rfl, by decide, am_gt_in (List.mem_of_getElem? (i := 547) (by decide +kernel)) (by decide +kernel), Or.inl rfl⟩, fun q h => by cases h; rfl⟩, rfl⟩
theorem fw_RX11_180_10 : am_fw RX11 180 10 5 := ⟨⟨(RX10, TX10, 13), RX10, rfl, by decide, am_gt_in (List.mem_of_getElem? (i := 110) (by decide +kernel)) (by decide +kernel), Or.inl rfl⟩, fun q h => by cases h; rfl⟩
theorem fw_RX11_300_11 : am_fw RX11 300 11 13 := ⟨⟨(RX11, TX11, 18), RX11, rfl, by decide, am_gt_in (List.mem_of_getElem? (i := 403) (by decide +kernel)) (by decide +kernel), Or.inl rfl⟩, fun q h => by cases h; rfl⟩
theorem fw_RX11_303_11 : am_fw RX11 303 11 14 := ⟨⟨(RX11, TX11, 18), RX11, rfl, by decide, am_gt_in (List.mem_of_getElem? (i := 404) (by decide +kernel)) (by decide +kernel), Or.inl rfl⟩, fun q h => by cases h; rfl⟩
theorem fw_RX11_306_11 : am_fw RX11 306 11 15 := ⟨⟨(RX11, TX11, 18), RX11, rfl, by decide, am_gt_in (List.mem_of_getElem? (i := 405) (by decide +kernel)) (by decide +kernel), Or.inl rfl⟩, fun q h => by cases h; rfl⟩
theorem fw_RX11_309_11 : am_fw RX11 309 11 16 := ⟨⟨(RX11, TX11, 18), RX11, rfl, by decide, am_gt_in (List.mem_of_getElem? (i := 406) (by decide +kernel)) (by decide +kernel), Or.inl rfl⟩, fun q h => by cases h; rfl⟩
theorem fw_RX11_312_11 : am_fw RX11 312 11 17 := ⟨⟨(RX11, TX11, 18), RX11, rfl, by decide, am_gt_in (List.mem_of_getElem? (i := 407) (by decide +kernel)) (by decide +kernel), Or.inl rfl⟩, fun q h => by cases h; rfl⟩
theorem fw_RX11_320_11 : am_fw RX11 320 11 12 := ⟨⟨(RX11, TX11, 18), RX11, rfl, by decide, am_gt_in (List.mem_of_getElem? (i := 402) (by decide +kernel)) (by decide +kernel), Or.inl rfl⟩, fun q h => by cases h; rfl⟩
theorem fw_RX11_74_11 : am_fw RX11 74 11 3 := ⟨⟨(RX11, TX11, 18), RX11, rfl, by decide, am_gt_in (List.mem_of_getElem? (i := 393) (by decide +kernel)) (by decide +kernel), Or.inl rfl⟩, fun q h => by cases h; rfl⟩
theorem fw_RX12_126_12 : am_fw RX12 126 12 3 := ⟨⟨(RX12, TX12, 58), RX12, rfl, by decide, am_gt_in (List.mem_of_getElem? (i := 1109) (by decide +kernel)) (by decide +kernel), Or.inl rfl⟩, fun q h => by cases h; rfl⟩
theorem fw_RX12_131_12 : am_fw RX12 131 12 11 := ⟨⟨(RX12, TX12, 58), RX12, rfl, by decide, am_gt_in (List.mem_of_getElem? (i := 1117) (by decide +kernel)) (by decide +kernel), Or.inl rfl⟩, fun q h => by cases h; rfl⟩
theorem fw_RX12_138_12 : am_fw RX12 138 12 21 := ⟨⟨(RX12, TX12, 58), RX12, rfl, by decide, am_gt_in (List.mem_of_getElem? (i := 1127) (by decide +kernel)) (by decide +kernel), Or.inl rfl⟩, fun q h => by cases h; rfl⟩
theorem fw_RX12_153_12 : am_fw RX12 153 12 12 := ⟨⟨(RX12, TX12, 58), RX12, rfl, by decide, am_gt_in (List.mem_of_getElem? (i := 1118) (by decide +kernel)) (by decide +kernel), Or.inl rfl⟩, fun q h => by cases h; rfl⟩
theorem fw_RX12_156_12 : am_fw RX12 156 12 13 := ⟨⟨(RX12, TX12, 58), RX12, rfl, by decide, am_gt_in (List.mem_of_getElem? (i := 1119) (by decide +kernel)) (by decide +kernel), Or.inl rfl⟩, fun q h => by cases h; rfl⟩
theorem fw_RX12_200_12 : am_fw RX12 200 12 6 := ⟨⟨(RX12, TX12, 58), RX12, rfl, by decide, am_gt_in (List.mem_of_getElem? (i := 1112) (by decide +kernel)) (by decide +kernel), Or.inl rfl⟩, fun q h => by cases h; rfl⟩
theorem fw_RX12_203_12 : am_fw RX12 203 12 23 := ⟨⟨(RX12, TX12, 58), RX12, rfl, by decide, am_gt_in (List.mem_of_getElem? (i := 1129) (by decide +kernel)) (by decide +kernel), Or.inl rfl⟩, fun q h => by cases h; rfl⟩
theorem fw_RX12_206_12 : am_fw RX12 206 12 22 := ⟨⟨(RX12, TX12, 58), RX12, rfl, by decide, am_gt_in (List.mem_of_getElem? (i := 1128) (by decide +kernel)) (by decide +kernel), Or.inl rfl⟩, fun q h => by cases h; rfl⟩
theorem fw_RX12_209_12 : am_fw RX12 209 12 27 := ⟨⟨(RX12, TX12, 58), RX12, rfl, by decide, am_gt_in (List.mem_of_getElem? (i := 1133) (by decide +kernel)) (by decide +kernel), Or.inl rfl⟩, fun q h => by cases h; rfl⟩
theorem fw_RX12_215_12 : am_fw RX12 215 12 25 := ⟨⟨(RX12, TX12, 58), RX12, rfl, by decide, am_gt_in (List.mem_of_getElem? (i := 1131) (by decide +kernel)) (by decide +kernel), Or.inl rfl⟩, fun q h => by cases h; rfl⟩
theorem fw_RX12_218_12 : am_fw RX12 218 12 24 := ⟨⟨(RX12, TX12, 58), RX12, rfl, by decide, am_gt_in (List.mem_of_getElem? (i := 1130) (by decide +kernel)) (by decide +kernel), Or.inl rfl⟩, fun q h => by cases h; rfl⟩
theorem fw_RX12_225_12 : am_fw RX12 225 12 26 := ⟨⟨(RX12, TX12, 58), RX12, rfl, by decide, am_gt_in (List.mem_of_getElem? (i := 1132) (by decide +kernel)) (by decide +kernel), Or.inl rfl⟩, fun q h => by cases h; rfl⟩
theorem fw_RX12_241_12 : am_fw RX12 241 12 29 := ⟨⟨(RX12, TX12, 58), RX12, rfl, by decide, am_gt_in (List.mem_of_getElem? (i := 1135) (by decide +kernel)) (by decide +kernel), Or.inl rfl⟩, fun q h => by cases h; rfl⟩
theorem fw_RX12_245_12 : am_fw RX12 245 12 30 := ⟨⟨(RX12, TX12, 58), RX12, rfl, by decide, am_gt_in (List.mem_of_getElem? (i := 1136) (by decide +kernel)) (by decide +kernel), Or.inl rfl⟩, fun q h => by cases h; rfl⟩
theorem fw_RX12_248_12 : am_fw RX12 248 12 28 := ⟨⟨(RX12, TX12, 58), RX12, rfl, by decide, am_gt_in (List.mem_of_getElem? (i := 1134) (by decide +kernel)) (by decide +kernel), Or.inl rfl⟩, fun q h => by cases h; rfl⟩
theorem fw_RX12_263_12 : am_fw RX12 263 12 31 := ⟨⟨(RX12, TX12, 58), RX12, rfl, by decide, am_gt_in (List.mem_of_getElem? (i := 1137) (by decide +kernel)) (by decide +kernel), Or.inl rfl⟩, fun q h => by cases h; rfl⟩
theorem fw_RX12_272_12 : am_fw RX12 272 12 32 := ⟨⟨(RX12, TX12, 58), RX12, rfl, by decide, am_gt_in (List.mem_of_getElem? (i := 1138) (by decide +kernel)) (by decide +kernel), Or.inl rfl⟩, fun q h => by cases h; rfl⟩
theorem fw_RX12_277_12 : am_fw RX12 277 12 33 := ⟨⟨(RX12, TX12, 58), RX12, rfl, by decide, am_gt_in (List.mem_of_getElem? (i := 1139) (by decide +kernel)) (by decide +kernel), Or.inl rfl⟩, fun q h => by cases h; rfl⟩
theorem fw_RX12_282_12 : am_fw RX12 282 12 34 := ⟨⟨(RX12, TX12, 58), RX12, rfl, by decide, am_gt_in (List.mem_of_getElem? (i := 1140) (by decide +kernel)) (by decide +kernel), Or.inl rfl⟩, fun q h => by cases h; rfl⟩
theorem fw_RX12_332_12 : am_fw RX12 332 12 4 := ⟨⟨(RX12, TX12, 58), RX12, rfl, by decide, am_gt_in (List.mem_of_getElem? (i := 1110) (by decide +kernel)) (by decide +kernel), Or.inl rfl⟩, fun q h => by cases h; rfl⟩
theorem fw_RX12_404_12 : am_fw RX12 404 12 48 := ⟨⟨(RX12, TX12, 58), RX12, rfl, by decide, am_gt_in (List.mem_of_getElem? (i := 1154) (by decide +kernel)) (by decide +kernel), Or.inl rfl⟩, fun q h => by cases h; rfl⟩
theorem fw_RX12_407_12 : am_fw RX12 407 12 49 := ⟨⟨(RX12, TX12, 58), RX12, rfl, by decide, am_gt_in (List.mem_of_getElem? (i := 1155) (by decide +kernel)) (by decide +kernel), Or.inl rfl⟩, fun q h => by cases h; rfl⟩
theorem fw_RX12_410_12 : am_fw RX12 410 12 50 := ⟨⟨(RX12, TX12, 58), RX12, rfl, by decide, am_gt_in (List.mem_of_getElem? (i := 1156) (by decide +kernel)) (by decide +kernel), Or.inl rfl⟩, fun q h => by cases h; rfl⟩
theorem fw_RX12_413_12 : am_fw RX12 413 12 51 := ⟨⟨(RX12, TX12, 58), RX12, rfl, by decide, am_gt_in (List.mem_of_getElem? (i := 1157) (by decide +kernel)) (by decide +kernel), Or.inl rfl⟩, fun q h => by cases h; rfl⟩
theorem fw_RX12_416_12 : am_fw RX12 416 12 52 := ⟨⟨(RX12, TX12, 58), RX12, rfl, by decide, am_gt_in (List.mem_of_getElem? (i := 1158) (by decide +kernel)) (by decide +kernel), Or.inl rfl⟩, fun q h => by cases h; rfl⟩
theorem fw_RX12_419_12 : am_fw RX12 419 12 53 := ⟨⟨(RX12, TX12, 58), RX12, rfl, by decide, am_gt_in (List.mem_of_getElem? (i := 1159) (by decide +kernel)) (by decide +kernel), Or.inl rfl⟩, fun q h => by cases h; rfl⟩
theorem fw_RX1_19_p1 : ∀ ci ∈ [1], am_fw RX1 19 ci 3 ∧ am_ty ci 3 = .int := fun ci hc => by
  simp only [List.mem_cons, List.not_mem_nil, or_false] at hc
  subst hc
  exact ⟨⟨⟨(RX1, TX1, 6), RX1, rfl, by decide, am_gt_in (List.mem_of_getElem? (i := 467) (by decide +kernel)) (by decide +kernel), Or.inl rfl⟩, fun q h => by cases h; rfl⟩, rfl⟩
theorem fw_RX1_22_p1 : ∀ ci ∈ [1], am_fw RX1 22 ci 4 ∧ am_ty ci 4 = .int := fun ci hc => by
  simp only [List.mem_cons, List.not_mem_nil, or_false] at hc
  subst hc
  exact ⟨⟨⟨(RX1, TX1, 6), RX1, rfl, by decide, am_gt_in (List.mem_of_getElem? (i := 469) (by decide +kernel)) (by decide +kernel), Or.inl rfl⟩, fun q h => by cases h; rfl⟩, rfl⟩
theorem fw_RX1_25_p1 : ∀ ci ∈ [1], am_fw RX1 25 ci 5 ∧ am_ty ci 5 = .int := fun ci hc => by
  simp only [List.mem_cons, List.not_mem_nil, or_false] at hc
  subst hc
  exact ⟨⟨⟨(RX1, TX1, 6), RX1, rfl, by decide, am_gt_in (List.mem_of_getElem? (i := 470) (by decide +kernel)) (by decide +kernel), Or.inl rfl⟩, fun q h => by cases h; rfl⟩, rfl⟩
theorem fw_RX1_7_p1 : ∀ ci ∈ [1], am_fw RX1 7 ci 2 ∧ am_ty ci 2 = .int := fun ci hc => by
  simp only [List.mem_cons, List.not_mem_nil, or_false] at hc
  subst hc
  exact ⟨⟨⟨(RX1, TX1, 6), RX1, rfl, by decide, am_gt_in (List.mem_of_getElem? (i := 464) (by decide +kernel)) (by decide +kernel), Or.inl rfl⟩, fun q h => by cases h; rfl⟩, rfl⟩
theorem fw_RX7_39_p235679 : ∀ ci ∈ [2, 3, 5, 6, 7, 9], am_fw RX7 39 ci 5 ∧ am_ty ci 5 = .int := fun ci hc => by
  simp only [List.mem_cons, List.not_mem_nil, or_false] at hc
  rcases hc with rfl | rfl | rfl | rfl | rfl | rfl
  · exact ⟨⟨⟨(RX2, TX2, 9), RX7, rfl, by decide, am_gt_in (List.mem_of_getElem? (i := 544) (by decide +kernel)) (by decide +kernel), Or.inl rfl⟩, fun q h => by cases h; rfl⟩, rfl⟩
  · exact ⟨⟨⟨(RX3, TX3, 9), RX7, rfl, by decide, am_gt_in (List.mem_of_getElem? (i := 544) (by decide +kernel)) (by decide +kernel), Or.inl rfl⟩, fun q h => by cases h; rfl⟩, rfl⟩
  · exact ⟨⟨⟨(RX5, TX5, 9), RX7, rfl, by decide, am_gt_in (List.mem_of_getElem? (i := 544) (by decide +kernel)) (by decide +kernel), Or.inl rfl⟩, fun q h => by cases h; rfl⟩, rfl⟩
  · exact ⟨⟨⟨(RX6, TX6, 9), RX7, rfl, by decide, am_gt_in (List.mem_of_getElem? (i := 544) (by decide +kernel)) (by decide +kernel), Or.inl rfl⟩, fun q h => by cases h; rfl⟩, rfl⟩
  · exact ⟨⟨⟨(RX7, TX7, 9), RX7, rfl, by decide, am_gt_in (List.mem_of_getElem? (i := 544) (by decide +kernel)) (by decide +kernel), Or.inl rfl⟩, fun q h => by cases h; rfl⟩, rfl⟩
  · exact ⟨⟨⟨(RX9, TX9, 9), RX7, rfl, by decide, am_gt_in (List.mem_of_getElem? (i := 544) (by decide +kernel)) (by decide +kernel), Or.inl rfl⟩, fun q h => by cases h; rfl⟩, rfl⟩
theorem fw_RX7_42_p235679 : ∀ ci ∈ [2, 3, 5, 6, 7, 9], am_fw RX7 42 ci 7 ∧ am_ty ci 7 = .int := fun ci hc => by
  simp only [List.mem_cons, List.not_mem_nil, or_false] at hc
  rcases hc with rfl | rfl | rfl | rfl | rfl | rfl
  · exact ⟨⟨⟨(RX2, TX2, 9), RX7, rfl, by decide, am_gt_in (List.mem_of_getElem? (i := 548) (by decide +kernel)) (by decide +kernel), Or.inl rfl⟩, fun q h => by cases h; rfl⟩, rfl⟩
  · exact ⟨⟨⟨(RX3, TX3, 9), RX7, rfl, by decide, am_gt_in (List.mem_of_getElem? (i := 548) (by decide +kernel)) (by decide +kernel), Or.inl rfl⟩, fun q h => by cases h; rfl⟩, rfl⟩
  · exact ⟨⟨⟨(RX5, TX5, 9), RX7, rfl, by decide, am_gt_in (List.mem_of_getElem? (i := 548) (by decide +kernel)) (by decide +kernel), Or.inl rfl⟩, fun q h => by cases h; rfl⟩, rfl⟩
  · exact ⟨⟨⟨(RX6, TX6, 9), RX7, rfl, by decide, am_gt_in (List.mem_of_getElem? (i := 548) (by decide +kernel)) (by decide +kernel), Or.inl rfl⟩, fun q h => by cases h; rfl⟩, rfl⟩
  · exact ⟨⟨⟨(RX7, TX7, 9), RX7, rfl, by decide, am_gt_in (List.mem_of_getElem? (i := 548) (by decide +kernel)) (by decide +kernel), Or.inl rfl⟩, fun q h => by cases h; rfl⟩, rfl⟩
  · exact ⟨⟨⟨(RX9, TX9, 9), RX7, rfl, by decide, am_gt_in (List.mem_of_getElem? (i := 548) (by decide +kernel)) (by decide +kernel), Or.inl rfl⟩, fun q h => by cases h; rfl⟩, rfl⟩
theorem fw_RX7_45_p235679 : ∀ ci ∈ [2, 3, 5, 6, 7, 9], am_fw RX7 45 ci 6 ∧ am_ty ci 6 = .int := fun ci hc => by
  simp only [List.mem_cons, List.not_mem_nil, or_false] at hc
  rcases hc with rfl | rfl | rfl | rfl | rfl | rfl
  · exact ⟨⟨⟨(RX2, TX2, 9), RX7, rfl, by decide, am_gt_in (List.mem_of_getElem? (i := 546) (by decide +kernel)) (by decide +kernel), Or.inl rfl⟩, fun q h => by cases h; rfl⟩, rfl⟩
  · exact ⟨⟨⟨(RX3, TX3, 9), RX7, rfl, by decide, am_gt_in (List.mem_of_getElem? (i := 546) (by decide +kernel)) (by decide +kernel), Or.inl rfl⟩, fun q h => by cases h; rfl⟩, rfl⟩
  · exact ⟨⟨⟨(RX5, TX5, 9), RX7, rfl, by decide, am_gt_in (List.mem_of_getElem? (i := 546) (by decide +kernel)) (by decide +kernel), Or.inl rfl⟩, fun q h => by cases h; rfl⟩, rfl⟩
  · exact ⟨⟨⟨(RX6, TX6, 9), RX7, rfl, by decide, am_gt_in (List.mem_of_getElem? (i := 546) (by decide +kernel)) (by decide +kernel), Or.inl rfl⟩, fun q h => by cases h; rfl⟩, rfl⟩
  · exact ⟨⟨⟨(RX7, TX7, 9), RX7, rfl, by decide, am_gt_in (List.mem_of_getElem? (i := 546) (by decide +kernel)) (by decide +kernel), Or.inl rfl⟩, fun q h => by cases h; rfl⟩, rfl⟩
  · exact ⟨⟨⟨(RX9, TX9, 9), RX7, rfl, by decide, am_gt_in (List.mem_of_getElem? (i := 546) (by decide +kernel)) (by decide +kernel), Or.inl rfl⟩, fun q h => by cases h; rfl⟩, rfl⟩
theorem fw_RX7_48_p235679 : ∀ ci ∈ [2, 3, 5, 6, 7, 9], am_fw RX7 48 ci 8 ∧ am_ty ci 8 = .int := fun ci hc => by
  simp only [List.mem_cons, List.not_mem_nil, or_false] at hc
  rcases hc with rfl | rfl | rfl | rfl | rfl | rfl
  · exact ⟨⟨⟨(RX2, TX2, 9), RX7, rfl, by decide, am_gt_in (List.mem_of_getElem? (i := 549) (by decide +kernel)) (by decide +kernel), Or.inl rfl⟩, fun q h => by cases h; rfl⟩, rfl⟩
  · exact ⟨⟨⟨(RX3, TX3, 9), RX7, rfl, by decide, am_gt_in (List.mem_of_getElem? (i := 549) (by decide +kernel)) (by decide +kernel), Or.inl rfl⟩, fun q h => by cases h; rfl⟩, rfl⟩
  · exact ⟨⟨⟨(RX5, TX5, 9), RX7, rfl, by decide, am_gt_in (List.mem_of_getElem? (i := 549) (by decide +kernel)) (by decide +kernel), Or.inl rfl⟩, fun q h => by cases h; rfl⟩, rfl⟩
  · exact ⟨⟨⟨(RX6, TX6, 9), RX7, rfl, by decide, am_gt_in (List.mem_of_getElem? (i := 549) (by decide +kernel)) (by decide +kernel), Or.inl rfl⟩, fun q h => by cases h; rfl⟩, rfl⟩
  · exact ⟨⟨⟨(RX7, TX7, 9), RX7, rfl, by decide, am_gt_in (List.mem_of_getElem? (i := 549) (by decide +kernel)) (by decide +kernel), Or.inl rfl⟩, fun q h => by cases h; rfl⟩, rfl⟩
  · exact ⟨⟨⟨(RX9, TX9, 9), RX7, rfl, by decide, am_gt_in (List.mem_of_getElem? (i := 549) (by decide +kernel)) (by decide +kernel), Or.inl rfl⟩, fun q h => by cases h; rfl⟩, rfl⟩
theorem fw_RX8_26_p8 : ∀ ci ∈ [8], am_fw RX8 26 ci 1 ∧ am_ty ci 1 = .int := fun ci hc => by
  simp only [List.mem_cons, List.not_mem_nil, or_false] at hc
  subst hc
  exact ⟨⟨⟨(RX8, TX8, 3), RX8, rfl, by decide, am_gt_in (List.mem_of_getElem? (i := 202) (by decide +kernel)) (by decide +kernel), Or.inl rfl⟩, fun q h => by cases h; rfl⟩, rfl⟩
theorem fw_RX8_9_p8 : ∀ ci ∈ [8], am_fw RX8 9 ci 0 ∧ am_ty ci 0 = .int := fun ci hc => by
  simp only [List.mem_cons, List.not_mem_nil, or_false] at hc
  subst hc
  exact ⟨⟨⟨(RX8, TX8, 3), RX8, rfl, by decide, am_gt_in (List.mem_of_getElem? (i := 200) (by decide +kernel)) (by decide +kernel), Or.inl rfl⟩, fun q h => by cases h; rfl⟩, rfl⟩
theorem im_J0_charAt_5068e : Cond.instanceMethod yJ0_charAt_5068e ∈ am_gt := am_gt_in (List.mem_of_getElem? (i := 230) (by decide +kernel)) (by decide +kernel)
theorem im_J0_indexOf_0f7a4 : Cond.instanceMethod yJ0_indexOf_0f7a4 ∈ am_gt := am_gt_in (List.mem_of_getElem? (i := 300) (by decide +kernel)) (by decide +kernel)
theorem im_J0_length_8abf5 : Cond.instanceMethod yJ0_length_8abf5 ∈ am_gt := am_gt_in (List.mem_of_getElem? (i := 220) (by decide +kernel)) (by decide +kernel)
theorem im_X0_awaits : Cond.instanceMethod yX0_awaits ∈ am_gt := am_gt_in (List.mem_of_getElem? (i := 811) (by decide +kernel)) (by decide +kernel)
theorem im_X0_bestFrom : Cond.instanceMethod yX0_bestFrom ∈ am_gt := am_gt_in (List.mem_of_getElem? (i := 829) (by decide +kernel)) (by decide +kernel)
theorem im_X0_bestPlan : Cond.instanceMethod yX0_bestPlan ∈ am_gt := am_gt_in (List.mem_of_getElem? (i := 823) (by decide +kernel)) (by decide +kernel)
theorem im_X0_planPuttingOff : Cond.instanceMethod yX0_planPuttingOff ∈ am_gt := am_gt_in (List.mem_of_getElem? (i := 833) (by decide +kernel)) (by decide +kernel)
theorem im_X0_waitsAfterLast : Cond.instanceMethod yX0_waitsAfterLast ∈ am_gt := am_gt_in (List.mem_of_getElem? (i := 837) (by decide +kernel)) (by decide +kernel)
theorem im_X10_addBytes : Cond.instanceMethod yX10_addBytes ∈ am_gt := am_gt_in (List.mem_of_getElem? (i := 268) (by decide +kernel)) (by decide +kernel)
theorem im_X10_doStep : Cond.instanceMethod yX10_doStep ∈ am_gt := am_gt_in (List.mem_of_getElem? (i := 762) (by decide +kernel)) (by decide +kernel)
theorem im_X10_isWord : Cond.instanceMethod yX10_isWord ∈ am_gt := am_gt_in (List.mem_of_getElem? (i := 288) (by decide +kernel)) (by decide +kernel)
theorem im_X10_joins : Cond.instanceMethod yX10_joins ∈ am_gt := am_gt_in (List.mem_of_getElem? (i := 388) (by decide +kernel)) (by decide +kernel)
theorem im_X10_nextToken : Cond.instanceMethod yX10_nextToken ∈ am_gt := am_gt_in (List.mem_of_getElem? (i := 277) (by decide +kernel)) (by decide +kernel)
theorem im_X10_pass : Cond.instanceMethod yX10_pass ∈ am_gt := am_gt_in (List.mem_of_getElem? (i := 360) (by decide +kernel)) (by decide +kernel)
theorem im_X10_read : Cond.instanceMethod yX10_read ∈ am_gt := am_gt_in (List.mem_of_getElem? (i := 368) (by decide +kernel)) (by decide +kernel)
theorem im_X10_readJoined : Cond.instanceMethod yX10_readJoined ∈ am_gt := am_gt_in (List.mem_of_getElem? (i := 384) (by decide +kernel)) (by decide +kernel)
theorem im_X10_readOne : Cond.instanceMethod yX10_readOne ∈ am_gt := am_gt_in (List.mem_of_getElem? (i := 380) (by decide +kernel)) (by decide +kernel)
theorem im_X10_readOpening : Cond.instanceMethod yX10_readOpening ∈ am_gt := am_gt_in (List.mem_of_getElem? (i := 372) (by decide +kernel)) (by decide +kernel)
theorem im_X10_readTape : Cond.instanceMethod yX10_readTape ∈ am_gt := am_gt_in (List.mem_of_getElem? (i := 272) (by decide +kernel)) (by decide +kernel)
theorem im_X10_refuse : Cond.instanceMethod yX10_refuse ∈ am_gt := am_gt_in (List.mem_of_getElem? (i := 364) (by decide +kernel)) (by decide +kernel)
theorem im_X10_takeNumber : Cond.instanceMethod yX10_takeNumber ∈ am_gt := am_gt_in (List.mem_of_getElem? (i := 296) (by decide +kernel)) (by decide +kernel)
theorem im_X10_takeWord : Cond.instanceMethod yX10_takeWord ∈ am_gt := am_gt_in (List.mem_of_getElem? (i := 284) (by decide +kernel)) (by decide +kernel)
theorem im_X10_value : Cond.instanceMethod yX10_value ∈ am_gt := am_gt_in (List.mem_of_getElem? (i := 757) (by decide +kernel)) (by decide +kernel)
theorem im_X10_write : Cond.instanceMethod yX10_write ∈ am_gt := am_gt_in (List.mem_of_getElem? (i := 376) (by decide +kernel)) (by decide +kernel)
theorem im_X11_byRule : Cond.instanceMethod yX11_byRule ∈ am_gt := am_gt_in (List.mem_of_getElem? (i := 754) (by decide +kernel)) (by decide +kernel)
theorem im_X11_crossingAt : Cond.instanceMethod yX11_crossingAt ∈ am_gt := am_gt_in (List.mem_of_getElem? (i := 495) (by decide +kernel)) (by decide +kernel)
theorem im_X11_dueTwo : Cond.instanceMethod yX11_dueTwo ∈ am_gt := am_gt_in (List.mem_of_getElem? (i := 856) (by decide +kernel)) (by decide +kernel)
theorem im_X11_eldestSon : Cond.instanceMethod yX11_eldestSon ∈ am_gt := am_gt_in (List.mem_of_getElem? (i := 894) (by decide +kernel)) (by decide +kernel)
theorem im_X11_firstOfBlood : Cond.instanceMethod yX11_firstOfBlood ∈ am_gt := am_gt_in (List.mem_of_getElem? (i := 898) (by decide +kernel)) (by decide +kernel)
theorem im_X11_firstOther : Cond.instanceMethod yX11_firstOther ∈ am_gt := am_gt_in (List.mem_of_getElem? (i := 885) (by decide +kernel)) (by decide +kernel)
theorem im_X11_illOnes : Cond.instanceMethod yX11_illOnes ∈ am_gt := am_gt_in (List.mem_of_getElem? (i := 1044) (by decide +kernel)) (by decide +kernel)
theorem im_X11_mostTurns : Cond.instanceMethod yX11_mostTurns ∈ am_gt := am_gt_in (List.mem_of_getElem? (i := 902) (by decide +kernel)) (by decide +kernel)
theorem im_X11_oneMore : Cond.instanceMethod yX11_oneMore ∈ am_gt := am_gt_in (List.mem_of_getElem? (i := 877) (by decide +kernel)) (by decide +kernel)
theorem im_X11_oneOf : Cond.instanceMethod yX11_oneOf ∈ am_gt := am_gt_in (List.mem_of_getElem? (i := 786) (by decide +kernel)) (by decide +kernel)
theorem im_X11_openOnes : Cond.instanceMethod yX11_openOnes ∈ am_gt := am_gt_in (List.mem_of_getElem? (i := 1040) (by decide +kernel)) (by decide +kernel)
theorem im_X11_otherOf : Cond.instanceMethod yX11_otherOf ∈ am_gt := am_gt_in (List.mem_of_getElem? (i := 790) (by decide +kernel)) (by decide +kernel)
theorem im_X11_priceOf : Cond.instanceMethod yX11_priceOf ∈ am_gt := am_gt_in (List.mem_of_getElem? (i := 974) (by decide +kernel)) (by decide +kernel)
theorem im_X11_rower : Cond.instanceMethod yX11_rower ∈ am_gt := am_gt_in (List.mem_of_getElem? (i := 507) (by decide +kernel)) (by decide +kernel)
theorem im_X11_rowerAt : Cond.instanceMethod yX11_rowerAt ∈ am_gt := am_gt_in (List.mem_of_getElem? (i := 512) (by decide +kernel)) (by decide +kernel)
theorem im_X11_setWater : Cond.instanceMethod yX11_setWater ∈ am_gt := am_gt_in (List.mem_of_getElem? (i := 490) (by decide +kernel)) (by decide +kernel)
theorem im_X11_sheetAt : Cond.instanceMethod yX11_sheetAt ∈ am_gt := am_gt_in (List.mem_of_getElem? (i := 804) (by decide +kernel)) (by decide +kernel)
theorem im_X11_turn : Cond.instanceMethod yX11_turn ∈ am_gt := am_gt_in (List.mem_of_getElem? (i := 851) (by decide +kernel)) (by decide +kernel)
theorem im_X11_turnsInAll : Cond.instanceMethod yX11_turnsInAll ∈ am_gt := am_gt_in (List.mem_of_getElem? (i := 1048) (by decide +kernel)) (by decide +kernel)
theorem im_X12_added : Cond.instanceMethod yX12_added ∈ am_gt := am_gt_in (List.mem_of_getElem? (i := 1399) (by decide +kernel)) (by decide +kernel)
theorem im_X12_areTwo : Cond.instanceMethod yX12_areTwo ∈ am_gt := am_gt_in (List.mem_of_getElem? (i := 1447) (by decide +kernel)) (by decide +kernel)
theorem im_X12_both : Cond.instanceMethod yX12_both ∈ am_gt := am_gt_in (List.mem_of_getElem? (i := 1386) (by decide +kernel)) (by decide +kernel)
theorem im_X12_byteAt : Cond.instanceMethod yX12_byteAt ∈ am_gt := am_gt_in (List.mem_of_getElem? (i := 1357) (by decide +kernel)) (by decide +kernel)
theorem im_X12_dueOf : Cond.instanceMethod yX12_dueOf ∈ am_gt := am_gt_in (List.mem_of_getElem? (i := 1345) (by decide +kernel)) (by decide +kernel)
theorem im_X12_either : Cond.instanceMethod yX12_either ∈ am_gt := am_gt_in (List.mem_of_getElem? (i := 1382) (by decide +kernel)) (by decide +kernel)
theorem im_X12_fail : Cond.instanceMethod yX12_fail ∈ am_gt := am_gt_in (List.mem_of_getElem? (i := 1378) (by decide +kernel)) (by decide +kernel)
theorem im_X12_foremost : Cond.instanceMethod yX12_foremost ∈ am_gt := am_gt_in (List.mem_of_getElem? (i := 1484) (by decide +kernel)) (by decide +kernel)
theorem im_X12_isAhead : Cond.instanceMethod yX12_isAhead ∈ am_gt := am_gt_in (List.mem_of_getElem? (i := 1502) (by decide +kernel)) (by decide +kernel)
theorem im_X12_isCrossing : Cond.instanceMethod yX12_isCrossing ∈ am_gt := am_gt_in (List.mem_of_getElem? (i := 1301) (by decide +kernel)) (by decide +kernel)
theorem im_X12_isRower : Cond.instanceMethod yX12_isRower ∈ am_gt := am_gt_in (List.mem_of_getElem? (i := 1313) (by decide +kernel)) (by decide +kernel)
theorem im_X12_isSign : Cond.instanceMethod yX12_isSign ∈ am_gt := am_gt_in (List.mem_of_getElem? (i := 1411) (by decide +kernel)) (by decide +kernel)
theorem im_X12_isWord : Cond.instanceMethod yX12_isWord ∈ am_gt := am_gt_in (List.mem_of_getElem? (i := 1374) (by decide +kernel)) (by decide +kernel)
theorem im_X12_may : Cond.instanceMethod yX12_may ∈ am_gt := am_gt_in (List.mem_of_getElem? (i := 1334) (by decide +kernel)) (by decide +kernel)
theorem im_X12_minute : Cond.instanceMethod yX12_minute ∈ am_gt := am_gt_in (List.mem_of_getElem? (i := 1472) (by decide +kernel)) (by decide +kernel)
theorem im_X12_name : Cond.instanceMethod yX12_name ∈ am_gt := am_gt_in (List.mem_of_getElem? (i := 1415) (by decide +kernel)) (by decide +kernel)
theorem im_X12_next : Cond.instanceMethod yX12_next ∈ am_gt := am_gt_in (List.mem_of_getElem? (i := 1353) (by decide +kernel)) (by decide +kernel)
theorem im_X12_not : Cond.instanceMethod yX12_not ∈ am_gt := am_gt_in (List.mem_of_getElem? (i := 1390) (by decide +kernel)) (by decide +kernel)
theorem im_X12_one : Cond.instanceMethod yX12_one ∈ am_gt := am_gt_in (List.mem_of_getElem? (i := 1407) (by decide +kernel)) (by decide +kernel)
theorem im_X12_opens : Cond.instanceMethod yX12_opens ∈ am_gt := am_gt_in (List.mem_of_getElem? (i := 1395) (by decide +kernel)) (by decide +kernel)
theorem im_X12_paceOf : Cond.instanceMethod yX12_paceOf ∈ am_gt := am_gt_in (List.mem_of_getElem? (i := 1330) (by decide +kernel)) (by decide +kernel)
theorem im_X12_part : Cond.instanceMethod yX12_part ∈ am_gt := am_gt_in (List.mem_of_getElem? (i := 1370) (by decide +kernel)) (by decide +kernel)
theorem im_X12_partsOf : Cond.instanceMethod yX12_partsOf ∈ am_gt := am_gt_in (List.mem_of_getElem? (i := 1341) (by decide +kernel)) (by decide +kernel)
theorem im_X12_priceOf : Cond.instanceMethod yX12_priceOf ∈ am_gt := am_gt_in (List.mem_of_getElem? (i := 1547) (by decide +kernel)) (by decide +kernel)
theorem im_X12_read : Cond.instanceMethod yX12_read ∈ am_gt := am_gt_in (List.mem_of_getElem? (i := 1349) (by decide +kernel)) (by decide +kernel)
theorem im_X12_rowed : Cond.instanceMethod yX12_rowed ∈ am_gt := am_gt_in (List.mem_of_getElem? (i := 1487) (by decide +kernel)) (by decide +kernel)
theorem im_X12_rower : Cond.instanceMethod yX12_rower ∈ am_gt := am_gt_in (List.mem_of_getElem? (i := 1305) (by decide +kernel)) (by decide +kernel)
theorem im_X12_term : Cond.instanceMethod yX12_term ∈ am_gt := am_gt_in (List.mem_of_getElem? (i := 1403) (by decide +kernel)) (by decide +kernel)
theorem im_X12_turnOf : Cond.instanceMethod yX12_turnOf ∈ am_gt := am_gt_in (List.mem_of_getElem? (i := 1480) (by decide +kernel)) (by decide +kernel)
theorem im_X12_walks : Cond.instanceMethod yX12_walks ∈ am_gt := am_gt_in (List.mem_of_getElem? (i := 1520) (by decide +kernel)) (by decide +kernel)
theorem im_X1_become : Cond.instanceMethod yX1_become ∈ am_gt := am_gt_in (List.mem_of_getElem? (i := 498) (by decide +kernel)) (by decide +kernel)
theorem im_X1_comeBack : Cond.instanceMethod yX1_comeBack ∈ am_gt := am_gt_in (List.mem_of_getElem? (i := 1017) (by decide +kernel)) (by decide +kernel)
theorem im_X1_crewNeeded : Cond.instanceMethod yX1_crewNeeded ∈ am_gt := am_gt_in (List.mem_of_getElem? (i := 909) (by decide +kernel)) (by decide +kernel)
theorem im_X1_init : Cond.instanceMethod yX1_init ∈ am_gt := am_gt_in (List.mem_of_getElem? (i := 457) (by decide +kernel)) (by decide +kernel)
theorem im_X1_keep : Cond.instanceMethod yX1_keep ∈ am_gt := am_gt_in (List.mem_of_getElem? (i := 992) (by decide +kernel)) (by decide +kernel)
theorem im_X1_takeHeads : Cond.instanceMethod yX1_takeHeads ∈ am_gt := am_gt_in (List.mem_of_getElem? (i := 503) (by decide +kernel)) (by decide +kernel)
theorem im_X2_init : Cond.instanceMethod yX2_init ∈ am_gt := am_gt_in (List.mem_of_getElem? (i := 620) (by decide +kernel)) (by decide +kernel)
theorem im_X2_may : Cond.instanceMethod yX2_may ∈ am_gt := am_gt_in (List.mem_of_getElem? (i := 698) (by decide +kernel)) (by decide +kernel)
theorem im_X2_pace : Cond.instanceMethod yX2_pace ∈ am_gt := am_gt_in (List.mem_of_getElem? (i := 672) (by decide +kernel)) (by decide +kernel)
theorem im_X2_parts : Cond.instanceMethod yX2_parts ∈ am_gt := am_gt_in (List.mem_of_getElem? (i := 733) (by decide +kernel)) (by decide +kernel)
theorem im_X3_init : Cond.instanceMethod yX3_init ∈ am_gt := am_gt_in (List.mem_of_getElem? (i := 520) (by decide +kernel)) (by decide +kernel)
theorem im_X3_may : Cond.instanceMethod yX3_may ∈ am_gt := am_gt_in (List.mem_of_getElem? (i := 705) (by decide +kernel)) (by decide +kernel)
theorem im_X3_pace : Cond.instanceMethod yX3_pace ∈ am_gt := am_gt_in (List.mem_of_getElem? (i := 679) (by decide +kernel)) (by decide +kernel)
theorem im_X3_parts : Cond.instanceMethod yX3_parts ∈ am_gt := am_gt_in (List.mem_of_getElem? (i := 739) (by decide +kernel)) (by decide +kernel)
theorem im_X4_comeBack : Cond.instanceMethod yX4_comeBack ∈ am_gt := am_gt_in (List.mem_of_getElem? (i := 1031) (by decide +kernel)) (by decide +kernel)
theorem im_X4_keep : Cond.instanceMethod yX4_keep ∈ am_gt := am_gt_in (List.mem_of_getElem? (i := 1006) (by decide +kernel)) (by decide +kernel)
theorem im_X4_leastWay : Cond.instanceMethod yX4_leastWay ∈ am_gt := am_gt_in (List.mem_of_getElem? (i := 928) (by decide +kernel)) (by decide +kernel)
theorem im_X4_lostMinutes : Cond.instanceMethod yX4_lostMinutes ∈ am_gt := am_gt_in (List.mem_of_getElem? (i := 951) (by decide +kernel)) (by decide +kernel)
theorem im_X4_measure : Cond.instanceMethod yX4_measure ∈ am_gt := am_gt_in (List.mem_of_getElem? (i := 933) (by decide +kernel)) (by decide +kernel)
theorem im_X4_measureNow : Cond.instanceMethod yX4_measureNow ∈ am_gt := am_gt_in (List.mem_of_getElem? (i := 947) (by decide +kernel)) (by decide +kernel)
theorem im_X4_measureThen : Cond.instanceMethod yX4_measureThen ∈ am_gt := am_gt_in (List.mem_of_getElem? (i := 943) (by decide +kernel)) (by decide +kernel)
theorem im_X4_takePath : Cond.instanceMethod yX4_takePath ∈ am_gt := am_gt_in (List.mem_of_getElem? (i := 917) (by decide +kernel)) (by decide +kernel)
theorem im_X5_init : Cond.instanceMethod yX5_init ∈ am_gt := am_gt_in (List.mem_of_getElem? (i := 588) (by decide +kernel)) (by decide +kernel)
theorem im_X5_may : Cond.instanceMethod yX5_may ∈ am_gt := am_gt_in (List.mem_of_getElem? (i := 709) (by decide +kernel)) (by decide +kernel)
theorem im_X5_pace : Cond.instanceMethod yX5_pace ∈ am_gt := am_gt_in (List.mem_of_getElem? (i := 683) (by decide +kernel)) (by decide +kernel)
theorem im_X5_parts : Cond.instanceMethod yX5_parts ∈ am_gt := am_gt_in (List.mem_of_getElem? (i := 743) (by decide +kernel)) (by decide +kernel)
theorem im_X6_init : Cond.instanceMethod yX6_init ∈ am_gt := am_gt_in (List.mem_of_getElem? (i := 572) (by decide +kernel)) (by decide +kernel)
theorem im_X6_may : Cond.instanceMethod yX6_may ∈ am_gt := am_gt_in (List.mem_of_getElem? (i := 701) (by decide +kernel)) (by decide +kernel)
theorem im_X6_pace : Cond.instanceMethod yX6_pace ∈ am_gt := am_gt_in (List.mem_of_getElem? (i := 675) (by decide +kernel)) (by decide +kernel)
theorem im_X7_comeBack : Cond.instanceMethod yX7_comeBack ∈ am_gt := am_gt_in (List.mem_of_getElem? (i := 1021) (by decide +kernel)) (by decide +kernel)
theorem im_X7_init : Cond.instanceMethod yX7_init ∈ am_gt := am_gt_in (List.mem_of_getElem? (i := 523) (by decide +kernel)) (by decide +kernel)
theorem im_X7_isIll : Cond.instanceMethod yX7_isIll ∈ am_gt := am_gt_in (List.mem_of_getElem? (i := 716) (by decide +kernel)) (by decide +kernel)
theorem im_X7_keep : Cond.instanceMethod yX7_keep ∈ am_gt := am_gt_in (List.mem_of_getElem? (i := 996) (by decide +kernel)) (by decide +kernel)
theorem im_X7_may : Cond.instanceMethod yX7_may ∈ am_gt := am_gt_in (List.mem_of_getElem? (i := 694) (by decide +kernel)) (by decide +kernel)
theorem im_X7_pace : Cond.instanceMethod yX7_pace ∈ am_gt := am_gt_in (List.mem_of_getElem? (i := 668) (by decide +kernel)) (by decide +kernel)
theorem im_X7_parts : Cond.instanceMethod yX7_parts ∈ am_gt := am_gt_in (List.mem_of_getElem? (i := 729) (by decide +kernel)) (by decide +kernel)
theorem im_X7_rowsAt : Cond.instanceMethod yX7_rowsAt ∈ am_gt := am_gt_in (List.mem_of_getElem? (i := 859) (by decide +kernel)) (by decide +kernel)
theorem im_X7_toldPace : Cond.instanceMethod yX7_toldPace ∈ am_gt := am_gt_in (List.mem_of_getElem? (i := 658) (by decide +kernel)) (by decide +kernel)
theorem im_X8_become : Cond.instanceMethod yX8_become ∈ am_gt := am_gt_in (List.mem_of_getElem? (i := 1055) (by decide +kernel)) (by decide +kernel)
theorem im_X8_holds : Cond.instanceMethod yX8_holds ∈ am_gt := am_gt_in (List.mem_of_getElem? (i := 819) (by decide +kernel)) (by decide +kernel)
theorem im_X8_isMissing : Cond.instanceMethod yX8_isMissing ∈ am_gt := am_gt_in (List.mem_of_getElem? (i := 807) (by decide +kernel)) (by decide +kernel)
theorem im_X8_item : Cond.instanceMethod yX8_item ∈ am_gt := am_gt_in (List.mem_of_getElem? (i := 815) (by decide +kernel)) (by decide +kernel)
theorem im_X8_put : Cond.instanceMethod yX8_put ∈ am_gt := am_gt_in (List.mem_of_getElem? (i := 1068) (by decide +kernel)) (by decide +kernel)
theorem im_X9_init : Cond.instanceMethod yX9_init ∈ am_gt := am_gt_in (List.mem_of_getElem? (i := 604) (by decide +kernel)) (by decide +kernel)
theorem im_X9_may : Cond.instanceMethod yX9_may ∈ am_gt := am_gt_in (List.mem_of_getElem? (i := 720) (by decide +kernel)) (by decide +kernel)
theorem im_X9_pace : Cond.instanceMethod yX9_pace ∈ am_gt := am_gt_in (List.mem_of_getElem? (i := 688) (by decide +kernel)) (by decide +kernel)
theorem im_X9_parts : Cond.instanceMethod yX9_parts ∈ am_gt := am_gt_in (List.mem_of_getElem? (i := 748) (by decide +kernel)) (by decide +kernel)
theorem im_X9_rowsAt : Cond.instanceMethod yX9_rowsAt ∈ am_gt := am_gt_in (List.mem_of_getElem? (i := 867) (by decide +kernel)) (by decide +kernel)
theorem im_objInit : Cond.instanceMethod Lib.objectInit ∈ am_gt := am_gt_in (List.mem_of_getElem? (i := 91) (by decide +kernel)) (by decide +kernel)
theorem in_RJ0 : Cond.initialized RJ0 ∈ am_gt := am_gt_in (List.mem_of_getElem? (i := 69) (by decide +kernel)) (by decide +kernel)
theorem in_RJ7 : Cond.initialized RJ7 ∈ am_gt := am_gt_in (List.mem_of_getElem? (i := 84) (by decide +kernel)) (by decide +kernel)
theorem in_RX0 : Cond.initialized RX0 ∈ am_gt := am_gt_in (List.mem_of_getElem? (i := 66) (by decide +kernel)) (by decide +kernel)
theorem in_RX1 : Cond.initialized RX1 ∈ am_gt := am_gt_in (List.mem_of_getElem? (i := 76) (by decide +kernel)) (by decide +kernel)
theorem in_RX10 : Cond.initialized RX10 ∈ am_gt := am_gt_in (List.mem_of_getElem? (i := 65) (by decide +kernel)) (by decide +kernel)
theorem in_RX11 : Cond.initialized RX11 ∈ am_gt := am_gt_in (List.mem_of_getElem? (i := 64) (by decide +kernel)) (by decide +kernel)
theorem in_RX12 : Cond.initialized RX12 ∈ am_gt := am_gt_in (List.mem_of_getElem? (i := 75) (by decide +kernel)) (by decide +kernel)
theorem in_RX2 : Cond.initialized RX2 ∈ am_gt := am_gt_in (List.mem_of_getElem? (i := 82) (by decide +kernel)) (by decide +kernel)
theorem in_RX3 : Cond.initialized RX3 ∈ am_gt := am_gt_in (List.mem_of_getElem? (i := 78) (by decide +kernel)) (by decide +kernel)
theorem in_RX4 : Cond.initialized RX4 ∈ am_gt := am_gt_in (List.mem_of_getElem? (i := 67) (by decide +kernel)) (by decide +kernel)
theorem in_RX5 : Cond.initialized RX5 ∈ am_gt := am_gt_in (List.mem_of_getElem? (i := 80) (by decide +kernel)) (by decide +kernel)
theorem in_RX6 : Cond.initialized RX6 ∈ am_gt := am_gt_in (List.mem_of_getElem? (i := 79) (by decide +kernel)) (by decide +kernel)
theorem in_RX7 : Cond.initialized RX7 ∈ am_gt := am_gt_in (List.mem_of_getElem? (i := 77) (by decide +kernel)) (by decide +kernel)
theorem in_RX8 : Cond.initialized RX8 ∈ am_gt := am_gt_in (List.mem_of_getElem? (i := 68) (by decide +kernel)) (by decide +kernel)
theorem in_RX9 : Cond.initialized RX9 ∈ am_gt := am_gt_in (List.mem_of_getElem? (i := 81) (by decide +kernel)) (by decide +kernel)
theorem in_math : Cond.initialized "java/lang/Math" ∈ am_gt := am_gt_in (List.mem_of_getElem? (i := 73) (by decide +kernel)) (by decide +kernel)
theorem in_sys : Cond.initialized "java/lang/System" ∈ am_gt := am_gt_in (List.mem_of_getElem? (i := 83) (by decide +kernel)) (by decide +kernel)
theorem it_RX1 : Cond.instantiable RX1 6 ∈ am_gt := am_gt_in (List.mem_of_getElem? (i := 455) (by decide +kernel)) (by decide +kernel)
theorem it_RX2 : Cond.instantiable RX2 9 ∈ am_gt := am_gt_in (List.mem_of_getElem? (i := 618) (by decide +kernel)) (by decide +kernel)
theorem it_RX3 : Cond.instantiable RX3 9 ∈ am_gt := am_gt_in (List.mem_of_getElem? (i := 518) (by decide +kernel)) (by decide +kernel)
theorem it_RX5 : Cond.instantiable RX5 9 ∈ am_gt := am_gt_in (List.mem_of_getElem? (i := 586) (by decide +kernel)) (by decide +kernel)
theorem it_RX6 : Cond.instantiable RX6 9 ∈ am_gt := am_gt_in (List.mem_of_getElem? (i := 570) (by decide +kernel)) (by decide +kernel)
theorem it_RX7 : Cond.instantiable RX7 9 ∈ am_gt := am_gt_in (List.mem_of_getElem? (i := 633) (by decide +kernel)) (by decide +kernel)
theorem it_RX9 : Cond.instantiable RX9 9 ∈ am_gt := am_gt_in (List.mem_of_getElem? (i := 602) (by decide +kernel)) (by decide +kernel)
theorem ki_RX11_141 : Cond.constant RX11 141 (-1000000 : Int32) ∈ am_gt := am_gt_in (List.mem_of_getElem? (i := 656) (by decide +kernel)) (by decide +kernel)
theorem ki_RX11_272 : Cond.constant RX11 272 (1000000 : Int32) ∈ am_gt := am_gt_in (List.mem_of_getElem? (i := 937) (by decide +kernel)) (by decide +kernel)
theorem ki_RX11_292 : Cond.constant RX11 292 (99999 : Int32) ∈ am_gt := am_gt_in (List.mem_of_getElem? (i := 971) (by decide +kernel)) (by decide +kernel)
theorem ki_RX12_182 : Cond.constant RX12 182 (-1000000 : Int32) ∈ am_gt := am_gt_in (List.mem_of_getElem? (i := 1327) (by decide +kernel)) (by decide +kernel)
theorem ki_RX4_30 : Cond.constant RX4 30 (1000000 : Int32) ∈ am_gt := am_gt_in (List.mem_of_getElem? (i := 935) (by decide +kernel)) (by decide +kernel)
theorem kl_RX0_20 : Cond.constantLong RX0 20 (16777216 : Int64) ∈ am_gt := am_gt_in (List.mem_of_getElem? (i := 840) (by decide +kernel)) (by decide +kernel)
theorem kl_RX0_61 : Cond.constantLong RX0 61 (2 : Int64) ∈ am_gt := am_gt_in (List.mem_of_getElem? (i := 839) (by decide +kernel)) (by decide +kernel)
theorem kl_RX11_85 : Cond.constantLong RX11 85 (10 : Int64) ∈ am_gt := am_gt_in (List.mem_of_getElem? (i := 492) (by decide +kernel)) (by decide +kernel)
theorem kl_RX11_95 : Cond.constantLong RX11 95 (20 : Int64) ∈ am_gt := am_gt_in (List.mem_of_getElem? (i := 501) (by decide +kernel)) (by decide +kernel)
theorem kl_RX12_129 : Cond.constantLong RX12 129 (255 : Int64) ∈ am_gt := am_gt_in (List.mem_of_getElem? (i := 1100) (by decide +kernel)) (by decide +kernel)
theorem kl_RX12_141 : Cond.constantLong RX12 141 (23 : Int64) ∈ am_gt := am_gt_in (List.mem_of_getElem? (i := 1326) (by decide +kernel)) (by decide +kernel)
theorem kl_RX12_143 : Cond.constantLong RX12 143 (99 : Int64) ∈ am_gt := am_gt_in (List.mem_of_getElem? (i := 1293) (by decide +kernel)) (by decide +kernel)
theorem kl_RX12_145 : Cond.constantLong RX12 145 (60 : Int64) ∈ am_gt := am_gt_in (List.mem_of_getElem? (i := 1286) (by decide +kernel)) (by decide +kernel)
theorem kl_RX12_151 : Cond.constantLong RX12 151 (9 : Int64) ∈ am_gt := am_gt_in (List.mem_of_getElem? (i := 1298) (by decide +kernel)) (by decide +kernel)
theorem kl_RX12_162 : Cond.constantLong RX12 162 (999 : Int64) ∈ am_gt := am_gt_in (List.mem_of_getElem? (i := 1303) (by decide +kernel)) (by decide +kernel)
theorem kl_RX12_164 : Cond.constantLong RX12 164 (5 : Int64) ∈ am_gt := am_gt_in (List.mem_of_getElem? (i := 1308) (by decide +kernel)) (by decide +kernel)
theorem kl_RX12_166 : Cond.constantLong RX12 166 (1400 : Int64) ∈ am_gt := am_gt_in (List.mem_of_getElem? (i := 1309) (by decide +kernel)) (by decide +kernel)
theorem kl_RX12_168 : Cond.constantLong RX12 168 (9099 : Int64) ∈ am_gt := am_gt_in (List.mem_of_getElem? (i := 1310) (by decide +kernel)) (by decide +kernel)
theorem kl_RX12_173 : Cond.constantLong RX12 173 (6 : Int64) ∈ am_gt := am_gt_in (List.mem_of_getElem? (i := 1336) (by decide +kernel)) (by decide +kernel)
theorem kl_RX12_175 : Cond.constantLong RX12 175 (21 : Int64) ∈ am_gt := am_gt_in (List.mem_of_getElem? (i := 1337) (by decide +kernel)) (by decide +kernel)
theorem kl_RX12_177 : Cond.constantLong RX12 177 (13 : Int64) ∈ am_gt := am_gt_in (List.mem_of_getElem? (i := 1338) (by decide +kernel)) (by decide +kernel)
theorem kl_RX12_198 : Cond.constantLong RX12 198 (8 : Int64) ∈ am_gt := am_gt_in (List.mem_of_getElem? (i := 1432) (by decide +kernel)) (by decide +kernel)
theorem kl_RX12_221 : Cond.constantLong RX12 221 (97 : Int64) ∈ am_gt := am_gt_in (List.mem_of_getElem? (i := 1359) (by decide +kernel)) (by decide +kernel)
theorem kl_RX12_223 : Cond.constantLong RX12 223 (122 : Int64) ∈ am_gt := am_gt_in (List.mem_of_getElem? (i := 1360) (by decide +kernel)) (by decide +kernel)
theorem kl_RX12_229 : Cond.constantLong RX12 229 (27 : Int64) ∈ am_gt := am_gt_in (List.mem_of_getElem? (i := 1361) (by decide +kernel)) (by decide +kernel)
theorem kl_RX12_231 : Cond.constantLong RX12 231 (96 : Int64) ∈ am_gt := am_gt_in (List.mem_of_getElem? (i := 1362) (by decide +kernel)) (by decide +kernel)
theorem kl_RX12_233 : Cond.constantLong RX12 233 (-1 : Int64) ∈ am_gt := am_gt_in (List.mem_of_getElem? (i := 1363) (by decide +kernel)) (by decide +kernel)
theorem kl_RX12_235 : Cond.constantLong RX12 235 (48 : Int64) ∈ am_gt := am_gt_in (List.mem_of_getElem? (i := 1364) (by decide +kernel)) (by decide +kernel)
theorem kl_RX12_237 : Cond.constantLong RX12 237 (57 : Int64) ∈ am_gt := am_gt_in (List.mem_of_getElem? (i := 1365) (by decide +kernel)) (by decide +kernel)
theorem kl_RX12_239 : Cond.constantLong RX12 239 (10 : Int64) ∈ am_gt := am_gt_in (List.mem_of_getElem? (i := 1366) (by decide +kernel)) (by decide +kernel)
theorem kl_RX12_257 : Cond.constantLong RX12 257 (4350799 : Int64) ∈ am_gt := am_gt_in (List.mem_of_getElem? (i := 1417) (by decide +kernel)) (by decide +kernel)
theorem kl_RX12_266 : Cond.constantLong RX12 266 (400334 : Int64) ∈ am_gt := am_gt_in (List.mem_of_getElem? (i := 1418) (by decide +kernel)) (by decide +kernel)
theorem kl_RX12_268 : Cond.constantLong RX12 268 (453959 : Int64) ∈ am_gt := am_gt_in (List.mem_of_getElem? (i := 1419) (by decide +kernel)) (by decide +kernel)
theorem kl_RX12_270 : Cond.constantLong RX12 270 (923 : Int64) ∈ am_gt := am_gt_in (List.mem_of_getElem? (i := 1420) (by decide +kernel)) (by decide +kernel)
theorem kl_RX12_275 : Cond.constantLong RX12 275 (168984 : Int64) ∈ am_gt := am_gt_in (List.mem_of_getElem? (i := 1421) (by decide +kernel)) (by decide +kernel)
theorem kl_RX12_280 : Cond.constantLong RX12 280 (11055682 : Int64) ∈ am_gt := am_gt_in (List.mem_of_getElem? (i := 1422) (by decide +kernel)) (by decide +kernel)
theorem kl_RX12_305 : Cond.constantLong RX12 305 (43 : Int64) ∈ am_gt := am_gt_in (List.mem_of_getElem? (i := 1423) (by decide +kernel)) (by decide +kernel)
theorem kl_RX12_307 : Cond.constantLong RX12 307 (10631 : Int64) ∈ am_gt := am_gt_in (List.mem_of_getElem? (i := 1392) (by decide +kernel)) (by decide +kernel)
theorem kl_RX12_315 : Cond.constantLong RX12 315 (1111 : Int64) ∈ am_gt := am_gt_in (List.mem_of_getElem? (i := 1424) (by decide +kernel)) (by decide +kernel)
theorem kl_RX12_320 : Cond.constantLong RX12 320 (423 : Int64) ∈ am_gt := am_gt_in (List.mem_of_getElem? (i := 1425) (by decide +kernel)) (by decide +kernel)
theorem kl_RX12_322 : Cond.constantLong RX12 322 (247162 : Int64) ∈ am_gt := am_gt_in (List.mem_of_getElem? (i := 1367) (by decide +kernel)) (by decide +kernel)
theorem kl_RX12_328 : Cond.constantLong RX12 328 (8863997 : Int64) ∈ am_gt := am_gt_in (List.mem_of_getElem? (i := 1426) (by decide +kernel)) (by decide +kernel)
theorem kl_RX12_330 : Cond.constantLong RX12 330 (409469 : Int64) ∈ am_gt := am_gt_in (List.mem_of_getElem? (i := 1427) (by decide +kernel)) (by decide +kernel)
theorem kl_RX12_349 : Cond.constantLong RX12 349 (14 : Int64) ∈ am_gt := am_gt_in (List.mem_of_getElem? (i := 1464) (by decide +kernel)) (by decide +kernel)
theorem kl_RX12_351 : Cond.constantLong RX12 351 (24 : Int64) ∈ am_gt := am_gt_in (List.mem_of_getElem? (i := 1465) (by decide +kernel)) (by decide +kernel)
theorem kl_RX12_353 : Cond.constantLong RX12 353 (20 : Int64) ∈ am_gt := am_gt_in (List.mem_of_getElem? (i := 1466) (by decide +kernel)) (by decide +kernel)
theorem kl_RX12_369 : Cond.constantLong RX12 369 (16 : Int64) ∈ am_gt := am_gt_in (List.mem_of_getElem? (i := 1494) (by decide +kernel)) (by decide +kernel)
theorem kl_RX12_374 : Cond.constantLong RX12 374 (3 : Int64) ∈ am_gt := am_gt_in (List.mem_of_getElem? (i := 1463) (by decide +kernel)) (by decide +kernel)
theorem kl_RX12_379 : Cond.constantLong RX12 379 (42 : Int64) ∈ am_gt := am_gt_in (List.mem_of_getElem? (i := 1508) (by decide +kernel)) (by decide +kernel)
theorem kl_RX12_381 : Cond.constantLong RX12 381 (2 : Int64) ∈ am_gt := am_gt_in (List.mem_of_getElem? (i := 1509) (by decide +kernel)) (by decide +kernel)
theorem kl_RX12_386 : Cond.constantLong RX12 386 (63 : Int64) ∈ am_gt := am_gt_in (List.mem_of_getElem? (i := 1539) (by decide +kernel)) (by decide +kernel)
theorem kl_RX12_397 : Cond.constantLong RX12 397 (99999 : Int64) ∈ am_gt := am_gt_in (List.mem_of_getElem? (i := 1544) (by decide +kernel)) (by decide +kernel)
theorem kl_RX12_402 : Cond.constantLong RX12 402 (100 : Int64) ∈ am_gt := am_gt_in (List.mem_of_getElem? (i := 1557) (by decide +kernel)) (by decide +kernel)
theorem kl_RX12_422 : Cond.constantLong RX12 422 (12 : Int64) ∈ am_gt := am_gt_in (List.mem_of_getElem? (i := 1586) (by decide +kernel)) (by decide +kernel)
theorem mh_RJ0 : am_noMH RJ0 := by decide +kernel
theorem mh_RJ7 : am_noMH RJ7 := by decide +kernel
theorem mh_RX0 : am_noMH RX0 := by decide +kernel
theorem mh_RX1 : am_noMH RX1 := by decide +kernel
theorem mh_RX10 : am_noMH RX10 := by decide +kernel
theorem mh_RX11 : am_noMH RX11 := by decide +kernel
theorem mh_RX12 : am_noMH RX12 := by decide +kernel
theorem mh_RX2 : am_noMH RX2 := by decide +kernel
theorem mh_RX3 : am_noMH RX3 := by decide +kernel
theorem mh_RX4 : am_noMH RX4 := by decide +kernel
theorem mh_RX5 : am_noMH RX5 := by decide +kernel
theorem mh_RX6 : am_noMH RX6 := by decide +kernel
theorem mh_RX7 : am_noMH RX7 := by decide +kernel
theorem mh_RX8 : am_noMH RX8 := by decide +kernel
theorem mh_RX9 : am_noMH RX9 := by decide +kernel
theorem ml_RX0_28 : Cond.methodLink RX0 28 yX8_item ∈ am_gt := am_gt_in (List.mem_of_getElem? (i := 814) (by decide +kernel)) (by decide +kernel)
theorem ml_RX0_41 : Cond.methodLink RX0 41 Lib.Math.min.name ∈ am_gt := am_gt_in (List.mem_of_getElem? (i := 826) (by decide +kernel)) (by decide +kernel)
theorem ml_RX0_47 : Cond.methodLink RX0 47 yX0_bestFrom ∈ am_gt := am_gt_in (List.mem_of_getElem? (i := 827) (by decide +kernel)) (by decide +kernel)
theorem ml_RX0_51 : Cond.methodLink RX0 51 yX0_planPuttingOff ∈ am_gt := am_gt_in (List.mem_of_getElem? (i := 831) (by decide +kernel)) (by decide +kernel)
theorem ml_RX0_54 : Cond.methodLink RX0 54 Lib.MathLoose.min_long.x ∈ am_gt := am_gt_in (List.mem_of_getElem? (i := 841) (by decide +kernel)) (by decide +kernel)
theorem ml_RX0_57 : Cond.methodLink RX0 57 yX0_waitsAfterLast ∈ am_gt := am_gt_in (List.mem_of_getElem? (i := 835) (by decide +kernel)) (by decide +kernel)
theorem ml_RX10_102 : Cond.methodLink RX10 102 yX10_takeNumber ∈ am_gt := am_gt_in (List.mem_of_getElem? (i := 294) (by decide +kernel)) (by decide +kernel)
theorem ml_RX10_107 : Cond.methodLink RX10 107 yJ0_indexOf_0f7a4 ∈ am_gt := am_gt_in (List.mem_of_getElem? (i := 299) (by decide +kernel)) (by decide +kernel)
theorem ml_RX10_111 : Cond.methodLink RX10 111 yX10_isWord ∈ am_gt := am_gt_in (List.mem_of_getElem? (i := 286) (by decide +kernel)) (by decide +kernel)
theorem ml_RX10_119 : Cond.methodLink RX10 119 yX10_doStep ∈ am_gt := am_gt_in (List.mem_of_getElem? (i := 760) (by decide +kernel)) (by decide +kernel)
theorem ml_RX10_123 : Cond.methodLink RX10 123 yX10_joined ∈ am_gt := am_gt_in (List.mem_of_getElem? (i := 764) (by decide +kernel)) (by decide +kernel)
theorem ml_RX10_29 : Cond.methodLink RX10 29 yJ0_length_8abf5 ∈ am_gt := am_gt_in (List.mem_of_getElem? (i := 219) (by decide +kernel)) (by decide +kernel)
theorem ml_RX10_35 : Cond.methodLink RX10 35 yJ0_charAt_5068e ∈ am_gt := am_gt_in (List.mem_of_getElem? (i := 229) (by decide +kernel)) (by decide +kernel)
theorem ml_RX10_39 : Cond.methodLink RX10 39 yX10_addBytes ∈ am_gt := am_gt_in (List.mem_of_getElem? (i := 267) (by decide +kernel)) (by decide +kernel)
theorem ml_RX10_54 : Cond.methodLink RX10 54 yX10_nextToken ∈ am_gt := am_gt_in (List.mem_of_getElem? (i := 275) (by decide +kernel)) (by decide +kernel)
theorem ml_RX10_57 : Cond.methodLink RX10 57 yX10_pass ∈ am_gt := am_gt_in (List.mem_of_getElem? (i := 358) (by decide +kernel)) (by decide +kernel)
theorem ml_RX10_61 : Cond.methodLink RX10 61 yX10_read ∈ am_gt := am_gt_in (List.mem_of_getElem? (i := 366) (by decide +kernel)) (by decide +kernel)
theorem ml_RX10_65 : Cond.methodLink RX10 65 yX10_write ∈ am_gt := am_gt_in (List.mem_of_getElem? (i := 374) (by decide +kernel)) (by decide +kernel)
theorem ml_RX10_71 : Cond.methodLink RX10 71 yX10_refuse ∈ am_gt := am_gt_in (List.mem_of_getElem? (i := 362) (by decide +kernel)) (by decide +kernel)
theorem ml_RX10_74 : Cond.methodLink RX10 74 yX10_readOpening ∈ am_gt := am_gt_in (List.mem_of_getElem? (i := 370) (by decide +kernel)) (by decide +kernel)
theorem ml_RX10_77 : Cond.methodLink RX10 77 yX10_readOne ∈ am_gt := am_gt_in (List.mem_of_getElem? (i := 378) (by decide +kernel)) (by decide +kernel)
theorem ml_RX10_80 : Cond.methodLink RX10 80 yX10_readJoined ∈ am_gt := am_gt_in (List.mem_of_getElem? (i := 382) (by decide +kernel)) (by decide +kernel)
theorem ml_RX10_86 : Cond.methodLink RX10 86 yX10_joins ∈ am_gt := am_gt_in (List.mem_of_getElem? (i := 386) (by decide +kernel)) (by decide +kernel)
theorem ml_RX10_93 : Cond.methodLink RX10 93 yX10_isLetter ∈ am_gt := am_gt_in (List.mem_of_getElem? (i := 279) (by decide +kernel)) (by decide +kernel)
theorem ml_RX10_96 : Cond.methodLink RX10 96 yX10_takeWord ∈ am_gt := am_gt_in (List.mem_of_getElem? (i := 282) (by decide +kernel)) (by decide +kernel)
theorem ml_RX10_99 : Cond.methodLink RX10 99 yX10_isDigit ∈ am_gt := am_gt_in (List.mem_of_getElem? (i := 291) (by decide +kernel)) (by decide +kernel)
theorem ml_RX11_106 : Cond.methodLink RX11 106 yX11_rowerAt ∈ am_gt := am_gt_in (List.mem_of_getElem? (i := 510) (by decide +kernel)) (by decide +kernel)
theorem ml_RX11_113 : Cond.methodLink RX11 113 yX11_newRower ∈ am_gt := am_gt_in (List.mem_of_getElem? (i := 514) (by decide +kernel)) (by decide +kernel)
theorem ml_RX11_119 : Cond.methodLink RX11 119 yX3_init ∈ am_gt := am_gt_in (List.mem_of_getElem? (i := 519) (by decide +kernel)) (by decide +kernel)
theorem ml_RX11_124 : Cond.methodLink RX11 124 yX6_init ∈ am_gt := am_gt_in (List.mem_of_getElem? (i := 571) (by decide +kernel)) (by decide +kernel)
theorem ml_RX11_127 : Cond.methodLink RX11 127 yX5_init ∈ am_gt := am_gt_in (List.mem_of_getElem? (i := 587) (by decide +kernel)) (by decide +kernel)
theorem ml_RX11_130 : Cond.methodLink RX11 130 yX9_init ∈ am_gt := am_gt_in (List.mem_of_getElem? (i := 603) (by decide +kernel)) (by decide +kernel)
theorem ml_RX11_133 : Cond.methodLink RX11 133 yX2_init ∈ am_gt := am_gt_in (List.mem_of_getElem? (i := 619) (by decide +kernel)) (by decide +kernel)
theorem ml_RX11_134 : Cond.methodLink RX11 134 yX7_init ∈ am_gt := am_gt_in (List.mem_of_getElem? (i := 634) (by decide +kernel)) (by decide +kernel)
theorem ml_RX11_138 : Cond.methodLink RX11 138 yX11_isHour ∈ am_gt := am_gt_in (List.mem_of_getElem? (i := 653) (by decide +kernel)) (by decide +kernel)
theorem ml_RX11_160 : Cond.methodLink RX11 160 yX7_toldPace ∈ am_gt := am_gt_in (List.mem_of_getElem? (i := 657) (by decide +kernel)) (by decide +kernel)
theorem ml_RX11_163 : Cond.methodLink RX11 163 yX7_may ∈ am_gt := am_gt_in (List.mem_of_getElem? (i := 693) (by decide +kernel)) (by decide +kernel)
theorem ml_RX11_166 : Cond.methodLink RX11 166 yX7_parts ∈ am_gt := am_gt_in (List.mem_of_getElem? (i := 728) (by decide +kernel)) (by decide +kernel)
theorem ml_RX11_169 : Cond.methodLink RX11 169 yX11_byRule ∈ am_gt := am_gt_in (List.mem_of_getElem? (i := 752) (by decide +kernel)) (by decide +kernel)
theorem ml_RX11_173 : Cond.methodLink RX11 173 yX10_addBytes ∈ am_gt := am_gt_in (List.mem_of_getElem? (i := 771) (by decide +kernel)) (by decide +kernel)
theorem ml_RX11_183 : Cond.methodLink RX11 183 yX11_oneOf ∈ am_gt := am_gt_in (List.mem_of_getElem? (i := 784) (by decide +kernel)) (by decide +kernel)
theorem ml_RX11_186 : Cond.methodLink RX11 186 yX11_otherOf ∈ am_gt := am_gt_in (List.mem_of_getElem? (i := 788) (by decide +kernel)) (by decide +kernel)
theorem ml_RX11_189 : Cond.methodLink RX11 189 Lib.Math.max.name ∈ am_gt := am_gt_in (List.mem_of_getElem? (i := 792) (by decide +kernel)) (by decide +kernel)
theorem ml_RX11_194 : Cond.methodLink RX11 194 Lib.Math.min.name ∈ am_gt := am_gt_in (List.mem_of_getElem? (i := 793) (by decide +kernel)) (by decide +kernel)
theorem ml_RX11_200 : Cond.methodLink RX11 200 yX10_value ∈ am_gt := am_gt_in (List.mem_of_getElem? (i := 756) (by decide +kernel)) (by decide +kernel)
theorem ml_RX11_204 : Cond.methodLink RX11 204 yX11_sheetAt ∈ am_gt := am_gt_in (List.mem_of_getElem? (i := 802) (by decide +kernel)) (by decide +kernel)
theorem ml_RX11_208 : Cond.methodLink RX11 208 yX8_isMissing ∈ am_gt := am_gt_in (List.mem_of_getElem? (i := 806) (by decide +kernel)) (by decide +kernel)
theorem ml_RX11_212 : Cond.methodLink RX11 212 yX0_awaits ∈ am_gt := am_gt_in (List.mem_of_getElem? (i := 810) (by decide +kernel)) (by decide +kernel)
theorem ml_RX11_216 : Cond.methodLink RX11 216 yX0_bestPlan ∈ am_gt := am_gt_in (List.mem_of_getElem? (i := 822) (by decide +kernel)) (by decide +kernel)
theorem ml_RX11_220 : Cond.methodLink RX11 220 yX0_waitsOf ∈ am_gt := am_gt_in (List.mem_of_getElem? (i := 844) (by decide +kernel)) (by decide +kernel)
theorem ml_RX11_224 : Cond.methodLink RX11 224 yX0_minutesOf ∈ am_gt := am_gt_in (List.mem_of_getElem? (i := 847) (by decide +kernel)) (by decide +kernel)
theorem ml_RX11_227 : Cond.methodLink RX11 227 yX11_dueTwo ∈ am_gt := am_gt_in (List.mem_of_getElem? (i := 854) (by decide +kernel)) (by decide +kernel)
theorem ml_RX11_230 : Cond.methodLink RX11 230 yX11_turn ∈ am_gt := am_gt_in (List.mem_of_getElem? (i := 874) (by decide +kernel)) (by decide +kernel)
theorem ml_RX11_233 : Cond.methodLink RX11 233 yX11_oneMore ∈ am_gt := am_gt_in (List.mem_of_getElem? (i := 875) (by decide +kernel)) (by decide +kernel)
theorem ml_RX11_240 : Cond.methodLink RX11 240 yX11_firstOther ∈ am_gt := am_gt_in (List.mem_of_getElem? (i := 883) (by decide +kernel)) (by decide +kernel)
theorem ml_RX11_244 : Cond.methodLink RX11 244 yX8_item ∈ am_gt := am_gt_in (List.mem_of_getElem? (i := 887) (by decide +kernel)) (by decide +kernel)
theorem ml_RX11_247 : Cond.methodLink RX11 247 yX7_rowsAt ∈ am_gt := am_gt_in (List.mem_of_getElem? (i := 858) (by decide +kernel)) (by decide +kernel)
theorem ml_RX11_250 : Cond.methodLink RX11 250 yX11_eldestSon ∈ am_gt := am_gt_in (List.mem_of_getElem? (i := 892) (by decide +kernel)) (by decide +kernel)
theorem ml_RX11_253 : Cond.methodLink RX11 253 yX11_firstOfBlood ∈ am_gt := am_gt_in (List.mem_of_getElem? (i := 896) (by decide +kernel)) (by decide +kernel)
theorem ml_RX11_256 : Cond.methodLink RX11 256 yX11_mostTurns ∈ am_gt := am_gt_in (List.mem_of_getElem? (i := 900) (by decide +kernel)) (by decide +kernel)
theorem ml_RX11_262 : Cond.methodLink RX11 262 yX1_crewNeeded ∈ am_gt := am_gt_in (List.mem_of_getElem? (i := 908) (by decide +kernel)) (by decide +kernel)
theorem ml_RX11_265 : Cond.methodLink RX11 265 yX4_takePath ∈ am_gt := am_gt_in (List.mem_of_getElem? (i := 916) (by decide +kernel)) (by decide +kernel)
theorem ml_RX11_268 : Cond.methodLink RX11 268 yX4_leastWay ∈ am_gt := am_gt_in (List.mem_of_getElem? (i := 927) (by decide +kernel)) (by decide +kernel)
theorem ml_RX11_273 : Cond.methodLink RX11 273 yX4_measureThen ∈ am_gt := am_gt_in (List.mem_of_getElem? (i := 942) (by decide +kernel)) (by decide +kernel)
theorem ml_RX11_277 : Cond.methodLink RX11 277 yX4_measureNow ∈ am_gt := am_gt_in (List.mem_of_getElem? (i := 946) (by decide +kernel)) (by decide +kernel)
theorem ml_RX11_280 : Cond.methodLink RX11 280 yX4_lostMinutes ∈ am_gt := am_gt_in (List.mem_of_getElem? (i := 950) (by decide +kernel)) (by decide +kernel)
theorem ml_RX11_283 : Cond.methodLink RX11 283 yX11_isABoat ∈ am_gt := am_gt_in (List.mem_of_getElem? (i := 958) (by decide +kernel)) (by decide +kernel)
theorem ml_RX11_286 : Cond.methodLink RX11 286 Lib.Math.abs.name ∈ am_gt := am_gt_in (List.mem_of_getElem? (i := 961) (by decide +kernel)) (by decide +kernel)
theorem ml_RX11_289 : Cond.methodLink RX11 289 yX11_turnedAbout ∈ am_gt := am_gt_in (List.mem_of_getElem? (i := 964) (by decide +kernel)) (by decide +kernel)
theorem ml_RX11_293 : Cond.methodLink RX11 293 yX11_priceOf ∈ am_gt := am_gt_in (List.mem_of_getElem? (i := 972) (by decide +kernel)) (by decide +kernel)
theorem ml_RX11_296 : Cond.methodLink RX11 296 yX11_shareOf ∈ am_gt := am_gt_in (List.mem_of_getElem? (i := 980) (by decide +kernel)) (by decide +kernel)
theorem ml_RX11_315 : Cond.methodLink RX11 315 yX1_keep ∈ am_gt := am_gt_in (List.mem_of_getElem? (i := 991) (by decide +kernel)) (by decide +kernel)
theorem ml_RX11_318 : Cond.methodLink RX11 318 yX7_keep ∈ am_gt := am_gt_in (List.mem_of_getElem? (i := 995) (by decide +kernel)) (by decide +kernel)
theorem ml_RX11_319 : Cond.methodLink RX11 319 yX4_keep ∈ am_gt := am_gt_in (List.mem_of_getElem? (i := 1005) (by decide +kernel)) (by decide +kernel)
theorem ml_RX11_324 : Cond.methodLink RX11 324 yX1_comeBack ∈ am_gt := am_gt_in (List.mem_of_getElem? (i := 1016) (by decide +kernel)) (by decide +kernel)
theorem ml_RX11_327 : Cond.methodLink RX11 327 yX7_comeBack ∈ am_gt := am_gt_in (List.mem_of_getElem? (i := 1020) (by decide +kernel)) (by decide +kernel)
theorem ml_RX11_328 : Cond.methodLink RX11 328 yX4_comeBack ∈ am_gt := am_gt_in (List.mem_of_getElem? (i := 1030) (by decide +kernel)) (by decide +kernel)
theorem ml_RX11_329 : Cond.methodLink RX11 329 yX11_openOnes ∈ am_gt := am_gt_in (List.mem_of_getElem? (i := 1038) (by decide +kernel)) (by decide +kernel)
theorem ml_RX11_332 : Cond.methodLink RX11 332 yX11_illOnes ∈ am_gt := am_gt_in (List.mem_of_getElem? (i := 1042) (by decide +kernel)) (by decide +kernel)
theorem ml_RX11_335 : Cond.methodLink RX11 335 yX11_turnsInAll ∈ am_gt := am_gt_in (List.mem_of_getElem? (i := 1046) (by decide +kernel)) (by decide +kernel)
theorem ml_RX11_342 : Cond.methodLink RX11 342 yX8_become ∈ am_gt := am_gt_in (List.mem_of_getElem? (i := 1054) (by decide +kernel)) (by decide +kernel)
theorem ml_RX11_344 : Cond.methodLink RX11 344 yX8_put ∈ am_gt := am_gt_in (List.mem_of_getElem? (i := 1067) (by decide +kernel)) (by decide +kernel)
theorem ml_RX11_351 : Cond.methodLink RX11 351 yX8_holds ∈ am_gt := am_gt_in (List.mem_of_getElem? (i := 1075) (by decide +kernel)) (by decide +kernel)
theorem ml_RX11_357 : Cond.methodLink RX11 357 arraycopyName ∈ am_gt := am_gt_in (List.mem_of_getElem? (i := 1076) (by decide +kernel)) (by decide +kernel)
theorem ml_RX11_363 : Cond.methodLink RX11 363 yX11_rower ∈ am_gt := am_gt_in (List.mem_of_getElem? (i := 1081) (by decide +kernel)) (by decide +kernel)
theorem ml_RX11_367 : Cond.methodLink RX11 367 yX11_isUnder ∈ am_gt := am_gt_in (List.mem_of_getElem? (i := 1086) (by decide +kernel)) (by decide +kernel)
theorem ml_RX11_62 : Cond.methodLink RX11 62 yX10_readTape ∈ am_gt := am_gt_in (List.mem_of_getElem? (i := 271) (by decide +kernel)) (by decide +kernel)
theorem ml_RX11_66 : Cond.methodLink RX11 66 yX11_within ∈ am_gt := am_gt_in (List.mem_of_getElem? (i := 449) (by decide +kernel)) (by decide +kernel)
theorem ml_RX11_70 : Cond.methodLink RX11 70 yX4_areTwo ∈ am_gt := am_gt_in (List.mem_of_getElem? (i := 452) (by decide +kernel)) (by decide +kernel)
theorem ml_RX11_78 : Cond.methodLink RX11 78 yX1_init ∈ am_gt := am_gt_in (List.mem_of_getElem? (i := 456) (by decide +kernel)) (by decide +kernel)
theorem ml_RX11_81 : Cond.methodLink RX11 81 yX11_setWater ∈ am_gt := am_gt_in (List.mem_of_getElem? (i := 488) (by decide +kernel)) (by decide +kernel)
theorem ml_RX11_87 : Cond.methodLink RX11 87 yX11_crossingAt ∈ am_gt := am_gt_in (List.mem_of_getElem? (i := 493) (by decide +kernel)) (by decide +kernel)
theorem ml_RX11_91 : Cond.methodLink RX11 91 yX1_become ∈ am_gt := am_gt_in (List.mem_of_getElem? (i := 497) (by decide +kernel)) (by decide +kernel)
theorem ml_RX11_97 : Cond.methodLink RX11 97 yX1_takeHeads ∈ am_gt := am_gt_in (List.mem_of_getElem? (i := 502) (by decide +kernel)) (by decide +kernel)
theorem ml_RX12_134 : Cond.methodLink RX12 134 yX12_in ∈ am_gt := am_gt_in (List.mem_of_getElem? (i := 1287) (by decide +kernel)) (by decide +kernel)
theorem ml_RX12_147 : Cond.methodLink RX12 147 yX12_areLandings ∈ am_gt := am_gt_in (List.mem_of_getElem? (i := 1290) (by decide +kernel)) (by decide +kernel)
theorem ml_RX12_159 : Cond.methodLink RX12 159 yX12_isCrossing ∈ am_gt := am_gt_in (List.mem_of_getElem? (i := 1299) (by decide +kernel)) (by decide +kernel)
theorem ml_RX12_170 : Cond.methodLink RX12 170 yX12_isRower ∈ am_gt := am_gt_in (List.mem_of_getElem? (i := 1311) (by decide +kernel)) (by decide +kernel)
theorem ml_RX12_179 : Cond.methodLink RX12 179 yX12_isHour ∈ am_gt := am_gt_in (List.mem_of_getElem? (i := 1323) (by decide +kernel)) (by decide +kernel)
theorem ml_RX12_183 : Cond.methodLink RX12 183 yX12_paceOf ∈ am_gt := am_gt_in (List.mem_of_getElem? (i := 1328) (by decide +kernel)) (by decide +kernel)
theorem ml_RX12_187 : Cond.methodLink RX12 187 yX12_may ∈ am_gt := am_gt_in (List.mem_of_getElem? (i := 1332) (by decide +kernel)) (by decide +kernel)
theorem ml_RX12_191 : Cond.methodLink RX12 191 yX12_partsOf ∈ am_gt := am_gt_in (List.mem_of_getElem? (i := 1339) (by decide +kernel)) (by decide +kernel)
theorem ml_RX12_194 : Cond.methodLink RX12 194 yX12_dueOf ∈ am_gt := am_gt_in (List.mem_of_getElem? (i := 1343) (by decide +kernel)) (by decide +kernel)
theorem ml_RX12_212 : Cond.methodLink RX12 212 yX12_byteAt ∈ am_gt := am_gt_in (List.mem_of_getElem? (i := 1355) (by decide +kernel)) (by decide +kernel)
theorem ml_RX12_251 : Cond.methodLink RX12 251 yX12_fail ∈ am_gt := am_gt_in (List.mem_of_getElem? (i := 1376) (by decide +kernel)) (by decide +kernel)
theorem ml_RX12_254 : Cond.methodLink RX12 254 yX12_next ∈ am_gt := am_gt_in (List.mem_of_getElem? (i := 1351) (by decide +kernel)) (by decide +kernel)
theorem ml_RX12_259 : Cond.methodLink RX12 259 yX12_isWord ∈ am_gt := am_gt_in (List.mem_of_getElem? (i := 1372) (by decide +kernel)) (by decide +kernel)
theorem ml_RX12_285 : Cond.methodLink RX12 285 yX12_isSign ∈ am_gt := am_gt_in (List.mem_of_getElem? (i := 1409) (by decide +kernel)) (by decide +kernel)
theorem ml_RX12_288 : Cond.methodLink RX12 288 yX12_opens ∈ am_gt := am_gt_in (List.mem_of_getElem? (i := 1393) (by decide +kernel)) (by decide +kernel)
theorem ml_RX12_292 : Cond.methodLink RX12 292 yX12_one ∈ am_gt := am_gt_in (List.mem_of_getElem? (i := 1405) (by decide +kernel)) (by decide +kernel)
theorem ml_RX12_296 : Cond.methodLink RX12 296 yX12_either ∈ am_gt := am_gt_in (List.mem_of_getElem? (i := 1380) (by decide +kernel)) (by decide +kernel)
theorem ml_RX12_299 : Cond.methodLink RX12 299 yX12_name ∈ am_gt := am_gt_in (List.mem_of_getElem? (i := 1413) (by decide +kernel)) (by decide +kernel)
theorem ml_RX12_302 : Cond.methodLink RX12 302 yX12_term ∈ am_gt := am_gt_in (List.mem_of_getElem? (i := 1401) (by decide +kernel)) (by decide +kernel)
theorem ml_RX12_309 : Cond.methodLink RX12 309 yX12_not ∈ am_gt := am_gt_in (List.mem_of_getElem? (i := 1388) (by decide +kernel)) (by decide +kernel)
theorem ml_RX12_312 : Cond.methodLink RX12 312 yX12_added ∈ am_gt := am_gt_in (List.mem_of_getElem? (i := 1397) (by decide +kernel)) (by decide +kernel)
theorem ml_RX12_317 : Cond.methodLink RX12 317 yX12_both ∈ am_gt := am_gt_in (List.mem_of_getElem? (i := 1384) (by decide +kernel)) (by decide +kernel)
theorem ml_RX12_324 : Cond.methodLink RX12 324 yX12_part ∈ am_gt := am_gt_in (List.mem_of_getElem? (i := 1368) (by decide +kernel)) (by decide +kernel)
theorem ml_RX12_335 : Cond.methodLink RX12 335 yX12_read ∈ am_gt := am_gt_in (List.mem_of_getElem? (i := 1347) (by decide +kernel)) (by decide +kernel)
theorem ml_RX12_339 : Cond.methodLink RX12 339 yX12_areTwo ∈ am_gt := am_gt_in (List.mem_of_getElem? (i := 1445) (by decide +kernel)) (by decide +kernel)
theorem ml_RX12_342 : Cond.methodLink RX12 342 yX12_within ∈ am_gt := am_gt_in (List.mem_of_getElem? (i := 1449) (by decide +kernel)) (by decide +kernel)
theorem ml_RX12_346 : Cond.methodLink RX12 346 yX12_isSheet ∈ am_gt := am_gt_in (List.mem_of_getElem? (i := 1460) (by decide +kernel)) (by decide +kernel)
theorem ml_RX12_355 : Cond.methodLink RX12 355 yX12_tail ∈ am_gt := am_gt_in (List.mem_of_getElem? (i := 1467) (by decide +kernel)) (by decide +kernel)
theorem ml_RX12_359 : Cond.methodLink RX12 359 yX12_minute ∈ am_gt := am_gt_in (List.mem_of_getElem? (i := 1470) (by decide +kernel)) (by decide +kernel)
theorem ml_RX12_363 : Cond.methodLink RX12 363 yX12_foremost ∈ am_gt := am_gt_in (List.mem_of_getElem? (i := 1482) (by decide +kernel)) (by decide +kernel)
theorem ml_RX12_366 : Cond.methodLink RX12 366 yX12_turnOf ∈ am_gt := am_gt_in (List.mem_of_getElem? (i := 1478) (by decide +kernel)) (by decide +kernel)
theorem ml_RX12_371 : Cond.methodLink RX12 371 yX12_rowed ∈ am_gt := am_gt_in (List.mem_of_getElem? (i := 1495) (by decide +kernel)) (by decide +kernel)
theorem ml_RX12_376 : Cond.methodLink RX12 376 yX12_isAhead ∈ am_gt := am_gt_in (List.mem_of_getElem? (i := 1500) (by decide +kernel)) (by decide +kernel)
theorem ml_RX12_383 : Cond.methodLink RX12 383 yX12_walks ∈ am_gt := am_gt_in (List.mem_of_getElem? (i := 1518) (by decide +kernel)) (by decide +kernel)
theorem ml_RX12_388 : Cond.methodLink RX12 388 yX12_isBoat ∈ am_gt := am_gt_in (List.mem_of_getElem? (i := 1530) (by decide +kernel)) (by decide +kernel)
theorem ml_RX12_391 : Cond.methodLink RX12 391 yX12_plain ∈ am_gt := am_gt_in (List.mem_of_getElem? (i := 1533) (by decide +kernel)) (by decide +kernel)
theorem ml_RX12_394 : Cond.methodLink RX12 394 yX12_onward ∈ am_gt := am_gt_in (List.mem_of_getElem? (i := 1536) (by decide +kernel)) (by decide +kernel)
theorem ml_RX12_399 : Cond.methodLink RX12 399 yX12_priceOf ∈ am_gt := am_gt_in (List.mem_of_getElem? (i := 1545) (by decide +kernel)) (by decide +kernel)
theorem ml_RX12_424 : Cond.methodLink RX12 424 yX12_rower ∈ am_gt := am_gt_in (List.mem_of_getElem? (i := 1587) (by decide +kernel)) (by decide +kernel)
theorem ml_RX12_427 : Cond.methodLink RX12 427 yX12_over ∈ am_gt := am_gt_in (List.mem_of_getElem? (i := 1592) (by decide +kernel)) (by decide +kernel)
theorem ml_RX1_1 : Cond.methodLink RX1 1 Lib.objectInit ∈ am_gt := am_gt_in (List.mem_of_getElem? (i := 459) (by decide +kernel)) (by decide +kernel)
theorem ml_RX2_1 : Cond.methodLink RX2 1 yX6_init ∈ am_gt := am_gt_in (List.mem_of_getElem? (i := 622) (by decide +kernel)) (by decide +kernel)
theorem ml_RX2_11 : Cond.methodLink RX2 11 yX6_may ∈ am_gt := am_gt_in (List.mem_of_getElem? (i := 700) (by decide +kernel)) (by decide +kernel)
theorem ml_RX2_15 : Cond.methodLink RX2 15 (⟨RX6, "parts", "()I"⟩ : MethodName) ∈ am_gt := am_gt_in (List.mem_of_getElem? (i := 735) (by decide +kernel)) (by decide +kernel)
theorem ml_RX2_7 : Cond.methodLink RX2 7 yX6_pace ∈ am_gt := am_gt_in (List.mem_of_getElem? (i := 674) (by decide +kernel)) (by decide +kernel)
theorem ml_RX3_1 : Cond.methodLink RX3 1 yX7_init ∈ am_gt := am_gt_in (List.mem_of_getElem? (i := 522) (by decide +kernel)) (by decide +kernel)
theorem ml_RX3_11 : Cond.methodLink RX3 11 yX7_may ∈ am_gt := am_gt_in (List.mem_of_getElem? (i := 707) (by decide +kernel)) (by decide +kernel)
theorem ml_RX3_21 : Cond.methodLink RX3 21 yX7_parts ∈ am_gt := am_gt_in (List.mem_of_getElem? (i := 741) (by decide +kernel)) (by decide +kernel)
theorem ml_RX3_7 : Cond.methodLink RX3 7 yX7_pace ∈ am_gt := am_gt_in (List.mem_of_getElem? (i := 681) (by decide +kernel)) (by decide +kernel)
theorem ml_RX4_22 : Cond.methodLink RX4 22 yX4_turned ∈ am_gt := am_gt_in (List.mem_of_getElem? (i := 920) (by decide +kernel)) (by decide +kernel)
theorem ml_RX4_26 : Cond.methodLink RX4 26 yX4_measure ∈ am_gt := am_gt_in (List.mem_of_getElem? (i := 931) (by decide +kernel)) (by decide +kernel)
theorem ml_RX4_40 : Cond.methodLink RX4 40 Lib.Math.min.name ∈ am_gt := am_gt_in (List.mem_of_getElem? (i := 936) (by decide +kernel)) (by decide +kernel)
theorem ml_RX4_46 : Cond.methodLink RX4 46 arraycopyName ∈ am_gt := am_gt_in (List.mem_of_getElem? (i := 1009) (by decide +kernel)) (by decide +kernel)
theorem ml_RX5_1 : Cond.methodLink RX5 1 yX3_init ∈ am_gt := am_gt_in (List.mem_of_getElem? (i := 590) (by decide +kernel)) (by decide +kernel)
theorem ml_RX5_17 : Cond.methodLink RX5 17 yX3_may ∈ am_gt := am_gt_in (List.mem_of_getElem? (i := 711) (by decide +kernel)) (by decide +kernel)
theorem ml_RX5_21 : Cond.methodLink RX5 21 (⟨RX5, "isIll", "()Z"⟩ : MethodName) ∈ am_gt := am_gt_in (List.mem_of_getElem? (i := 712) (by decide +kernel)) (by decide +kernel)
theorem ml_RX5_25 : Cond.methodLink RX5 25 yX3_parts ∈ am_gt := am_gt_in (List.mem_of_getElem? (i := 745) (by decide +kernel)) (by decide +kernel)
theorem ml_RX5_7 : Cond.methodLink RX5 7 yX3_pace ∈ am_gt := am_gt_in (List.mem_of_getElem? (i := 685) (by decide +kernel)) (by decide +kernel)
theorem ml_RX6_1 : Cond.methodLink RX6 1 yX7_init ∈ am_gt := am_gt_in (List.mem_of_getElem? (i := 574) (by decide +kernel)) (by decide +kernel)
theorem ml_RX6_17 : Cond.methodLink RX6 17 yX7_may ∈ am_gt := am_gt_in (List.mem_of_getElem? (i := 703) (by decide +kernel)) (by decide +kernel)
theorem ml_RX6_7 : Cond.methodLink RX6 7 yX7_pace ∈ am_gt := am_gt_in (List.mem_of_getElem? (i := 677) (by decide +kernel)) (by decide +kernel)
theorem ml_RX7_1 : Cond.methodLink RX7 1 Lib.objectInit ∈ am_gt := am_gt_in (List.mem_of_getElem? (i := 525) (by decide +kernel)) (by decide +kernel)
theorem ml_RX7_25 : Cond.methodLink RX7 25 yX7_pace ∈ am_gt := am_gt_in (List.mem_of_getElem? (i := 667) (by decide +kernel)) (by decide +kernel)
theorem ml_RX7_29 : Cond.methodLink RX7 29 Lib.Math.max.name ∈ am_gt := am_gt_in (List.mem_of_getElem? (i := 692) (by decide +kernel)) (by decide +kernel)
theorem ml_RX7_35 : Cond.methodLink RX7 35 yX7_isIll ∈ am_gt := am_gt_in (List.mem_of_getElem? (i := 727) (by decide +kernel)) (by decide +kernel)
theorem ml_RX8_17 : Cond.methodLink RX8 17 Lib.Math.min.name ∈ am_gt := am_gt_in (List.mem_of_getElem? (i := 1058) (by decide +kernel)) (by decide +kernel)
theorem ml_RX8_23 : Cond.methodLink RX8 23 Lib.Math.max.name ∈ am_gt := am_gt_in (List.mem_of_getElem? (i := 1059) (by decide +kernel)) (by decide +kernel)
theorem ml_RX8_29 : Cond.methodLink RX8 29 yJ7_fill_53178 ∈ am_gt := am_gt_in (List.mem_of_getElem? (i := 1060) (by decide +kernel)) (by decide +kernel)
theorem ml_RX8_35 : Cond.methodLink RX8 35 yX8_holds ∈ am_gt := am_gt_in (List.mem_of_getElem? (i := 818) (by decide +kernel)) (by decide +kernel)
theorem ml_RX9_1 : Cond.methodLink RX9 1 yX7_init ∈ am_gt := am_gt_in (List.mem_of_getElem? (i := 606) (by decide +kernel)) (by decide +kernel)
theorem ml_RX9_11 : Cond.methodLink RX9 11 yX7_may ∈ am_gt := am_gt_in (List.mem_of_getElem? (i := 722) (by decide +kernel)) (by decide +kernel)
theorem ml_RX9_15 : Cond.methodLink RX9 15 (⟨RX9, "isIll", "()Z"⟩ : MethodName) ∈ am_gt := am_gt_in (List.mem_of_getElem? (i := 723) (by decide +kernel)) (by decide +kernel)
theorem ml_RX9_21 : Cond.methodLink RX9 21 yX7_parts ∈ am_gt := am_gt_in (List.mem_of_getElem? (i := 750) (by decide +kernel)) (by decide +kernel)
theorem ml_RX9_7 : Cond.methodLink RX9 7 yX7_pace ∈ am_gt := am_gt_in (List.mem_of_getElem? (i := 690) (by decide +kernel)) (by decide +kernel)
theorem nat_copy : Cond.native arraycopyName ∈ am_gt := am_gt_in (List.mem_of_getElem? (i := 1011) (by decide +kernel)) (by decide +kernel)
theorem np_J0_charAt_5068e : am_np yJ0_charAt_5068e.desc 1 := by decide +kernel
theorem np_J0_indexOf_0f7a4 : am_np yJ0_indexOf_0f7a4.desc 1 := by decide +kernel
theorem np_J0_length_8abf5 : am_np yJ0_length_8abf5.desc 0 := by decide +kernel
theorem np_J7_fill_53178 : am_np yJ7_fill_53178.desc 2 := by decide +kernel
theorem np_X0_awaits : am_np yX0_awaits.desc 1 := by decide +kernel
theorem np_X0_bestFrom : am_np yX0_bestFrom.desc 2 := by decide +kernel
theorem np_X0_bestPlan : am_np yX0_bestPlan.desc 2 := by decide +kernel
theorem np_X0_minutesOf : am_np yX0_minutesOf.desc 1 := by decide +kernel
theorem np_X0_planPuttingOff : am_np yX0_planPuttingOff.desc 2 := by decide +kernel
theorem np_X0_waitsAfterLast : am_np yX0_waitsAfterLast.desc 1 := by decide +kernel
theorem np_X0_waitsOf : am_np yX0_waitsOf.desc 1 := by decide +kernel
theorem np_X10_addBytes : am_np yX10_addBytes.desc 2 := by decide +kernel
theorem np_X10_doStep : am_np yX10_doStep.desc 3 := by decide +kernel
theorem np_X10_isDigit : am_np yX10_isDigit.desc 1 := by decide +kernel
theorem np_X10_isLetter : am_np yX10_isLetter.desc 1 := by decide +kernel
theorem np_X10_isWord : am_np yX10_isWord.desc 1 := by decide +kernel
theorem np_X10_joined : am_np yX10_joined.desc 3 := by decide +kernel
theorem np_X10_joins : am_np yX10_joins.desc 1 := by decide +kernel
theorem np_X10_nextToken : am_np yX10_nextToken.desc 0 := by decide +kernel
theorem np_X10_pass : am_np yX10_pass.desc 1 := by decide +kernel
theorem np_X10_read : am_np yX10_read.desc 2 := by decide +kernel
theorem np_X10_readJoined : am_np yX10_readJoined.desc 2 := by decide +kernel
theorem np_X10_readOne : am_np yX10_readOne.desc 0 := by decide +kernel
theorem np_X10_readOpening : am_np yX10_readOpening.desc 1 := by decide +kernel
theorem np_X10_readTape : am_np yX10_readTape.desc 0 := by decide +kernel
theorem np_X10_refuse : am_np yX10_refuse.desc 0 := by decide +kernel
theorem np_X10_takeNumber : am_np yX10_takeNumber.desc 0 := by decide +kernel
theorem np_X10_takeWord : am_np yX10_takeWord.desc 0 := by decide +kernel
theorem np_X10_value : am_np yX10_value.desc 2 := by decide +kernel
theorem np_X10_write : am_np yX10_write.desc 1 := by decide +kernel
theorem np_X11_byRule : am_np yX11_byRule.desc 5 := by decide +kernel
theorem np_X11_crossingAt : am_np yX11_crossingAt.desc 1 := by decide +kernel
theorem np_X11_dueTwo : am_np yX11_dueTwo.desc 2 := by decide +kernel
theorem np_X11_eldestSon : am_np yX11_eldestSon.desc 1 := by decide +kernel
theorem np_X11_firstOfBlood : am_np yX11_firstOfBlood.desc 1 := by decide +kernel
theorem np_X11_firstOther : am_np yX11_firstOther.desc 2 := by decide +kernel
theorem np_X11_illOnes : am_np yX11_illOnes.desc 0 := by decide +kernel
theorem np_X11_isABoat : am_np yX11_isABoat.desc 1 := by decide +kernel
theorem np_X11_isHour : am_np yX11_isHour.desc 1 := by decide +kernel
theorem np_X11_isUnder : am_np yX11_isUnder.desc 2 := by decide +kernel
theorem np_X11_mostTurns : am_np yX11_mostTurns.desc 2 := by decide +kernel
theorem np_X11_newRower : am_np yX11_newRower.desc 3 := by decide +kernel
theorem np_X11_oneMore : am_np yX11_oneMore.desc 1 := by decide +kernel
theorem np_X11_oneOf : am_np yX11_oneOf.desc 1 := by decide +kernel
theorem np_X11_openOnes : am_np yX11_openOnes.desc 0 := by decide +kernel
theorem np_X11_otherOf : am_np yX11_otherOf.desc 1 := by decide +kernel
theorem np_X11_priceOf : am_np yX11_priceOf.desc 2 := by decide +kernel
theorem np_X11_rower : am_np yX11_rower.desc 3 := by decide +kernel
theorem np_X11_rowerAt : am_np yX11_rowerAt.desc 1 := by decide +kernel
theorem np_X11_setWater : am_np yX11_setWater.desc 2 := by decide +kernel
theorem np_X11_shareOf : am_np yX11_shareOf.desc 3 := by decide +kernel
theorem np_X11_sheetAt : am_np yX11_sheetAt.desc 1 := by decide +kernel
theorem np_X11_turn : am_np yX11_turn.desc 2 := by decide +kernel
theorem np_X11_turnedAbout : am_np yX11_turnedAbout.desc 2 := by decide +kernel
theorem np_X11_turnsInAll : am_np yX11_turnsInAll.desc 0 := by decide +kernel
theorem np_X11_within : am_np yX11_within.desc 3 := by decide +kernel
theorem np_X12_added : am_np yX12_added.desc 0 := by decide +kernel
theorem np_X12_areLandings : am_np yX12_areLandings.desc 1 := by decide +kernel
theorem np_X12_areTwo : am_np yX12_areTwo.desc 1 := by decide +kernel
theorem np_X12_both : am_np yX12_both.desc 0 := by decide +kernel
theorem np_X12_byteAt : am_np yX12_byteAt.desc 1 := by decide +kernel
theorem np_X12_dueOf : am_np yX12_dueOf.desc 2 := by decide +kernel
theorem np_X12_either : am_np yX12_either.desc 0 := by decide +kernel
theorem np_X12_fail : am_np yX12_fail.desc 0 := by decide +kernel
theorem np_X12_foremost : am_np yX12_foremost.desc 3 := by decide +kernel
theorem np_X12_in : am_np yX12_in.desc 3 := by decide +kernel
theorem np_X12_isAhead : am_np yX12_isAhead.desc 2 := by decide +kernel
theorem np_X12_isBoat : am_np yX12_isBoat.desc 1 := by decide +kernel
theorem np_X12_isCrossing : am_np yX12_isCrossing.desc 1 := by decide +kernel
theorem np_X12_isHour : am_np yX12_isHour.desc 1 := by decide +kernel
theorem np_X12_isRower : am_np yX12_isRower.desc 1 := by decide +kernel
theorem np_X12_isSheet : am_np yX12_isSheet.desc 1 := by decide +kernel
theorem np_X12_isSign : am_np yX12_isSign.desc 1 := by decide +kernel
theorem np_X12_isWord : am_np yX12_isWord.desc 1 := by decide +kernel
theorem np_X12_may : am_np yX12_may.desc 2 := by decide +kernel
theorem np_X12_minute : am_np yX12_minute.desc 7 := by decide +kernel
theorem np_X12_name : am_np yX12_name.desc 0 := by decide +kernel
theorem np_X12_next : am_np yX12_next.desc 0 := by decide +kernel
theorem np_X12_not : am_np yX12_not.desc 0 := by decide +kernel
theorem np_X12_one : am_np yX12_one.desc 0 := by decide +kernel
theorem np_X12_onward : am_np yX12_onward.desc 2 := by decide +kernel
theorem np_X12_opens : am_np yX12_opens.desc 0 := by decide +kernel
theorem np_X12_over : am_np yX12_over.desc 1 := by decide +kernel
theorem np_X12_paceOf : am_np yX12_paceOf.desc 1 := by decide +kernel
theorem np_X12_part : am_np yX12_part.desc 1 := by decide +kernel
theorem np_X12_partsOf : am_np yX12_partsOf.desc 1 := by decide +kernel
theorem np_X12_plain : am_np yX12_plain.desc 1 := by decide +kernel
theorem np_X12_priceOf : am_np yX12_priceOf.desc 2 := by decide +kernel
theorem np_X12_read : am_np yX12_read.desc 6 := by decide +kernel
theorem np_X12_rowed : am_np yX12_rowed.desc 2 := by decide +kernel
theorem np_X12_rower : am_np yX12_rower.desc 3 := by decide +kernel
theorem np_X12_tail : am_np yX12_tail.desc 4 := by decide +kernel
theorem np_X12_term : am_np yX12_term.desc 0 := by decide +kernel
theorem np_X12_turnOf : am_np yX12_turnOf.desc 2 := by decide +kernel
theorem np_X12_walks : am_np yX12_walks.desc 0 := by decide +kernel
theorem np_X12_within : am_np yX12_within.desc 3 := by decide +kernel
theorem np_X1_become : am_np yX1_become.desc 1 := by decide +kernel
theorem np_X1_comeBack : am_np yX1_comeBack.desc 0 := by decide +kernel
theorem np_X1_crewNeeded : am_np yX1_crewNeeded.desc 0 := by decide +kernel
theorem np_X1_init : am_np yX1_init.desc 2 := by decide +kernel
theorem np_X1_keep : am_np yX1_keep.desc 0 := by decide +kernel
theorem np_X1_takeHeads : am_np yX1_takeHeads.desc 1 := by decide +kernel
theorem np_X2_init : am_np yX2_init.desc 3 := by decide +kernel
theorem np_X3_init : am_np yX3_init.desc 3 := by decide +kernel
theorem np_X3_may : am_np yX3_may.desc 1 := by decide +kernel
theorem np_X3_pace : am_np yX3_pace.desc 0 := by decide +kernel
theorem np_X3_parts : am_np yX3_parts.desc 0 := by decide +kernel
theorem np_X4_areTwo : am_np yX4_areTwo.desc 1 := by decide +kernel
theorem np_X4_comeBack : am_np yX4_comeBack.desc 0 := by decide +kernel
theorem np_X4_keep : am_np yX4_keep.desc 0 := by decide +kernel
theorem np_X4_leastWay : am_np yX4_leastWay.desc 3 := by decide +kernel
theorem np_X4_lostMinutes : am_np yX4_lostMinutes.desc 0 := by decide +kernel
theorem np_X4_measure : am_np yX4_measure.desc 3 := by decide +kernel
theorem np_X4_measureNow : am_np yX4_measureNow.desc 2 := by decide +kernel
theorem np_X4_measureThen : am_np yX4_measureThen.desc 2 := by decide +kernel
theorem np_X4_takePath : am_np yX4_takePath.desc 2 := by decide +kernel
theorem np_X4_turned : am_np yX4_turned.desc 1 := by decide +kernel
theorem np_X5_init : am_np yX5_init.desc 3 := by decide +kernel
theorem np_X6_init : am_np yX6_init.desc 3 := by decide +kernel
theorem np_X6_may : am_np yX6_may.desc 1 := by decide +kernel
theorem np_X6_pace : am_np yX6_pace.desc 0 := by decide +kernel
theorem np_X7_comeBack : am_np yX7_comeBack.desc 0 := by decide +kernel
theorem np_X7_init : am_np yX7_init.desc 3 := by decide +kernel
theorem np_X7_isIll : am_np yX7_isIll.desc 0 := by decide +kernel
theorem np_X7_keep : am_np yX7_keep.desc 0 := by decide +kernel
theorem np_X7_may : am_np yX7_may.desc 1 := by decide +kernel
theorem np_X7_pace : am_np yX7_pace.desc 0 := by decide +kernel
theorem np_X7_parts : am_np yX7_parts.desc 0 := by decide +kernel
theorem np_X7_rowsAt : am_np yX7_rowsAt.desc 1 := by decide +kernel
theorem np_X7_toldPace : am_np yX7_toldPace.desc 0 := by decide +kernel
theorem np_X8_become : am_np yX8_become.desc 2 := by decide +kernel
theorem np_X8_holds : am_np yX8_holds.desc 2 := by decide +kernel
theorem np_X8_isMissing : am_np yX8_isMissing.desc 0 := by decide +kernel
theorem np_X8_item : am_np yX8_item.desc 1 := by decide +kernel
theorem np_X8_put : am_np yX8_put.desc 2 := by decide +kernel
theorem np_X9_init : am_np yX9_init.desc 3 := by decide +kernel
theorem se_RJ0_J0_charAt_5068e_J0_charAt_5068e : Cond.selects RJ0 yJ0_charAt_5068e yJ0_charAt_5068e ∈ am_gt := am_gt_in (List.mem_of_getElem? (i := 231) (by decide +kernel)) (by decide +kernel)
theorem se_RJ0_J0_indexOf_0f7a4_J0_indexOf_0f7a4 : Cond.selects RJ0 yJ0_indexOf_0f7a4 yJ0_indexOf_0f7a4 ∈ am_gt := am_gt_in (List.mem_of_getElem? (i := 301) (by decide +kernel)) (by decide +kernel)
theorem se_RJ0_J0_length_8abf5_J0_length_8abf5 : Cond.selects RJ0 yJ0_length_8abf5 yJ0_length_8abf5 ∈ am_gt := am_gt_in (List.mem_of_getElem? (i := 221) (by decide +kernel)) (by decide +kernel)
theorem se_RX0_X0_awaits_X0_awaits : Cond.selects RX0 yX0_awaits yX0_awaits ∈ am_gt := am_gt_in (List.mem_of_getElem? (i := 812) (by decide +kernel)) (by decide +kernel)
theorem se_RX0_X0_bestFrom_X0_bestFrom : Cond.selects RX0 yX0_bestFrom yX0_bestFrom ∈ am_gt := am_gt_in (List.mem_of_getElem? (i := 20) (by decide +kernel)) (by decide +kernel)
theorem se_RX0_X0_bestPlan_X0_bestPlan : Cond.selects RX0 yX0_bestPlan yX0_bestPlan ∈ am_gt := am_gt_in (List.mem_of_getElem? (i := 824) (by decide +kernel)) (by decide +kernel)
theorem se_RX0_X0_planPuttingOff_X0_planPuttingOff : Cond.selects RX0 yX0_planPuttingOff yX0_planPuttingOff ∈ am_gt := am_gt_in (List.mem_of_getElem? (i := 21) (by decide +kernel)) (by decide +kernel)
theorem se_RX0_X0_waitsAfterLast_X0_waitsAfterLast : Cond.selects RX0 yX0_waitsAfterLast yX0_waitsAfterLast ∈ am_gt := am_gt_in (List.mem_of_getElem? (i := 22) (by decide +kernel)) (by decide +kernel)
theorem se_RX10_X10_addBytes_X10_addBytes : Cond.selects RX10 yX10_addBytes yX10_addBytes ∈ am_gt := am_gt_in (List.mem_of_getElem? (i := 269) (by decide +kernel)) (by decide +kernel)
theorem se_RX10_X10_doStep_X10_doStep : Cond.selects RX10 yX10_doStep yX10_doStep ∈ am_gt := am_gt_in (List.mem_of_getElem? (i := 16) (by decide +kernel)) (by decide +kernel)
theorem se_RX10_X10_isWord_X10_isWord : Cond.selects RX10 yX10_isWord yX10_isWord ∈ am_gt := am_gt_in (List.mem_of_getElem? (i := 2) (by decide +kernel)) (by decide +kernel)
theorem se_RX10_X10_joins_X10_joins : Cond.selects RX10 yX10_joins yX10_joins ∈ am_gt := am_gt_in (List.mem_of_getElem? (i := 11) (by decide +kernel)) (by decide +kernel)
theorem se_RX10_X10_nextToken_X10_nextToken : Cond.selects RX10 yX10_nextToken yX10_nextToken ∈ am_gt := am_gt_in (List.mem_of_getElem? (i := 0) (by decide +kernel)) (by decide +kernel)
theorem se_RX10_X10_pass_X10_pass : Cond.selects RX10 yX10_pass yX10_pass ∈ am_gt := am_gt_in (List.mem_of_getElem? (i := 4) (by decide +kernel)) (by decide +kernel)
theorem se_RX10_X10_readJoined_X10_readJoined : Cond.selects RX10 yX10_readJoined yX10_readJoined ∈ am_gt := am_gt_in (List.mem_of_getElem? (i := 10) (by decide +kernel)) (by decide +kernel)
theorem se_RX10_X10_readOne_X10_readOne : Cond.selects RX10 yX10_readOne yX10_readOne ∈ am_gt := am_gt_in (List.mem_of_getElem? (i := 9) (by decide +kernel)) (by decide +kernel)
theorem se_RX10_X10_readOpening_X10_readOpening : Cond.selects RX10 yX10_readOpening yX10_readOpening ∈ am_gt := am_gt_in (List.mem_of_getElem? (i := 7) (by decide +kernel)) (by decide +kernel)
theorem se_RX10_X10_readTape_X10_readTape : Cond.selects RX10 yX10_readTape yX10_readTape ∈ am_gt := am_gt_in (List.mem_of_getElem? (i := 273) (by decide +kernel)) (by decide +kernel)
theorem se_RX10_X10_read_X10_read : Cond.selects RX10 yX10_read yX10_read ∈ am_gt := am_gt_in (List.mem_of_getElem? (i := 6) (by decide +kernel)) (by decide +kernel)
theorem se_RX10_X10_refuse_X10_refuse : Cond.selects RX10 yX10_refuse yX10_refuse ∈ am_gt := am_gt_in (List.mem_of_getElem? (i := 5) (by decide +kernel)) (by decide +kernel)
theorem se_RX10_X10_takeNumber_X10_takeNumber : Cond.selects RX10 yX10_takeNumber yX10_takeNumber ∈ am_gt := am_gt_in (List.mem_of_getElem? (i := 3) (by decide +kernel)) (by decide +kernel)
theorem se_RX10_X10_takeWord_X10_takeWord : Cond.selects RX10 yX10_takeWord yX10_takeWord ∈ am_gt := am_gt_in (List.mem_of_getElem? (i := 1) (by decide +kernel)) (by decide +kernel)
theorem se_RX10_X10_value_X10_value : Cond.selects RX10 yX10_value yX10_value ∈ am_gt := am_gt_in (List.mem_of_getElem? (i := 758) (by decide +kernel)) (by decide +kernel)
theorem se_RX10_X10_write_X10_write : Cond.selects RX10 yX10_write yX10_write ∈ am_gt := am_gt_in (List.mem_of_getElem? (i := 8) (by decide +kernel)) (by decide +kernel)
theorem se_RX11_X11_byRule_X11_byRule : Cond.selects RX11 yX11_byRule yX11_byRule ∈ am_gt := am_gt_in (List.mem_of_getElem? (i := 15) (by decide +kernel)) (by decide +kernel)
theorem se_RX11_X11_crossingAt_X11_crossingAt : Cond.selects RX11 yX11_crossingAt yX11_crossingAt ∈ am_gt := am_gt_in (List.mem_of_getElem? (i := 13) (by decide +kernel)) (by decide +kernel)
theorem se_RX11_X11_dueTwo_X11_dueTwo : Cond.selects RX11 yX11_dueTwo yX11_dueTwo ∈ am_gt := am_gt_in (List.mem_of_getElem? (i := 23) (by decide +kernel)) (by decide +kernel)
theorem se_RX11_X11_eldestSon_X11_eldestSon : Cond.selects RX11 yX11_eldestSon yX11_eldestSon ∈ am_gt := am_gt_in (List.mem_of_getElem? (i := 26) (by decide +kernel)) (by decide +kernel)
theorem se_RX11_X11_firstOfBlood_X11_firstOfBlood : Cond.selects RX11 yX11_firstOfBlood yX11_firstOfBlood ∈ am_gt := am_gt_in (List.mem_of_getElem? (i := 27) (by decide +kernel)) (by decide +kernel)
theorem se_RX11_X11_firstOther_X11_firstOther : Cond.selects RX11 yX11_firstOther yX11_firstOther ∈ am_gt := am_gt_in (List.mem_of_getElem? (i := 25) (by decide +kernel)) (by decide +kernel)
theorem se_RX11_X11_illOnes_X11_illOnes : Cond.selects RX11 yX11_illOnes yX11_illOnes ∈ am_gt := am_gt_in (List.mem_of_getElem? (i := 32) (by decide +kernel)) (by decide +kernel)
theorem se_RX11_X11_mostTurns_X11_mostTurns : Cond.selects RX11 yX11_mostTurns yX11_mostTurns ∈ am_gt := am_gt_in (List.mem_of_getElem? (i := 28) (by decide +kernel)) (by decide +kernel)
theorem se_RX11_X11_oneMore_X11_oneMore : Cond.selects RX11 yX11_oneMore yX11_oneMore ∈ am_gt := am_gt_in (List.mem_of_getElem? (i := 24) (by decide +kernel)) (by decide +kernel)
theorem se_RX11_X11_oneOf_X11_oneOf : Cond.selects RX11 yX11_oneOf yX11_oneOf ∈ am_gt := am_gt_in (List.mem_of_getElem? (i := 17) (by decide +kernel)) (by decide +kernel)
theorem se_RX11_X11_openOnes_X11_openOnes : Cond.selects RX11 yX11_openOnes yX11_openOnes ∈ am_gt := am_gt_in (List.mem_of_getElem? (i := 31) (by decide +kernel)) (by decide +kernel)
theorem se_RX11_X11_otherOf_X11_otherOf : Cond.selects RX11 yX11_otherOf yX11_otherOf ∈ am_gt := am_gt_in (List.mem_of_getElem? (i := 18) (by decide +kernel)) (by decide +kernel)
theorem se_RX11_X11_priceOf_X11_priceOf : Cond.selects RX11 yX11_priceOf yX11_priceOf ∈ am_gt := am_gt_in (List.mem_of_getElem? (i := 30) (by decide +kernel)) (by decide +kernel)
theorem se_RX11_X11_rowerAt_X11_rowerAt : Cond.selects RX11 yX11_rowerAt yX11_rowerAt ∈ am_gt := am_gt_in (List.mem_of_getElem? (i := 14) (by decide +kernel)) (by decide +kernel)
theorem se_RX11_X11_rower_X11_rower : Cond.selects RX11 yX11_rower yX11_rower ∈ am_gt := am_gt_in (List.mem_of_getElem? (i := 508) (by decide +kernel)) (by decide +kernel)
theorem se_RX11_X11_setWater_X11_setWater : Cond.selects RX11 yX11_setWater yX11_setWater ∈ am_gt := am_gt_in (List.mem_of_getElem? (i := 12) (by decide +kernel)) (by decide +kernel)
theorem se_RX11_X11_sheetAt_X11_sheetAt : Cond.selects RX11 yX11_sheetAt yX11_sheetAt ∈ am_gt := am_gt_in (List.mem_of_getElem? (i := 19) (by decide +kernel)) (by decide +kernel)
theorem se_RX11_X11_turn_X11_turn : Cond.selects RX11 yX11_turn yX11_turn ∈ am_gt := am_gt_in (List.mem_of_getElem? (i := 852) (by decide +kernel)) (by decide +kernel)
theorem se_RX11_X11_turnsInAll_X11_turnsInAll : Cond.selects RX11 yX11_turnsInAll yX11_turnsInAll ∈ am_gt := am_gt_in (List.mem_of_getElem? (i := 33) (by decide +kernel)) (by decide +kernel)
theorem se_RX12_X12_added_X12_added : Cond.selects RX12 yX12_added yX12_added ∈ am_gt := am_gt_in (List.mem_of_getElem? (i := 51) (by decide +kernel)) (by decide +kernel)
theorem se_RX12_X12_areTwo_X12_areTwo : Cond.selects RX12 yX12_areTwo yX12_areTwo ∈ am_gt := am_gt_in (List.mem_of_getElem? (i := 56) (by decide +kernel)) (by decide +kernel)
theorem se_RX12_X12_both_X12_both : Cond.selects RX12 yX12_both yX12_both ∈ am_gt := am_gt_in (List.mem_of_getElem? (i := 48) (by decide +kernel)) (by decide +kernel)
theorem se_RX12_X12_byteAt_X12_byteAt : Cond.selects RX12 yX12_byteAt yX12_byteAt ∈ am_gt := am_gt_in (List.mem_of_getElem? (i := 43) (by decide +kernel)) (by decide +kernel)
theorem se_RX12_X12_dueOf_X12_dueOf : Cond.selects RX12 yX12_dueOf yX12_dueOf ∈ am_gt := am_gt_in (List.mem_of_getElem? (i := 40) (by decide +kernel)) (by decide +kernel)
theorem se_RX12_X12_either_X12_either : Cond.selects RX12 yX12_either yX12_either ∈ am_gt := am_gt_in (List.mem_of_getElem? (i := 47) (by decide +kernel)) (by decide +kernel)
theorem se_RX12_X12_fail_X12_fail : Cond.selects RX12 yX12_fail yX12_fail ∈ am_gt := am_gt_in (List.mem_of_getElem? (i := 46) (by decide +kernel)) (by decide +kernel)
theorem se_RX12_X12_foremost_X12_foremost : Cond.selects RX12 yX12_foremost yX12_foremost ∈ am_gt := am_gt_in (List.mem_of_getElem? (i := 59) (by decide +kernel)) (by decide +kernel)
theorem se_RX12_X12_isAhead_X12_isAhead : Cond.selects RX12 yX12_isAhead yX12_isAhead ∈ am_gt := am_gt_in (List.mem_of_getElem? (i := 60) (by decide +kernel)) (by decide +kernel)
theorem se_RX12_X12_isCrossing_X12_isCrossing : Cond.selects RX12 yX12_isCrossing yX12_isCrossing ∈ am_gt := am_gt_in (List.mem_of_getElem? (i := 35) (by decide +kernel)) (by decide +kernel)
theorem se_RX12_X12_isRower_X12_isRower : Cond.selects RX12 yX12_isRower yX12_isRower ∈ am_gt := am_gt_in (List.mem_of_getElem? (i := 36) (by decide +kernel)) (by decide +kernel)
theorem se_RX12_X12_isSign_X12_isSign : Cond.selects RX12 yX12_isSign yX12_isSign ∈ am_gt := am_gt_in (List.mem_of_getElem? (i := 54) (by decide +kernel)) (by decide +kernel)
theorem se_RX12_X12_isWord_X12_isWord : Cond.selects RX12 yX12_isWord yX12_isWord ∈ am_gt := am_gt_in (List.mem_of_getElem? (i := 45) (by decide +kernel)) (by decide +kernel)
theorem se_RX12_X12_may_X12_may : Cond.selects RX12 yX12_may yX12_may ∈ am_gt := am_gt_in (List.mem_of_getElem? (i := 38) (by decide +kernel)) (by decide +kernel)
theorem se_RX12_X12_minute_X12_minute : Cond.selects RX12 yX12_minute yX12_minute ∈ am_gt := am_gt_in (List.mem_of_getElem? (i := 57) (by decide +kernel)) (by decide +kernel)
theorem se_RX12_X12_name_X12_name : Cond.selects RX12 yX12_name yX12_name ∈ am_gt := am_gt_in (List.mem_of_getElem? (i := 55) (by decide +kernel)) (by decide +kernel)
theorem se_RX12_X12_next_X12_next : Cond.selects RX12 yX12_next yX12_next ∈ am_gt := am_gt_in (List.mem_of_getElem? (i := 42) (by decide +kernel)) (by decide +kernel)
theorem se_RX12_X12_not_X12_not : Cond.selects RX12 yX12_not yX12_not ∈ am_gt := am_gt_in (List.mem_of_getElem? (i := 49) (by decide +kernel)) (by decide +kernel)
theorem se_RX12_X12_one_X12_one : Cond.selects RX12 yX12_one yX12_one ∈ am_gt := am_gt_in (List.mem_of_getElem? (i := 53) (by decide +kernel)) (by decide +kernel)
theorem se_RX12_X12_opens_X12_opens : Cond.selects RX12 yX12_opens yX12_opens ∈ am_gt := am_gt_in (List.mem_of_getElem? (i := 50) (by decide +kernel)) (by decide +kernel)
theorem se_RX12_X12_paceOf_X12_paceOf : Cond.selects RX12 yX12_paceOf yX12_paceOf ∈ am_gt := am_gt_in (List.mem_of_getElem? (i := 37) (by decide +kernel)) (by decide +kernel)
theorem se_RX12_X12_part_X12_part : Cond.selects RX12 yX12_part yX12_part ∈ am_gt := am_gt_in (List.mem_of_getElem? (i := 44) (by decide +kernel)) (by decide +kernel)
theorem se_RX12_X12_partsOf_X12_partsOf : Cond.selects RX12 yX12_partsOf yX12_partsOf ∈ am_gt := am_gt_in (List.mem_of_getElem? (i := 39) (by decide +kernel)) (by decide +kernel)
theorem se_RX12_X12_priceOf_X12_priceOf : Cond.selects RX12 yX12_priceOf yX12_priceOf ∈ am_gt := am_gt_in (List.mem_of_getElem? (i := 62) (by decide +kernel)) (by decide +kernel)
theorem se_RX12_X12_read_X12_read : Cond.selects RX12 yX12_read yX12_read ∈ am_gt := am_gt_in (List.mem_of_getElem? (i := 41) (by decide +kernel)) (by decide +kernel)
theorem se_RX12_X12_rowed_X12_rowed : Cond.selects RX12 yX12_rowed yX12_rowed ∈ am_gt := am_gt_in (List.mem_of_getElem? (i := 1488) (by decide +kernel)) (by decide +kernel)
theorem se_RX12_X12_rower_X12_rower : Cond.selects RX12 yX12_rower yX12_rower ∈ am_gt := am_gt_in (List.mem_of_getElem? (i := 1306) (by decide +kernel)) (by decide +kernel)
theorem se_RX12_X12_term_X12_term : Cond.selects RX12 yX12_term yX12_term ∈ am_gt := am_gt_in (List.mem_of_getElem? (i := 52) (by decide +kernel)) (by decide +kernel)
theorem se_RX12_X12_turnOf_X12_turnOf : Cond.selects RX12 yX12_turnOf yX12_turnOf ∈ am_gt := am_gt_in (List.mem_of_getElem? (i := 58) (by decide +kernel)) (by decide +kernel)
theorem se_RX12_X12_walks_X12_walks : Cond.selects RX12 yX12_walks yX12_walks ∈ am_gt := am_gt_in (List.mem_of_getElem? (i := 61) (by decide +kernel)) (by decide +kernel)
theorem se_RX1_X1_become_X1_become : Cond.selects RX1 yX1_become yX1_become ∈ am_gt := am_gt_in (List.mem_of_getElem? (i := 499) (by decide +kernel)) (by decide +kernel)
theorem se_RX1_X1_comeBack_X1_comeBack : Cond.selects RX1 yX1_comeBack yX1_comeBack ∈ am_gt := am_gt_in (List.mem_of_getElem? (i := 1018) (by decide +kernel)) (by decide +kernel)
theorem se_RX1_X1_crewNeeded_X1_crewNeeded : Cond.selects RX1 yX1_crewNeeded yX1_crewNeeded ∈ am_gt := am_gt_in (List.mem_of_getElem? (i := 910) (by decide +kernel)) (by decide +kernel)
theorem se_RX1_X1_keep_X1_keep : Cond.selects RX1 yX1_keep yX1_keep ∈ am_gt := am_gt_in (List.mem_of_getElem? (i := 993) (by decide +kernel)) (by decide +kernel)
theorem se_RX1_X1_takeHeads_X1_takeHeads : Cond.selects RX1 yX1_takeHeads yX1_takeHeads ∈ am_gt := am_gt_in (List.mem_of_getElem? (i := 504) (by decide +kernel)) (by decide +kernel)
theorem se_RX2_X7_comeBack_X7_comeBack : Cond.selects RX2 yX7_comeBack yX7_comeBack ∈ am_gt := am_gt_in (List.mem_of_getElem? (i := 1024) (by decide +kernel)) (by decide +kernel)
theorem se_RX2_X7_isIll_X7_isIll : Cond.selects RX2 yX7_isIll yX7_isIll ∈ am_gt := am_gt_in (List.mem_of_getElem? (i := 1601) (by decide +kernel)) (by decide +kernel)
theorem se_RX2_X7_keep_X7_keep : Cond.selects RX2 yX7_keep yX7_keep ∈ am_gt := am_gt_in (List.mem_of_getElem? (i := 999) (by decide +kernel)) (by decide +kernel)
theorem se_RX2_X7_may_X2_may : Cond.selects RX2 yX7_may yX2_may ∈ am_gt := am_gt_in (List.mem_of_getElem? (i := 697) (by decide +kernel)) (by decide +kernel)
theorem se_RX2_X7_pace_X2_pace : Cond.selects RX2 yX7_pace yX2_pace ∈ am_gt := am_gt_in (List.mem_of_getElem? (i := 671) (by decide +kernel)) (by decide +kernel)
theorem se_RX2_X7_parts_X2_parts : Cond.selects RX2 yX7_parts yX2_parts ∈ am_gt := am_gt_in (List.mem_of_getElem? (i := 732) (by decide +kernel)) (by decide +kernel)
theorem se_RX2_X7_rowsAt_X7_rowsAt : Cond.selects RX2 yX7_rowsAt yX7_rowsAt ∈ am_gt := am_gt_in (List.mem_of_getElem? (i := 862) (by decide +kernel)) (by decide +kernel)
theorem se_RX2_X7_toldPace_X7_toldPace : Cond.selects RX2 yX7_toldPace yX7_toldPace ∈ am_gt := am_gt_in (List.mem_of_getElem? (i := 661) (by decide +kernel)) (by decide +kernel)
theorem se_RX3_X7_comeBack_X7_comeBack : Cond.selects RX3 yX7_comeBack yX7_comeBack ∈ am_gt := am_gt_in (List.mem_of_getElem? (i := 1025) (by decide +kernel)) (by decide +kernel)
theorem se_RX3_X7_isIll_X7_isIll : Cond.selects RX3 yX7_isIll yX7_isIll ∈ am_gt := am_gt_in (List.mem_of_getElem? (i := 1602) (by decide +kernel)) (by decide +kernel)
theorem se_RX3_X7_keep_X7_keep : Cond.selects RX3 yX7_keep yX7_keep ∈ am_gt := am_gt_in (List.mem_of_getElem? (i := 1000) (by decide +kernel)) (by decide +kernel)
theorem se_RX3_X7_may_X3_may : Cond.selects RX3 yX7_may yX3_may ∈ am_gt := am_gt_in (List.mem_of_getElem? (i := 704) (by decide +kernel)) (by decide +kernel)
theorem se_RX3_X7_pace_X3_pace : Cond.selects RX3 yX7_pace yX3_pace ∈ am_gt := am_gt_in (List.mem_of_getElem? (i := 678) (by decide +kernel)) (by decide +kernel)
theorem se_RX3_X7_parts_X3_parts : Cond.selects RX3 yX7_parts yX3_parts ∈ am_gt := am_gt_in (List.mem_of_getElem? (i := 738) (by decide +kernel)) (by decide +kernel)
theorem se_RX3_X7_rowsAt_X7_rowsAt : Cond.selects RX3 yX7_rowsAt yX7_rowsAt ∈ am_gt := am_gt_in (List.mem_of_getElem? (i := 863) (by decide +kernel)) (by decide +kernel)
theorem se_RX3_X7_toldPace_X7_toldPace : Cond.selects RX3 yX7_toldPace yX7_toldPace ∈ am_gt := am_gt_in (List.mem_of_getElem? (i := 662) (by decide +kernel)) (by decide +kernel)
theorem se_RX4_X4_comeBack_X4_comeBack : Cond.selects RX4 yX4_comeBack yX4_comeBack ∈ am_gt := am_gt_in (List.mem_of_getElem? (i := 1032) (by decide +kernel)) (by decide +kernel)
theorem se_RX4_X4_keep_X4_keep : Cond.selects RX4 yX4_keep yX4_keep ∈ am_gt := am_gt_in (List.mem_of_getElem? (i := 1007) (by decide +kernel)) (by decide +kernel)
theorem se_RX4_X4_leastWay_X4_leastWay : Cond.selects RX4 yX4_leastWay yX4_leastWay ∈ am_gt := am_gt_in (List.mem_of_getElem? (i := 929) (by decide +kernel)) (by decide +kernel)
theorem se_RX4_X4_lostMinutes_X4_lostMinutes : Cond.selects RX4 yX4_lostMinutes yX4_lostMinutes ∈ am_gt := am_gt_in (List.mem_of_getElem? (i := 952) (by decide +kernel)) (by decide +kernel)
theorem se_RX4_X4_measureNow_X4_measureNow : Cond.selects RX4 yX4_measureNow yX4_measureNow ∈ am_gt := am_gt_in (List.mem_of_getElem? (i := 948) (by decide +kernel)) (by decide +kernel)
theorem se_RX4_X4_measureThen_X4_measureThen : Cond.selects RX4 yX4_measureThen yX4_measureThen ∈ am_gt := am_gt_in (List.mem_of_getElem? (i := 944) (by decide +kernel)) (by decide +kernel)
theorem se_RX4_X4_measure_X4_measure : Cond.selects RX4 yX4_measure yX4_measure ∈ am_gt := am_gt_in (List.mem_of_getElem? (i := 29) (by decide +kernel)) (by decide +kernel)
theorem se_RX4_X4_takePath_X4_takePath : Cond.selects RX4 yX4_takePath yX4_takePath ∈ am_gt := am_gt_in (List.mem_of_getElem? (i := 918) (by decide +kernel)) (by decide +kernel)
theorem se_RX5_RX5_isIll_X7_isIll : Cond.selects RX5 (⟨RX5, "isIll", "()Z"⟩ : MethodName) yX7_isIll ∈ am_gt := am_gt_in (List.mem_of_getElem? (i := 715) (by decide +kernel)) (by decide +kernel)
theorem se_RX5_X7_comeBack_X7_comeBack : Cond.selects RX5 yX7_comeBack yX7_comeBack ∈ am_gt := am_gt_in (List.mem_of_getElem? (i := 1026) (by decide +kernel)) (by decide +kernel)
theorem se_RX5_X7_isIll_X7_isIll : Cond.selects RX5 yX7_isIll yX7_isIll ∈ am_gt := am_gt_in (List.mem_of_getElem? (i := 1603) (by decide +kernel)) (by decide +kernel)
theorem se_RX5_X7_keep_X7_keep : Cond.selects RX5 yX7_keep yX7_keep ∈ am_gt := am_gt_in (List.mem_of_getElem? (i := 1001) (by decide +kernel)) (by decide +kernel)
theorem se_RX5_X7_may_X5_may : Cond.selects RX5 yX7_may yX5_may ∈ am_gt := am_gt_in (List.mem_of_getElem? (i := 708) (by decide +kernel)) (by decide +kernel)
theorem se_RX5_X7_pace_X5_pace : Cond.selects RX5 yX7_pace yX5_pace ∈ am_gt := am_gt_in (List.mem_of_getElem? (i := 682) (by decide +kernel)) (by decide +kernel)
theorem se_RX5_X7_parts_X5_parts : Cond.selects RX5 yX7_parts yX5_parts ∈ am_gt := am_gt_in (List.mem_of_getElem? (i := 742) (by decide +kernel)) (by decide +kernel)
theorem se_RX5_X7_rowsAt_X7_rowsAt : Cond.selects RX5 yX7_rowsAt yX7_rowsAt ∈ am_gt := am_gt_in (List.mem_of_getElem? (i := 864) (by decide +kernel)) (by decide +kernel)
theorem se_RX5_X7_toldPace_X7_toldPace : Cond.selects RX5 yX7_toldPace yX7_toldPace ∈ am_gt := am_gt_in (List.mem_of_getElem? (i := 663) (by decide +kernel)) (by decide +kernel)
theorem se_RX6_X7_comeBack_X7_comeBack : Cond.selects RX6 yX7_comeBack yX7_comeBack ∈ am_gt := am_gt_in (List.mem_of_getElem? (i := 1027) (by decide +kernel)) (by decide +kernel)
theorem se_RX6_X7_isIll_X7_isIll : Cond.selects RX6 yX7_isIll yX7_isIll ∈ am_gt := am_gt_in (List.mem_of_getElem? (i := 1604) (by decide +kernel)) (by decide +kernel)
theorem se_RX6_X7_keep_X7_keep : Cond.selects RX6 yX7_keep yX7_keep ∈ am_gt := am_gt_in (List.mem_of_getElem? (i := 1002) (by decide +kernel)) (by decide +kernel)
theorem se_RX6_X7_may_X6_may : Cond.selects RX6 yX7_may yX6_may ∈ am_gt := am_gt_in (List.mem_of_getElem? (i := 718) (by decide +kernel)) (by decide +kernel)
theorem se_RX6_X7_pace_X6_pace : Cond.selects RX6 yX7_pace yX6_pace ∈ am_gt := am_gt_in (List.mem_of_getElem? (i := 686) (by decide +kernel)) (by decide +kernel)
theorem se_RX6_X7_parts_X7_parts : Cond.selects RX6 yX7_parts yX7_parts ∈ am_gt := am_gt_in (List.mem_of_getElem? (i := 746) (by decide +kernel)) (by decide +kernel)
theorem se_RX6_X7_rowsAt_X7_rowsAt : Cond.selects RX6 yX7_rowsAt yX7_rowsAt ∈ am_gt := am_gt_in (List.mem_of_getElem? (i := 865) (by decide +kernel)) (by decide +kernel)
theorem se_RX6_X7_toldPace_X7_toldPace : Cond.selects RX6 yX7_toldPace yX7_toldPace ∈ am_gt := am_gt_in (List.mem_of_getElem? (i := 664) (by decide +kernel)) (by decide +kernel)
theorem se_RX7_X7_comeBack_X7_comeBack : Cond.selects RX7 yX7_comeBack yX7_comeBack ∈ am_gt := am_gt_in (List.mem_of_getElem? (i := 1022) (by decide +kernel)) (by decide +kernel)
theorem se_RX7_X7_isIll_X7_isIll : Cond.selects RX7 yX7_isIll yX7_isIll ∈ am_gt := am_gt_in (List.mem_of_getElem? (i := 1605) (by decide +kernel)) (by decide +kernel)
theorem se_RX7_X7_keep_X7_keep : Cond.selects RX7 yX7_keep yX7_keep ∈ am_gt := am_gt_in (List.mem_of_getElem? (i := 997) (by decide +kernel)) (by decide +kernel)
theorem se_RX7_X7_may_X7_may : Cond.selects RX7 yX7_may yX7_may ∈ am_gt := am_gt_in (List.mem_of_getElem? (i := 695) (by decide +kernel)) (by decide +kernel)
theorem se_RX7_X7_pace_X7_pace : Cond.selects RX7 yX7_pace yX7_pace ∈ am_gt := am_gt_in (List.mem_of_getElem? (i := 669) (by decide +kernel)) (by decide +kernel)
theorem se_RX7_X7_parts_X7_parts : Cond.selects RX7 yX7_parts yX7_parts ∈ am_gt := am_gt_in (List.mem_of_getElem? (i := 730) (by decide +kernel)) (by decide +kernel)
theorem se_RX7_X7_rowsAt_X7_rowsAt : Cond.selects RX7 yX7_rowsAt yX7_rowsAt ∈ am_gt := am_gt_in (List.mem_of_getElem? (i := 860) (by decide +kernel)) (by decide +kernel)
theorem se_RX7_X7_toldPace_X7_toldPace : Cond.selects RX7 yX7_toldPace yX7_toldPace ∈ am_gt := am_gt_in (List.mem_of_getElem? (i := 659) (by decide +kernel)) (by decide +kernel)
theorem se_RX8_X8_become_X8_become : Cond.selects RX8 yX8_become yX8_become ∈ am_gt := am_gt_in (List.mem_of_getElem? (i := 1056) (by decide +kernel)) (by decide +kernel)
theorem se_RX8_X8_holds_X8_holds : Cond.selects RX8 yX8_holds yX8_holds ∈ am_gt := am_gt_in (List.mem_of_getElem? (i := 820) (by decide +kernel)) (by decide +kernel)
theorem se_RX8_X8_isMissing_X8_isMissing : Cond.selects RX8 yX8_isMissing yX8_isMissing ∈ am_gt := am_gt_in (List.mem_of_getElem? (i := 808) (by decide +kernel)) (by decide +kernel)
theorem se_RX8_X8_item_X8_item : Cond.selects RX8 yX8_item yX8_item ∈ am_gt := am_gt_in (List.mem_of_getElem? (i := 816) (by decide +kernel)) (by decide +kernel)
theorem se_RX8_X8_put_X8_put : Cond.selects RX8 yX8_put yX8_put ∈ am_gt := am_gt_in (List.mem_of_getElem? (i := 1069) (by decide +kernel)) (by decide +kernel)
theorem se_RX9_RX9_isIll_X7_isIll : Cond.selects RX9 (⟨RX9, "isIll", "()Z"⟩ : MethodName) yX7_isIll ∈ am_gt := am_gt_in (List.mem_of_getElem? (i := 725) (by decide +kernel)) (by decide +kernel)
theorem se_RX9_X7_comeBack_X7_comeBack : Cond.selects RX9 yX7_comeBack yX7_comeBack ∈ am_gt := am_gt_in (List.mem_of_getElem? (i := 1028) (by decide +kernel)) (by decide +kernel)
theorem se_RX9_X7_isIll_X7_isIll : Cond.selects RX9 yX7_isIll yX7_isIll ∈ am_gt := am_gt_in (List.mem_of_getElem? (i := 1606) (by decide +kernel)) (by decide +kernel)
theorem se_RX9_X7_keep_X7_keep : Cond.selects RX9 yX7_keep yX7_keep ∈ am_gt := am_gt_in (List.mem_of_getElem? (i := 1003) (by decide +kernel)) (by decide +kernel)
theorem se_RX9_X7_may_X9_may : Cond.selects RX9 yX7_may yX9_may ∈ am_gt := am_gt_in (List.mem_of_getElem? (i := 719) (by decide +kernel)) (by decide +kernel)
theorem se_RX9_X7_pace_X9_pace : Cond.selects RX9 yX7_pace yX9_pace ∈ am_gt := am_gt_in (List.mem_of_getElem? (i := 687) (by decide +kernel)) (by decide +kernel)
theorem se_RX9_X7_parts_X9_parts : Cond.selects RX9 yX7_parts yX9_parts ∈ am_gt := am_gt_in (List.mem_of_getElem? (i := 747) (by decide +kernel)) (by decide +kernel)
theorem se_RX9_X7_rowsAt_X9_rowsAt : Cond.selects RX9 yX7_rowsAt yX9_rowsAt ∈ am_gt := am_gt_in (List.mem_of_getElem? (i := 866) (by decide +kernel)) (by decide +kernel)
theorem se_RX9_X7_toldPace_X7_toldPace : Cond.selects RX9 yX7_toldPace yX7_toldPace ∈ am_gt := am_gt_in (List.mem_of_getElem? (i := 665) (by decide +kernel)) (by decide +kernel)
theorem sm_RX5_isIll_RX7 : Cond.sameMethod (⟨RX5, "isIll", "()Z"⟩ : MethodName).cls RX7 (⟨RX5, "isIll", "()Z"⟩ : MethodName).name (⟨RX5, "isIll", "()Z"⟩ : MethodName).desc ∈ am_gt := am_gt_in (List.mem_of_getElem? (i := 713) (by decide +kernel)) (by decide +kernel)
theorem sm_RX6_parts_RX7 : Cond.sameMethod (⟨RX6, "parts", "()I"⟩ : MethodName).cls RX7 (⟨RX6, "parts", "()I"⟩ : MethodName).name (⟨RX6, "parts", "()I"⟩ : MethodName).desc ∈ am_gt := am_gt_in (List.mem_of_getElem? (i := 736) (by decide +kernel)) (by decide +kernel)
theorem sm_RX9_isIll_RX7 : Cond.sameMethod (⟨RX9, "isIll", "()Z"⟩ : MethodName).cls RX7 (⟨RX9, "isIll", "()Z"⟩ : MethodName).name (⟨RX9, "isIll", "()Z"⟩ : MethodName).desc ∈ am_gt := am_gt_in (List.mem_of_getElem? (i := 724) (by decide +kernel)) (by decide +kernel)
theorem sm_X3_may_RX3 : Cond.sameMethod yX3_may.cls RX3 yX3_may.name yX3_may.desc ∈ am_gt := am_gt_in (List.mem_of_getElem? (i := 1599) (by decide +kernel)) (by decide +kernel)
theorem sm_X3_pace_RX3 : Cond.sameMethod yX3_pace.cls RX3 yX3_pace.name yX3_pace.desc ∈ am_gt := am_gt_in (List.mem_of_getElem? (i := 1597) (by decide +kernel)) (by decide +kernel)
theorem sm_X3_parts_RX3 : Cond.sameMethod yX3_parts.cls RX3 yX3_parts.name yX3_parts.desc ∈ am_gt := am_gt_in (List.mem_of_getElem? (i := 1607) (by decide +kernel)) (by decide +kernel)
theorem sm_X6_may_RX6 : Cond.sameMethod yX6_may.cls RX6 yX6_may.name yX6_may.desc ∈ am_gt := am_gt_in (List.mem_of_getElem? (i := 1598) (by decide +kernel)) (by decide +kernel)
theorem sm_X6_pace_RX6 : Cond.sameMethod yX6_pace.cls RX6 yX6_pace.name yX6_pace.desc ∈ am_gt := am_gt_in (List.mem_of_getElem? (i := 1596) (by decide +kernel)) (by decide +kernel)
theorem sm_X7_comeBack_RX7 : Cond.sameMethod yX7_comeBack.cls RX7 yX7_comeBack.name yX7_comeBack.desc ∈ am_gt := am_gt_in (List.mem_of_getElem? (i := 1023) (by decide +kernel)) (by decide +kernel)
theorem sm_X7_isIll_RX7 : Cond.sameMethod yX7_isIll.cls RX7 yX7_isIll.name yX7_isIll.desc ∈ am_gt := am_gt_in (List.mem_of_getElem? (i := 1600) (by decide +kernel)) (by decide +kernel)
theorem sm_X7_keep_RX7 : Cond.sameMethod yX7_keep.cls RX7 yX7_keep.name yX7_keep.desc ∈ am_gt := am_gt_in (List.mem_of_getElem? (i := 998) (by decide +kernel)) (by decide +kernel)
theorem sm_X7_may_RX7 : Cond.sameMethod yX7_may.cls RX7 yX7_may.name yX7_may.desc ∈ am_gt := am_gt_in (List.mem_of_getElem? (i := 696) (by decide +kernel)) (by decide +kernel)
theorem sm_X7_pace_RX7 : Cond.sameMethod yX7_pace.cls RX7 yX7_pace.name yX7_pace.desc ∈ am_gt := am_gt_in (List.mem_of_getElem? (i := 670) (by decide +kernel)) (by decide +kernel)
theorem sm_X7_parts_RX7 : Cond.sameMethod yX7_parts.cls RX7 yX7_parts.name yX7_parts.desc ∈ am_gt := am_gt_in (List.mem_of_getElem? (i := 731) (by decide +kernel)) (by decide +kernel)
theorem sm_X7_rowsAt_RX7 : Cond.sameMethod yX7_rowsAt.cls RX7 yX7_rowsAt.name yX7_rowsAt.desc ∈ am_gt := am_gt_in (List.mem_of_getElem? (i := 861) (by decide +kernel)) (by decide +kernel)
theorem sm_X7_toldPace_RX7 : Cond.sameMethod yX7_toldPace.cls RX7 yX7_toldPace.name yX7_toldPace.desc ∈ am_gt := am_gt_in (List.mem_of_getElem? (i := 660) (by decide +kernel)) (by decide +kernel)
theorem st_J7_fill_53178 : Cond.static yJ7_fill_53178 ∈ am_gt := am_gt_in (List.mem_of_getElem? (i := 1061) (by decide +kernel)) (by decide +kernel)
theorem st_X0_minutesOf : Cond.static yX0_minutesOf ∈ am_gt := am_gt_in (List.mem_of_getElem? (i := 848) (by decide +kernel)) (by decide +kernel)
theorem st_X0_waitsOf : Cond.static yX0_waitsOf ∈ am_gt := am_gt_in (List.mem_of_getElem? (i := 845) (by decide +kernel)) (by decide +kernel)
theorem st_X10_isDigit : Cond.static yX10_isDigit ∈ am_gt := am_gt_in (List.mem_of_getElem? (i := 292) (by decide +kernel)) (by decide +kernel)
theorem st_X10_isLetter : Cond.static yX10_isLetter ∈ am_gt := am_gt_in (List.mem_of_getElem? (i := 280) (by decide +kernel)) (by decide +kernel)
theorem st_X10_joined : Cond.static yX10_joined ∈ am_gt := am_gt_in (List.mem_of_getElem? (i := 765) (by decide +kernel)) (by decide +kernel)
theorem st_X11_isABoat : Cond.static yX11_isABoat ∈ am_gt := am_gt_in (List.mem_of_getElem? (i := 959) (by decide +kernel)) (by decide +kernel)
theorem st_X11_isHour : Cond.static yX11_isHour ∈ am_gt := am_gt_in (List.mem_of_getElem? (i := 654) (by decide +kernel)) (by decide +kernel)
theorem st_X11_isUnder : Cond.static yX11_isUnder ∈ am_gt := am_gt_in (List.mem_of_getElem? (i := 1087) (by decide +kernel)) (by decide +kernel)
theorem st_X11_newRower : Cond.static yX11_newRower ∈ am_gt := am_gt_in (List.mem_of_getElem? (i := 515) (by decide +kernel)) (by decide +kernel)
theorem st_X11_shareOf : Cond.static yX11_shareOf ∈ am_gt := am_gt_in (List.mem_of_getElem? (i := 981) (by decide +kernel)) (by decide +kernel)
theorem st_X11_turnedAbout : Cond.static yX11_turnedAbout ∈ am_gt := am_gt_in (List.mem_of_getElem? (i := 965) (by decide +kernel)) (by decide +kernel)
theorem st_X11_within : Cond.static yX11_within ∈ am_gt := am_gt_in (List.mem_of_getElem? (i := 450) (by decide +kernel)) (by decide +kernel)
theorem st_X12_areLandings : Cond.static yX12_areLandings ∈ am_gt := am_gt_in (List.mem_of_getElem? (i := 1291) (by decide +kernel)) (by decide +kernel)
theorem st_X12_in : Cond.static yX12_in ∈ am_gt := am_gt_in (List.mem_of_getElem? (i := 1288) (by decide +kernel)) (by decide +kernel)
theorem st_X12_isBoat : Cond.static yX12_isBoat ∈ am_gt := am_gt_in (List.mem_of_getElem? (i := 1531) (by decide +kernel)) (by decide +kernel)
theorem st_X12_isHour : Cond.static yX12_isHour ∈ am_gt := am_gt_in (List.mem_of_getElem? (i := 1324) (by decide +kernel)) (by decide +kernel)
theorem st_X12_isSheet : Cond.static yX12_isSheet ∈ am_gt := am_gt_in (List.mem_of_getElem? (i := 1461) (by decide +kernel)) (by decide +kernel)
theorem st_X12_onward : Cond.static yX12_onward ∈ am_gt := am_gt_in (List.mem_of_getElem? (i := 1537) (by decide +kernel)) (by decide +kernel)
theorem st_X12_over : Cond.static yX12_over ∈ am_gt := am_gt_in (List.mem_of_getElem? (i := 1593) (by decide +kernel)) (by decide +kernel)
theorem st_X12_plain : Cond.static yX12_plain ∈ am_gt := am_gt_in (List.mem_of_getElem? (i := 1534) (by decide +kernel)) (by decide +kernel)
theorem st_X12_tail : Cond.static yX12_tail ∈ am_gt := am_gt_in (List.mem_of_getElem? (i := 1468) (by decide +kernel)) (by decide +kernel)
theorem st_X12_within : Cond.static yX12_within ∈ am_gt := am_gt_in (List.mem_of_getElem? (i := 1450) (by decide +kernel)) (by decide +kernel)
theorem st_X4_areTwo : Cond.static yX4_areTwo ∈ am_gt := am_gt_in (List.mem_of_getElem? (i := 453) (by decide +kernel)) (by decide +kernel)
theorem st_X4_turned : Cond.static yX4_turned ∈ am_gt := am_gt_in (List.mem_of_getElem? (i := 921) (by decide +kernel)) (by decide +kernel)
theorem st_copy : Cond.static arraycopyName ∈ am_gt := am_gt_in (List.mem_of_getElem? (i := 1010) (by decide +kernel)) (by decide +kernel)
theorem st_math_abs : Cond.static Lib.Math.abs.name ∈ am_gt := am_gt_in (List.mem_of_getElem? (i := 962) (by decide +kernel)) (by decide +kernel)
theorem st_math_max : Cond.static Lib.Math.max.name ∈ am_gt := am_gt_in (List.mem_of_getElem? (i := 315) (by decide +kernel)) (by decide +kernel)
theorem st_math_min : Cond.static Lib.Math.min.name ∈ am_gt := am_gt_in (List.mem_of_getElem? (i := 318) (by decide +kernel)) (by decide +kernel)
theorem st_math_minl : Cond.static Lib.MathLoose.min_long.x ∈ am_gt := am_gt_in (List.mem_of_getElem? (i := 842) (by decide +kernel)) (by decide +kernel)
theorem su_RX2_RX6 : Cond.superclass RX2 RX6 ∈ am_gt := am_gt_in (List.mem_of_getElem? (i := 632) (by decide +kernel)) (by decide +kernel)
theorem su_RX3_RX7 : Cond.superclass RX3 RX7 ∈ am_gt := am_gt_in (List.mem_of_getElem? (i := 568) (by decide +kernel)) (by decide +kernel)
theorem su_RX5_RX3 : Cond.superclass RX5 RX3 ∈ am_gt := am_gt_in (List.mem_of_getElem? (i := 600) (by decide +kernel)) (by decide +kernel)
theorem su_RX6_RX7 : Cond.superclass RX6 RX7 ∈ am_gt := am_gt_in (List.mem_of_getElem? (i := 584) (by decide +kernel)) (by decide +kernel)
theorem su_RX9_RX7 : Cond.superclass RX9 RX7 ∈ am_gt := am_gt_in (List.mem_of_getElem? (i := 616) (by decide +kernel)) (by decide +kernel)
