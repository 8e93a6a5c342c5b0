set_option maxRecDepth 100000 in
theorem jc_m0 : jc_rows 0 0 k_X_init = true := by decide +kernel
set_option maxRecDepth 100000 in
theorem jc_m1 : jc_rows 1 0 k_Tape_init = true := by decide +kernel
set_option maxRecDepth 100000 in
theorem jc_m2 : jc_rows 2 0 k_HuntReader_init = true := by decide +kernel
set_option maxRecDepth 100000 in
theorem jc_m3 : jc_rows 3 0 k_Hunt_init = true := by decide +kernel
set_option maxRecDepth 100000 in
theorem jc_m4 : jc_rows 4 0 k_WorthReader_init = true := by decide +kernel
set_option maxRecDepth 100000 in
theorem jc_m5 : jc_rows 5 0 k_Worths_init = true := by decide +kernel
set_option maxRecDepth 100000 in
theorem jc_m6 : jc_rows 6 0 k_Table_init = true := by decide +kernel
set_option maxRecDepth 100000 in
theorem jc_m7 : jc_rows 7 0 k_Past_init = true := by decide +kernel
set_option maxRecDepth 100000 in
theorem jc_m8 : jc_rows 8 0 k_Clock_init = true := by decide +kernel
set_option maxRecDepth 100000 in
theorem jc_m9 : jc_rows 9 0 k_OrderSearch_init = true := by decide +kernel
set_option maxRecDepth 100000 in
theorem jc_m10 : jc_rows 10 0 k_Finds_init = true := by decide +kernel
set_option maxRecDepth 100000 in
theorem jc_m11 : jc_rows 11 0 k_HelperCount_init = true := by decide +kernel
set_option maxRecDepth 100000 in
theorem jc_m12 : jc_rows 12 0 k_X_feed = true := by decide +kernel
set_option maxRecDepth 100000 in
theorem jc_m13 : jc_rows 13 0 k_Tape_bytesIn = true := by decide +kernel
set_option maxRecDepth 100000 in
theorem jc_m14 : jc_rows 14 0 k_Tape_hasRoom = true := by decide +kernel
set_option maxRecDepth 100000 in
theorem jc_m15 : jc_rows 15 0 k_Tape_add = true := by decide +kernel
set_option maxRecDepth 100000 in
theorem jc_m16 : jc_rows 16 0 k_Tape_length = true := by decide +kernel
set_option maxRecDepth 100000 in
theorem jc_m17 : jc_rows 17 0 k_X_end = true := by decide +kernel
set_option maxRecDepth 100000 in
theorem jc_m18 : jc_rows 18 0 k_Tape_cut = true := by decide +kernel
set_option maxRecDepth 100000 in
theorem jc_m19 : jc_rows 19 0 k_X_fault = true := by decide +kernel
set_option maxRecDepth 100000 in
theorem jc_m20 : jc_rows 20 0 k_HuntReader_read = true := by decide +kernel
set_option maxRecDepth 100000 in
theorem jc_m21 : jc_rows 21 0 k_Tape_rewind = true := by decide +kernel
set_option maxRecDepth 100000 in
theorem jc_m22 : jc_rows 22 0 k_Hunt_clear = true := by decide +kernel
set_option maxRecDepth 100000 in
theorem jc_m23 : jc_rows 23 0 k_HuntReader_readClause = true := by decide +kernel
set_option maxRecDepth 100000 in
theorem jc_m24 : jc_rows 24 0 k_Tape_nextSign = true := by decide +kernel
set_option maxRecDepth 100000 in
theorem jc_m25 : jc_rows 25 0 k_HuntReader_addClause = true := by decide +kernel
set_option maxRecDepth 100000 in
theorem jc_m26 : jc_rows 26 0 k_Hunt_addPlace = true := by decide +kernel
set_option maxRecDepth 100000 in
theorem jc_m27 : jc_rows 27 0 k_Hunt_addBand = true := by decide +kernel
set_option maxRecDepth 100000 in
theorem jc_m28 : jc_rows 28 0 k_Tape_pass = true := by decide +kernel
set_option maxRecDepth 100000 in
theorem jc_m29 : jc_rows 29 0 k_HuntReader_readItems = true := by decide +kernel
set_option maxRecDepth 100000 in
theorem jc_m30 : jc_rows 30 0 k_HuntReader_itemOf = true := by decide +kernel
set_option maxRecDepth 100000 in
theorem jc_m31 : jc_rows 31 0 k_HuntReader_readValue = true := by decide +kernel
set_option maxRecDepth 100000 in
theorem jc_m32 : jc_rows 32 0 k_Tape_takeNumber = true := by decide +kernel
set_option maxRecDepth 100000 in
theorem jc_m33 : jc_rows 33 0 k_Tape_isDigit = true := by decide +kernel
set_option maxRecDepth 100000 in
theorem jc_m34 : jc_rows 34 0 k_Tape_stepBack = true := by decide +kernel
set_option maxRecDepth 100000 in
theorem jc_m35 : jc_rows 35 0 k_Hunt_put = true := by decide +kernel
set_option maxRecDepth 100000 in
theorem jc_m36 : jc_rows 36 0 k_Tape_position = true := by decide +kernel
set_option maxRecDepth 100000 in
theorem jc_m37 : jc_rows 37 0 k_Hunt_isWhole = true := by decide +kernel
set_option maxRecDepth 100000 in
theorem jc_m38 : jc_rows 38 0 k_Tape_take = true := by decide +kernel
set_option maxRecDepth 100000 in
theorem jc_m39 : jc_rows 39 0 k_WorthReader_read = true := by decide +kernel
set_option maxRecDepth 100000 in
theorem jc_m40 : jc_rows 40 0 k_WorthReader_readClause = true := by decide +kernel
set_option maxRecDepth 100000 in
theorem jc_m41 : jc_rows 41 0 k_WorthReader_readCondition = true := by decide +kernel
set_option maxRecDepth 100000 in
theorem jc_m42 : jc_rows 42 0 k_WorthReader_readTruth = true := by decide +kernel
set_option maxRecDepth 100000 in
theorem jc_m43 : jc_rows 43 0 k_WorthReader_readUnit = true := by decide +kernel
set_option maxRecDepth 100000 in
theorem jc_m44 : jc_rows 44 0 k_WorthReader_readSum = true := by decide +kernel
set_option maxRecDepth 100000 in
theorem jc_m45 : jc_rows 45 0 k_WorthReader_readTerm = true := by decide +kernel
set_option maxRecDepth 100000 in
theorem jc_m46 : jc_rows 46 0 k_WorthReader_readAtom = true := by decide +kernel
set_option maxRecDepth 100000 in
theorem jc_m47 : jc_rows 47 0 k_Worths_letterOf = true := by decide +kernel
set_option maxRecDepth 100000 in
theorem jc_m48 : jc_rows 48 0 k_WorthReader_write = true := by decide +kernel
set_option maxRecDepth 100000 in
theorem jc_m49 : jc_rows 49 0 k_WorthReader_readComparison = true := by decide +kernel
set_option maxRecDepth 100000 in
theorem jc_m50 : jc_rows 50 0 k_WorthReader_isComparison = true := by decide +kernel
set_option maxRecDepth 100000 in
theorem jc_m51 : jc_rows 51 0 k_WorthReader_readMoreUnits = true := by decide +kernel
set_option maxRecDepth 100000 in
theorem jc_m52 : jc_rows 52 0 k_WorthReader_readMoreTruths = true := by decide +kernel
set_option maxRecDepth 100000 in
theorem jc_m53 : jc_rows 53 0 k_WorthReader_readWhatFollowsCondition = true := by decide +kernel
set_option maxRecDepth 100000 in
theorem jc_m54 : jc_rows 54 0 k_X_text = true := by decide +kernel
set_option maxRecDepth 100000 in
theorem jc_m55 : jc_rows 55 0 k_HuntReader_draft = true := by decide +kernel
set_option maxRecDepth 100000 in
theorem jc_m56 : jc_rows 56 0 k_Hunt_copyFrom = true := by decide +kernel
set_option maxRecDepth 100000 in
theorem jc_m57 : jc_rows 57 0 k_Table_reset = true := by decide +kernel
set_option maxRecDepth 100000 in
theorem jc_m58 : jc_rows 58 0 k_Hunt_places = true := by decide +kernel
set_option maxRecDepth 100000 in
theorem jc_m59 : jc_rows 59 0 k_Hunt_bands = true := by decide +kernel
set_option maxRecDepth 100000 in
theorem jc_m60 : jc_rows 60 0 k_Past_forget = true := by decide +kernel
set_option maxRecDepth 100000 in
theorem jc_m61 : jc_rows 61 0 k_Finds_forget = true := by decide +kernel
set_option maxRecDepth 100000 in
theorem jc_m62 : jc_rows 62 0 k_Worths_hasRoom = true := by decide +kernel
set_option maxRecDepth 100000 in
theorem jc_m63 : jc_rows 63 0 k_WorthReader_code = true := by decide +kernel
set_option maxRecDepth 100000 in
theorem jc_m64 : jc_rows 64 0 k_WorthReader_size = true := by decide +kernel
set_option maxRecDepth 100000 in
theorem jc_m65 : jc_rows 65 0 k_Worths_keep = true := by decide +kernel
set_option maxRecDepth 100000 in
theorem jc_m66 : jc_rows 66 0 k_X_band = true := by decide +kernel
set_option maxRecDepth 100000 in
theorem jc_m67 : jc_rows 67 0 k_Hunt_hasBand = true := by decide +kernel
set_option maxRecDepth 100000 in
theorem jc_m68 : jc_rows 68 0 k_Hunt_slow = true := by decide +kernel
set_option maxRecDepth 100000 in
theorem jc_m69 : jc_rows 69 0 k_Table_digitsOf = true := by decide +kernel
set_option maxRecDepth 100000 in
theorem jc_m70 : jc_rows 70 0 k_Table_placeOf = true := by decide +kernel
set_option maxRecDepth 100000 in
theorem jc_m71 : jc_rows 71 0 k_Hunt_hasPlace = true := by decide +kernel
set_option maxRecDepth 100000 in
theorem jc_m72 : jc_rows 72 0 k_Table_startOf = true := by decide +kernel
set_option maxRecDepth 100000 in
theorem jc_m73 : jc_rows 73 0 k_X_order = true := by decide +kernel
set_option maxRecDepth 100000 in
theorem jc_m74 : jc_rows 74 0 k_Table_isOrder = true := by decide +kernel
set_option maxRecDepth 100000 in
theorem jc_m75 : jc_rows 75 0 k_Past_remember = true := by decide +kernel
set_option maxRecDepth 100000 in
theorem jc_m76 : jc_rows 76 0 k_Past_keepOrders = true := by decide +kernel
set_option maxRecDepth 100000 in
theorem jc_m77 : jc_rows 77 0 k_Table_putOrder = true := by decide +kernel
set_option maxRecDepth 100000 in
theorem jc_m78 : jc_rows 78 0 k_Past_acts = true := by decide +kernel
set_option maxRecDepth 100000 in
theorem jc_m79 : jc_rows 79 0 k_X_start = true := by decide +kernel
set_option maxRecDepth 100000 in
theorem jc_m80 : jc_rows 80 0 k_Table_putStart = true := by decide +kernel
set_option maxRecDepth 100000 in
theorem jc_m81 : jc_rows 81 0 k_X_worth = true := by decide +kernel
set_option maxRecDepth 100000 in
theorem jc_m82 : jc_rows 82 0 k_Worths_hold = true := by decide +kernel
set_option maxRecDepth 100000 in
theorem jc_m83 : jc_rows 83 0 k_X_undo = true := by decide +kernel
set_option maxRecDepth 100000 in
theorem jc_m84 : jc_rows 84 0 k_Past_undoLatest = true := by decide +kernel
set_option maxRecDepth 100000 in
theorem jc_m85 : jc_rows 85 0 k_Past_bringOrders = true := by decide +kernel
set_option maxRecDepth 100000 in
theorem jc_m86 : jc_rows 86 0 k_X_at = true := by decide +kernel
set_option maxRecDepth 100000 in
theorem jc_m87 : jc_rows 87 0 k_X_follows = true := by decide +kernel
set_option maxRecDepth 100000 in
theorem jc_m88 : jc_rows 88 0 k_Table_timesFollowed = true := by decide +kernel
set_option maxRecDepth 100000 in
theorem jc_m89 : jc_rows 89 0 k_X_lawful = true := by decide +kernel
set_option maxRecDepth 100000 in
theorem jc_m90 : jc_rows 90 0 k_Hunt_isTold = true := by decide +kernel
set_option maxRecDepth 100000 in
theorem jc_m91 : jc_rows 91 0 k_Table_keepsTheLaw = true := by decide +kernel
set_option maxRecDepth 100000 in
theorem jc_m92 : jc_rows 92 0 k_Hunt_follow = true := by decide +kernel
set_option maxRecDepth 100000 in
theorem jc_m93 : jc_rows 93 0 k_Table_firstMeetingTurn = true := by decide +kernel
set_option maxRecDepth 100000 in
theorem jc_m94 : jc_rows 94 0 k_Table_firstMeetingPlace = true := by decide +kernel
set_option maxRecDepth 100000 in
theorem jc_m95 : jc_rows 95 0 k_Table_bandsAt = true := by decide +kernel
set_option maxRecDepth 100000 in
theorem jc_m96 : jc_rows 96 0 k_JInteger_bitCount = true := by decide +kernel
set_option maxRecDepth 100000 in
theorem jc_m97 : jc_rows 97 0 k_X_crowd = true := by decide +kernel
set_option maxRecDepth 100000 in
theorem jc_m98 : jc_rows 98 0 k_X_even = true := by decide +kernel
set_option maxRecDepth 100000 in
theorem jc_m99 : jc_rows 99 0 k_X_evenTurn = true := by decide +kernel
set_option maxRecDepth 100000 in
theorem jc_m100 : jc_rows 100 0 k_X_slips = true := by decide +kernel
set_option maxRecDepth 100000 in
theorem jc_m101 : jc_rows 101 0 k_Table_pairsOfPlaces = true := by decide +kernel
set_option maxRecDepth 100000 in
theorem jc_m102 : jc_rows 102 0 k_JLong_bitCount = true := by decide +kernel
set_option maxRecDepth 100000 in
theorem jc_m103 : jc_rows 103 0 k_X_well = true := by decide +kernel
set_option maxRecDepth 100000 in
theorem jc_m104 : jc_rows 104 0 k_Table_comerTo = true := by decide +kernel
set_option maxRecDepth 100000 in
theorem jc_m105 : jc_rows 105 0 k_X_sight = true := by decide +kernel
set_option maxRecDepth 100000 in
theorem jc_m106 : jc_rows 106 0 k_Table_timesSeen = true := by decide +kernel
set_option maxRecDepth 100000 in
theorem jc_m107 : jc_rows 107 0 k_Table_inOneLine = true := by decide +kernel
set_option maxRecDepth 100000 in
theorem jc_m108 : jc_rows 108 0 k_Hunt_x = true := by decide +kernel
set_option maxRecDepth 100000 in
theorem jc_m109 : jc_rows 109 0 k_Hunt_y = true := by decide +kernel
set_option maxRecDepth 100000 in
theorem jc_m110 : jc_rows 110 0 k_X_points = true := by decide +kernel
set_option maxRecDepth 100000 in
theorem jc_m111 : jc_rows 111 0 k_Clock_pointsOf = true := by decide +kernel
set_option maxRecDepth 100000 in
theorem jc_m112 : jc_rows 112 0 k_Clock_wayOf = true := by decide +kernel
set_option maxRecDepth 100000 in
theorem jc_m113 : jc_rows 113 0 k_Hunt_steps = true := by decide +kernel
set_option maxRecDepth 100000 in
theorem jc_m114 : jc_rows 114 0 k_Worths_valueOf = true := by decide +kernel
set_option maxRecDepth 100000 in
theorem jc_m115 : jc_rows 115 0 k_Worths_run = true := by decide +kernel
set_option maxRecDepth 100000 in
theorem jc_m116 : jc_rows 116 0 k_Worths_letterValue = true := by decide +kernel
set_option maxRecDepth 100000 in
theorem jc_m117 : jc_rows 117 0 k_Worths_join = true := by decide +kernel
set_option maxRecDepth 100000 in
theorem jc_m118 : jc_rows 118 0 k_Worths_joined = true := by decide +kernel
set_option maxRecDepth 100000 in
theorem jc_m119 : jc_rows 119 0 k_Worths_bounded = true := by decide +kernel
set_option maxRecDepth 100000 in
theorem jc_m120 : jc_rows 120 0 k_Hunt_stay = true := by decide +kernel
set_option maxRecDepth 100000 in
theorem jc_m121 : jc_rows 121 0 k_X_comes = true := by decide +kernel
set_option maxRecDepth 100000 in
theorem jc_m122 : jc_rows 122 0 k_Clock_minuteOf = true := by decide +kernel
set_option maxRecDepth 100000 in
theorem jc_m123 : jc_rows 123 0 k_X_home = true := by decide +kernel
set_option maxRecDepth 100000 in
theorem jc_m124 : jc_rows 124 0 k_Clock_minuteHome = true := by decide +kernel
set_option maxRecDepth 100000 in
theorem jc_m125 : jc_rows 125 0 k_X_clashes = true := by decide +kernel
set_option maxRecDepth 100000 in
theorem jc_m126 : jc_rows 126 0 k_Clock_clashingPairs = true := by decide +kernel
set_option maxRecDepth 100000 in
theorem jc_m127 : jc_rows 127 0 k_Clock_lookWhoComesWhen = true := by decide +kernel
set_option maxRecDepth 100000 in
theorem jc_m128 : jc_rows 128 0 k_Clock_clashOf = true := by decide +kernel
set_option maxRecDepth 100000 in
theorem jc_m129 : jc_rows 129 0 k_Clock_firstClash = true := by decide +kernel
set_option maxRecDepth 100000 in
theorem jc_m130 : jc_rows 130 0 k_X_starts = true := by decide +kernel
set_option maxRecDepth 100000 in
theorem jc_m131 : jc_rows 131 0 k_Clock_seekStarts = true := by decide +kernel
set_option maxRecDepth 100000 in
theorem jc_m132 : jc_rows 132 0 k_Clock_clashesByStarts = true := by decide +kernel
set_option maxRecDepth 100000 in
theorem jc_m133 : jc_rows 133 0 k_Clock_seekStartOf = true := by decide +kernel
set_option maxRecDepth 100000 in
theorem jc_m134 : jc_rows 134 0 k_Clock_startsApart = true := by decide +kernel
set_option maxRecDepth 100000 in
theorem jc_m135 : jc_rows 135 0 k_Clock_leastSum = true := by decide +kernel
set_option maxRecDepth 100000 in
theorem jc_m136 : jc_rows 136 0 k_Clock_leastRow = true := by decide +kernel
set_option maxRecDepth 100000 in
theorem jc_m137 : jc_rows 137 0 k_X_soonest = true := by decide +kernel
set_option maxRecDepth 100000 in
theorem jc_m138 : jc_rows 138 0 k_OrderSearch_seekSoonest = true := by decide +kernel
set_option maxRecDepth 100000 in
theorem jc_m139 : jc_rows 139 0 k_OrderSearch_goSoon = true := by decide +kernel
set_option maxRecDepth 100000 in
theorem jc_m140 : jc_rows 140 0 k_OrderSearch_keep = true := by decide +kernel
set_option maxRecDepth 100000 in
theorem jc_m141 : jc_rows 141 0 k_Clock_clashesThere = true := by decide +kernel
set_option maxRecDepth 100000 in
theorem jc_m142 : jc_rows 142 0 k_OrderSearch_bestOrder = true := by decide +kernel
set_option maxRecDepth 100000 in
theorem jc_m143 : jc_rows 143 0 k_OrderSearch_bestValue = true := by decide +kernel
set_option maxRecDepth 100000 in
theorem jc_m144 : jc_rows 144 0 k_X_rich = true := by decide +kernel
set_option maxRecDepth 100000 in
theorem jc_m145 : jc_rows 145 0 k_OrderSearch_seekRichest = true := by decide +kernel
set_option maxRecDepth 100000 in
theorem jc_m146 : jc_rows 146 0 k_OrderSearch_placesOfOthers = true := by decide +kernel
set_option maxRecDepth 100000 in
theorem jc_m147 : jc_rows 147 0 k_OrderSearch_goRich = true := by decide +kernel
set_option maxRecDepth 100000 in
theorem jc_m148 : jc_rows 148 0 k_X_find = true := by decide +kernel
set_option maxRecDepth 100000 in
theorem jc_m149 : jc_rows 149 0 k_Finds_hasRoom = true := by decide +kernel
set_option maxRecDepth 100000 in
theorem jc_m150 : jc_rows 150 0 k_Finds_add = true := by decide +kernel
set_option maxRecDepth 100000 in
theorem jc_m151 : jc_rows 151 0 k_X_fits = true := by decide +kernel
set_option maxRecDepth 100000 in
theorem jc_m152 : jc_rows 152 0 k_Finds_fittingOrders = true := by decide +kernel
set_option maxRecDepth 100000 in
theorem jc_m153 : jc_rows 153 0 k_Finds_waysThrough = true := by decide +kernel
set_option maxRecDepth 100000 in
theorem jc_m154 : jc_rows 154 0 k_X_tables = true := by decide +kernel
set_option maxRecDepth 100000 in
theorem jc_m155 : jc_rows 155 0 k_Finds_isSmall = true := by decide +kernel
set_option maxRecDepth 100000 in
theorem jc_m156 : jc_rows 156 0 k_Finds_howManyTables = true := by decide +kernel
set_option maxRecDepth 100000 in
theorem jc_m157 : jc_rows 157 0 k_Finds_seekTables = true := by decide +kernel
set_option maxRecDepth 100000 in
theorem jc_m158 : jc_rows 158 0 k_Finds_clearSearch = true := by decide +kernel
set_option maxRecDepth 100000 in
theorem jc_m159 : jc_rows 159 0 k_Finds_someAreLawful = true := by decide +kernel
set_option maxRecDepth 100000 in
theorem jc_m160 : jc_rows 160 0 k_Finds_fillIfItCanBe = true := by decide +kernel
set_option maxRecDepth 100000 in
theorem jc_m161 : jc_rows 161 0 k_Finds_shutWhereOthersMustBe = true := by decide +kernel
set_option maxRecDepth 100000 in
theorem jc_m162 : jc_rows 162 0 k_Finds_shutElsewhere = true := by decide +kernel
set_option maxRecDepth 100000 in
theorem jc_m163 : jc_rows 163 0 k_Finds_fill = true := by decide +kernel
set_option maxRecDepth 100000 in
theorem jc_m164 : jc_rows 164 0 k_Finds_keepTable = true := by decide +kernel
set_option maxRecDepth 100000 in
theorem jc_m165 : jc_rows 165 0 k_Finds_mayFollow = true := by decide +kernel
set_option maxRecDepth 100000 in
theorem jc_m166 : jc_rows 166 0 k_Finds_set = true := by decide +kernel
set_option maxRecDepth 100000 in
theorem jc_m167 : jc_rows 167 0 k_Finds_follow = true := by decide +kernel
set_option maxRecDepth 100000 in
theorem jc_m168 : jc_rows 168 0 k_Finds_unset = true := by decide +kernel
set_option maxRecDepth 100000 in
theorem jc_m169 : jc_rows 169 0 k_Finds_openWhatIsLeft = true := by decide +kernel
set_option maxRecDepth 100000 in
theorem jc_m170 : jc_rows 170 0 k_Finds_orderInTable = true := by decide +kernel
set_option maxRecDepth 100000 in
theorem jc_m171 : jc_rows 171 0 k_X_wrong = true := by decide +kernel
set_option maxRecDepth 100000 in
theorem jc_m172 : jc_rows 172 0 k_Table_followsGoneWrong = true := by decide +kernel
set_option maxRecDepth 100000 in
theorem jc_m173 : jc_rows 173 0 k_X_helpers = true := by decide +kernel
set_option maxRecDepth 100000 in
theorem jc_m174 : jc_rows 174 0 k_HelperCount_fewest = true := by decide +kernel
set_option maxRecDepth 100000 in
theorem jc_m175 : jc_rows 175 0 k_HelperCount_fillReach = true := by decide +kernel
set_option maxRecDepth 100000 in
theorem jc_m176 : jc_rows 176 0 k_HelperCount_oneMoveMore = true := by decide +kernel
set_option maxRecDepth 100000 in
theorem jc_m177 : jc_rows 177 0 k_HelperCount_gatherDuties = true := by decide +kernel
set_option maxRecDepth 100000 in
theorem jc_m178 : jc_rows 178 0 k_HelperCount_joinOneMore = true := by decide +kernel
set_option maxRecDepth 100000 in
theorem jc_m179 : jc_rows 179 0 k_HelperCount_lookFrom = true := by decide +kernel
set_option maxRecDepth 100000 in
theorem jc_m180 : jc_rows 180 0 k_HelperCount_canJoin = true := by decide +kernel
set_option maxRecDepth 100000 in
theorem jc_m181 : jc_rows 181 0 k_HelperCount_giveWay = true := by decide +kernel
set_option maxRecDepth 100000 in
theorem jc_m182 : jc_rows 182 0 k_X_pieces = true := by decide +kernel
set_option maxRecDepth 100000 in
theorem jc_m183 : jc_rows 183 0 k_X_howManySets = true := by decide +kernel
set_option maxRecDepth 100000 in
theorem jc_m184 : jc_rows 184 0 k_X_setByNumber = true := by decide +kernel
set_option maxRecDepth 100000 in
theorem jc_m185 : jc_rows 185 0 k_X_drawn = true := by decide +kernel
set_option maxRecDepth 100000 in
theorem jc_m186 : jc_rows 186 0 k_Table_drawOrders = true := by decide +kernel
set_option maxRecDepth 100000 in
theorem jc_m187 : jc_rows 187 0 k_Table_drawOrder = true := by decide +kernel
set_option maxRecDepth 100000 in
theorem jc_m188 : jc_rows 188 0 k_Table_nextDraw = true := by decide +kernel
set_option maxRecDepth 100000 in
theorem jc_m189 : jc_rows 189 0 k_X_image = true := by decide +kernel
set_option maxRecDepth 100000 in
theorem jc_m190 : jc_rows 190 0 k_Past_takeImage = true := by decide +kernel
set_option maxRecDepth 100000 in
theorem jc_m191 : jc_rows 191 0 k_X_back = true := by decide +kernel
set_option maxRecDepth 100000 in
theorem jc_m192 : jc_rows 192 0 k_Past_hasImage = true := by decide +kernel
set_option maxRecDepth 100000 in
theorem jc_m193 : jc_rows 193 0 k_Past_goBack = true := by decide +kernel
set_option maxRecDepth 100000 in
theorem jc_m194 : jc_rows 194 0 k_X_again = true := by decide +kernel
set_option maxRecDepth 100000 in
theorem jc_m195 : jc_rows 195 0 k_Past_likeImage = true := by decide +kernel
set_option maxRecDepth 100000 in
theorem jc_m196 : jc_rows 196 0 k_X_count = true := by decide +kernel
set_option maxRecDepth 100000 in
theorem jc_m197 : jc_rows 197 0 k_Worths_size = true := by decide +kernel
set_option maxRecDepth 100000 in
theorem jc_m198 : jc_rows 198 0 k_Worths_holding = true := by decide +kernel
set_option maxRecDepth 100000 in
theorem jc_m199 : jc_rows 199 0 k_Finds_size = true := by decide +kernel
set_option maxRecDepth 100000 in
theorem jc_m200 : jc_rows 200 0 k_R_init = true := by decide +kernel
set_option maxRecDepth 100000 in
theorem jc_m201 : jc_rows 201 0 k_R_thrown = true := by decide +kernel
set_option maxRecDepth 100000 in
theorem jc_m202 : jc_rows 202 0 k_R_feed = true := by decide +kernel
set_option maxRecDepth 100000 in
theorem jc_m203 : jc_rows 203 0 k_R_byteOf = true := by decide +kernel
set_option maxRecDepth 100000 in
theorem jc_m204 : jc_rows 204 0 k_R_end = true := by decide +kernel
set_option maxRecDepth 100000 in
theorem jc_m205 : jc_rows 205 0 k_R_fault = true := by decide +kernel
set_option maxRecDepth 100000 in
theorem jc_m206 : jc_rows 206 0 k_R_readHunt = true := by decide +kernel
set_option maxRecDepth 100000 in
theorem jc_m207 : jc_rows 207 0 k_R_look = true := by decide +kernel
set_option maxRecDepth 100000 in
theorem jc_m208 : jc_rows 208 0 k_R_here = true := by decide +kernel
set_option maxRecDepth 100000 in
theorem jc_m209 : jc_rows 209 0 k_R_placeText = true := by decide +kernel
set_option maxRecDepth 100000 in
theorem jc_m210 : jc_rows 210 0 k_R_has = true := by decide +kernel
set_option maxRecDepth 100000 in
theorem jc_m211 : jc_rows 211 0 k_R_number = true := by decide +kernel
set_option maxRecDepth 100000 in
theorem jc_m212 : jc_rows 212 0 k_R_isDigit = true := by decide +kernel
set_option maxRecDepth 100000 in
theorem jc_m213 : jc_rows 213 0 k_R_bad = true := by decide +kernel
set_option maxRecDepth 100000 in
theorem jc_m214 : jc_rows 214 0 k_R_in = true := by decide +kernel
set_option maxRecDepth 100000 in
theorem jc_m215 : jc_rows 215 0 k_R_bandText = true := by decide +kernel
set_option maxRecDepth 100000 in
theorem jc_m216 : jc_rows 216 0 k_R_lawText = true := by decide +kernel
set_option maxRecDepth 100000 in
theorem jc_m217 : jc_rows 217 0 k_R_readLaw = true := by decide +kernel
set_option maxRecDepth 100000 in
theorem jc_m218 : jc_rows 218 0 k_R_open = true := by decide +kernel
set_option maxRecDepth 100000 in
theorem jc_m219 : jc_rows 219 0 k_R_clause = true := by decide +kernel
set_option maxRecDepth 100000 in
theorem jc_m220 : jc_rows 220 0 k_R_condition = true := by decide +kernel
set_option maxRecDepth 100000 in
theorem jc_m221 : jc_rows 221 0 k_R_unit = true := by decide +kernel
set_option maxRecDepth 100000 in
theorem jc_m222 : jc_rows 222 0 k_R_opens = true := by decide +kernel
set_option maxRecDepth 100000 in
theorem jc_m223 : jc_rows 223 0 k_R_put = true := by decide +kernel
set_option maxRecDepth 100000 in
theorem jc_m224 : jc_rows 224 0 k_R_closes = true := by decide +kernel
set_option maxRecDepth 100000 in
theorem jc_m225 : jc_rows 225 0 k_R_sum = true := by decide +kernel
set_option maxRecDepth 100000 in
theorem jc_m226 : jc_rows 226 0 k_R_term = true := by decide +kernel
set_option maxRecDepth 100000 in
theorem jc_m227 : jc_rows 227 0 k_R_atom = true := by decide +kernel
set_option maxRecDepth 100000 in
theorem jc_m228 : jc_rows 228 0 k_R_plainNumber = true := by decide +kernel
set_option maxRecDepth 100000 in
theorem jc_m229 : jc_rows 229 0 k_R_letterOf = true := by decide +kernel
set_option maxRecDepth 100000 in
theorem jc_m230 : jc_rows 230 0 k_R_compare = true := by decide +kernel
set_option maxRecDepth 100000 in
theorem jc_m231 : jc_rows 231 0 k_R_isSign = true := by decide +kernel
set_option maxRecDepth 100000 in
theorem jc_m232 : jc_rows 232 0 k_R_goOnAnd = true := by decide +kernel
set_option maxRecDepth 100000 in
theorem jc_m233 : jc_rows 233 0 k_R_goOnOr = true := by decide +kernel
set_option maxRecDepth 100000 in
theorem jc_m234 : jc_rows 234 0 k_R_atEnd = true := by decide +kernel
set_option maxRecDepth 100000 in
theorem jc_m235 : jc_rows 235 0 k_R_text = true := by decide +kernel
set_option maxRecDepth 100000 in
theorem jc_m236 : jc_rows 236 0 k_R_takeHunt = true := by decide +kernel
set_option maxRecDepth 100000 in
theorem jc_m237 : jc_rows 237 0 k_R_place = true := by decide +kernel
set_option maxRecDepth 100000 in
theorem jc_m238 : jc_rows 238 0 k_R_isPlace = true := by decide +kernel
set_option maxRecDepth 100000 in
theorem jc_m239 : jc_rows 239 0 k_R_band = true := by decide +kernel
set_option maxRecDepth 100000 in
theorem jc_m240 : jc_rows 240 0 k_R_isBand = true := by decide +kernel
set_option maxRecDepth 100000 in
theorem jc_m241 : jc_rows 241 0 k_R_orderOf = true := by decide +kernel
set_option maxRecDepth 100000 in
theorem jc_m242 : jc_rows 242 0 k_R_of = true := by decide +kernel
set_option maxRecDepth 100000 in
theorem jc_m243 : jc_rows 243 0 k_R_order = true := by decide +kernel
set_option maxRecDepth 100000 in
theorem jc_m244 : jc_rows 244 0 k_R_isOrder = true := by decide +kernel
set_option maxRecDepth 100000 in
theorem jc_m245 : jc_rows 245 0 k_R_nth = true := by decide +kernel
set_option maxRecDepth 100000 in
theorem jc_m246 : jc_rows 246 0 k_R_ten = true := by decide +kernel
set_option maxRecDepth 100000 in
theorem jc_m247 : jc_rows 247 0 k_R_keep = true := by decide +kernel
set_option maxRecDepth 100000 in
theorem jc_m248 : jc_rows 248 0 k_R_write = true := by decide +kernel
set_option maxRecDepth 100000 in
theorem jc_m249 : jc_rows 249 0 k_R_start = true := by decide +kernel
set_option maxRecDepth 100000 in
theorem jc_m250 : jc_rows 250 0 k_R_worth = true := by decide +kernel
set_option maxRecDepth 100000 in
theorem jc_m251 : jc_rows 251 0 k_R_undo = true := by decide +kernel
set_option maxRecDepth 100000 in
theorem jc_m252 : jc_rows 252 0 k_R_at = true := by decide +kernel
set_option maxRecDepth 100000 in
theorem jc_m253 : jc_rows 253 0 k_R_follows = true := by decide +kernel
set_option maxRecDepth 100000 in
theorem jc_m254 : jc_rows 254 0 k_R_followsOf = true := by decide +kernel
set_option maxRecDepth 100000 in
theorem jc_m255 : jc_rows 255 0 k_R_lawful = true := by decide +kernel
set_option maxRecDepth 100000 in
theorem jc_m256 : jc_rows 256 0 k_R_isLawful = true := by decide +kernel
set_option maxRecDepth 100000 in
theorem jc_m257 : jc_rows 257 0 k_R_doMeet = true := by decide +kernel
set_option maxRecDepth 100000 in
theorem jc_m258 : jc_rows 258 0 k_R_crowd = true := by decide +kernel
set_option maxRecDepth 100000 in
theorem jc_m259 : jc_rows 259 0 k_R_bandsAt = true := by decide +kernel
set_option maxRecDepth 100000 in
theorem jc_m260 : jc_rows 260 0 k_R_even = true := by decide +kernel
set_option maxRecDepth 100000 in
theorem jc_m261 : jc_rows 261 0 k_R_slips = true := by decide +kernel
set_option maxRecDepth 100000 in
theorem jc_m262 : jc_rows 262 0 k_R_well = true := by decide +kernel
set_option maxRecDepth 100000 in
theorem jc_m263 : jc_rows 263 0 k_R_sight = true := by decide +kernel
set_option maxRecDepth 100000 in
theorem jc_m264 : jc_rows 264 0 k_R_comes = true := by decide +kernel
set_option maxRecDepth 100000 in
theorem jc_m265 : jc_rows 265 0 k_R_comesAt = true := by decide +kernel
set_option maxRecDepth 100000 in
theorem jc_m266 : jc_rows 266 0 k_R_ahead = true := by decide +kernel
set_option maxRecDepth 100000 in
theorem jc_m267 : jc_rows 267 0 k_R_steps = true := by decide +kernel
set_option maxRecDepth 100000 in
theorem jc_m268 : jc_rows 268 0 k_R_home = true := by decide +kernel
set_option maxRecDepth 100000 in
theorem jc_m269 : jc_rows 269 0 k_R_homeOf = true := by decide +kernel
set_option maxRecDepth 100000 in
theorem jc_m270 : jc_rows 270 0 k_R_points = true := by decide +kernel
set_option maxRecDepth 100000 in
theorem jc_m271 : jc_rows 271 0 k_R_pointsOf = true := by decide +kernel
set_option maxRecDepth 100000 in
theorem jc_m272 : jc_rows 272 0 k_R_worthOf = true := by decide +kernel
set_option maxRecDepth 100000 in
theorem jc_m273 : jc_rows 273 0 k_R_workOut = true := by decide +kernel
set_option maxRecDepth 100000 in
theorem jc_m274 : jc_rows 274 0 k_R_worked = true := by decide +kernel
set_option maxRecDepth 100000 in
theorem jc_m275 : jc_rows 275 0 k_R_bounded = true := by decide +kernel
set_option maxRecDepth 100000 in
theorem jc_m276 : jc_rows 276 0 k_R_clashes = true := by decide +kernel
set_option maxRecDepth 100000 in
theorem jc_m277 : jc_rows 277 0 k_R_clashOf = true := by decide +kernel
set_option maxRecDepth 100000 in
theorem jc_m278 : jc_rows 278 0 k_R_starts = true := by decide +kernel
set_option maxRecDepth 100000 in
theorem jc_m279 : jc_rows 279 0 k_R_soonest = true := by decide +kernel
set_option maxRecDepth 100000 in
theorem jc_m280 : jc_rows 280 0 k_R_layOrders = true := by decide +kernel
set_option maxRecDepth 100000 in
theorem jc_m281 : jc_rows 281 0 k_R_build = true := by decide +kernel
set_option maxRecDepth 100000 in
theorem jc_m282 : jc_rows 282 0 k_R_doesClash = true := by decide +kernel
set_option maxRecDepth 100000 in
theorem jc_m283 : jc_rows 283 0 k_R_rich = true := by decide +kernel
set_option maxRecDepth 100000 in
theorem jc_m284 : jc_rows 284 0 k_R_meetsAny = true := by decide +kernel
set_option maxRecDepth 100000 in
theorem jc_m285 : jc_rows 285 0 k_R_find = true := by decide +kernel
set_option maxRecDepth 100000 in
theorem jc_m286 : jc_rows 286 0 k_R_fits = true := by decide +kernel
set_option maxRecDepth 100000 in
theorem jc_m287 : jc_rows 287 0 k_R_agrees = true := by decide +kernel
set_option maxRecDepth 100000 in
theorem jc_m288 : jc_rows 288 0 k_R_tables = true := by decide +kernel
set_option maxRecDepth 100000 in
theorem jc_m289 : jc_rows 289 0 k_R_tablesFrom = true := by decide +kernel
set_option maxRecDepth 100000 in
theorem jc_m290 : jc_rows 290 0 k_R_goesWith = true := by decide +kernel
set_option maxRecDepth 100000 in
theorem jc_m291 : jc_rows 291 0 k_R_wrong = true := by decide +kernel
set_option maxRecDepth 100000 in
theorem jc_m292 : jc_rows 292 0 k_R_helpers = true := by decide +kernel
set_option maxRecDepth 100000 in
theorem jc_m293 : jc_rows 293 0 k_R_hop = true := by decide +kernel
set_option maxRecDepth 100000 in
theorem jc_m294 : jc_rows 294 0 k_R_match = true := by decide +kernel
set_option maxRecDepth 100000 in
theorem jc_m295 : jc_rows 295 0 k_R_pieces = true := by decide +kernel
set_option maxRecDepth 100000 in
theorem jc_m296 : jc_rows 296 0 k_R_choose = true := by decide +kernel
set_option maxRecDepth 100000 in
theorem jc_m297 : jc_rows 297 0 k_R_drawn = true := by decide +kernel
set_option maxRecDepth 100000 in
theorem jc_m298 : jc_rows 298 0 k_R_image = true := by decide +kernel
set_option maxRecDepth 100000 in
theorem jc_m299 : jc_rows 299 0 k_R_back = true := by decide +kernel
set_option maxRecDepth 100000 in
theorem jc_m300 : jc_rows 300 0 k_R_again = true := by decide +kernel
set_option maxRecDepth 100000 in
theorem jc_m301 : jc_rows 301 0 k_R_count = true := by decide +kernel
