theorem kbipush_m2 : (Int8.ofInt (-2)).toInt32 = (-2 : Int32) := by decide
theorem kbipush_6 : (Int8.ofInt (6)).toInt32 = (6 : Int32) := by decide
theorem kbipush_7 : (Int8.ofInt (7)).toInt32 = (7 : Int32) := by decide
theorem kbipush_8 : (Int8.ofInt (8)).toInt32 = (8 : Int32) := by decide
theorem kbipush_9 : (Int8.ofInt (9)).toInt32 = (9 : Int32) := by decide
theorem kbipush_10 : (Int8.ofInt (10)).toInt32 = (10 : Int32) := by decide
theorem kbipush_11 : (Int8.ofInt (11)).toInt32 = (11 : Int32) := by decide
theorem kbipush_12 : (Int8.ofInt (12)).toInt32 = (12 : Int32) := by decide
theorem kbipush_16 : (Int8.ofInt (16)).toInt32 = (16 : Int32) := by decide
theorem kbipush_20 : (Int8.ofInt (20)).toInt32 = (20 : Int32) := by decide
theorem kbipush_24 : (Int8.ofInt (24)).toInt32 = (24 : Int32) := by decide
theorem kbipush_30 : (Int8.ofInt (30)).toInt32 = (30 : Int32) := by decide
theorem kbipush_32 : (Int8.ofInt (32)).toInt32 = (32 : Int32) := by decide
theorem kbipush_33 : (Int8.ofInt (33)).toInt32 = (33 : Int32) := by decide
theorem kbipush_40 : (Int8.ofInt (40)).toInt32 = (40 : Int32) := by decide
theorem kbipush_44 : (Int8.ofInt (44)).toInt32 = (44 : Int32) := by decide
theorem kbipush_48 : (Int8.ofInt (48)).toInt32 = (48 : Int32) := by decide
theorem kbipush_57 : (Int8.ofInt (57)).toInt32 = (57 : Int32) := by decide
theorem kbipush_59 : (Int8.ofInt (59)).toInt32 = (59 : Int32) := by decide
theorem kbipush_60 : (Int8.ofInt (60)).toInt32 = (60 : Int32) := by decide
theorem kbipush_63 : (Int8.ofInt (63)).toInt32 = (63 : Int32) := by decide
theorem kbipush_72 : (Int8.ofInt (72)).toInt32 = (72 : Int32) := by decide
theorem kbipush_96 : (Int8.ofInt (96)).toInt32 = (96 : Int32) := by decide
theorem kbipush_98 : (Int8.ofInt (98)).toInt32 = (98 : Int32) := by decide
theorem kbipush_99 : (Int8.ofInt (99)).toInt32 = (99 : Int32) := by decide
theorem kbipush_100 : (Int8.ofInt (100)).toInt32 = (100 : Int32) := by decide
theorem kbipush_102 : (Int8.ofInt (102)).toInt32 = (102 : Int32) := by decide
theorem kbipush_107 : (Int8.ofInt (107)).toInt32 = (107 : Int32) := by decide
theorem kbipush_115 : (Int8.ofInt (115)).toInt32 = (115 : Int32) := by decide
theorem kbipush_116 : (Int8.ofInt (116)).toInt32 = (116 : Int32) := by decide
theorem kbipush_117 : (Int8.ofInt (117)).toInt32 = (117 : Int32) := by decide
theorem kbipush_120 : (Int8.ofInt (120)).toInt32 = (120 : Int32) := by decide
theorem kiconst_m8 : Int32.ofInt (-8) = (-8 : Int32) := by decide
theorem kiconst_m1 : Int32.ofInt (-1) = (-1 : Int32) := by decide
theorem kiconst_0 : Int32.ofInt (0) = (0 : Int32) := by decide
theorem kiconst_1 : Int32.ofInt (1) = (1 : Int32) := by decide
theorem kiconst_2 : Int32.ofInt (2) = (2 : Int32) := by decide
theorem kiconst_3 : Int32.ofInt (3) = (3 : Int32) := by decide
theorem kiconst_4 : Int32.ofInt (4) = (4 : Int32) := by decide
theorem kiconst_5 : Int32.ofInt (5) = (5 : Int32) := by decide
theorem ksipush_144 : (Int16.ofInt (144)).toInt32 = (144 : Int32) := by decide
theorem ksipush_168 : (Int16.ofInt (168)).toInt32 = (168 : Int32) := by decide
theorem ksipush_169 : (Int16.ofInt (169)).toInt32 = (169 : Int32) := by decide
theorem ksipush_170 : (Int16.ofInt (170)).toInt32 = (170 : Int32) := by decide
theorem ksipush_171 : (Int16.ofInt (171)).toInt32 = (171 : Int32) := by decide
theorem ksipush_172 : (Int16.ofInt (172)).toInt32 = (172 : Int32) := by decide
theorem ksipush_173 : (Int16.ofInt (173)).toInt32 = (173 : Int32) := by decide
theorem ksipush_180 : (Int16.ofInt (180)).toInt32 = (180 : Int32) := by decide
theorem ksipush_240 : (Int16.ofInt (240)).toInt32 = (240 : Int32) := by decide
theorem ksipush_255 : (Int16.ofInt (255)).toInt32 = (255 : Int32) := by decide
theorem ksipush_300 : (Int16.ofInt (300)).toInt32 = (300 : Int32) := by decide
theorem ksipush_353 : (Int16.ofInt (353)).toInt32 = (353 : Int32) := by decide
theorem ksipush_999 : (Int16.ofInt (999)).toInt32 = (999 : Int32) := by decide
theorem ksipush_14120 : (Int16.ofInt (14120)).toInt32 = (14120 : Int32) := by decide
theorem kix_0 : ix (0 : Int32) = 0 := by decide
theorem kix_1 : ix (1 : Int32) = 1 := by decide
theorem kix_2 : ix (2 : Int32) = 2 := by decide
theorem kix_3 : ix (3 : Int32) = 3 := by decide
theorem kix_4 : ix (4 : Int32) = 4 := by decide
theorem kix_5 : ix (5 : Int32) = 5 := by decide
theorem kix_6 : ix (6 : Int32) = 6 := by decide
theorem kix_7 : ix (7 : Int32) = 7 := by decide
theorem kix_8 : ix (8 : Int32) = 8 := by decide
theorem kix_9 : ix (9 : Int32) = 9 := by decide
theorem kix_10 : ix (10 : Int32) = 10 := by decide
theorem kix_11 : ix (11 : Int32) = 11 := by decide
theorem kix_168 : ix (168 : Int32) = 168 := by decide
theorem kix_169 : ix (169 : Int32) = 169 := by decide
theorem kix_170 : ix (170 : Int32) = 170 := by decide
theorem kix_171 : ix (171 : Int32) = 171 := by decide
theorem kix_172 : ix (172 : Int32) = 172 := by decide
theorem kqin_0_8 : qin (0 : Int32) 8 = true := by decide
theorem kqin_1_8 : qin (1 : Int32) 8 = true := by decide
theorem kqin_2_8 : qin (2 : Int32) 8 = true := by decide
theorem kqin_3_8 : qin (3 : Int32) 8 = true := by decide
theorem kqin_4_8 : qin (4 : Int32) 8 = true := by decide
theorem kqin_5_8 : qin (5 : Int32) 8 = true := by decide
theorem kqin_6_8 : qin (6 : Int32) 8 = true := by decide
theorem kqin_7_8 : qin (7 : Int32) 8 = true := by decide
theorem kqin_8_12 : qin (8 : Int32) 12 = true := by decide
theorem kqin_9_12 : qin (9 : Int32) 12 = true := by decide
theorem kqin_10_12 : qin (10 : Int32) 12 = true := by decide
theorem kqin_11_12 : qin (11 : Int32) 12 = true := by decide
theorem kqin_168_353 : qin (168 : Int32) 353 = true := by decide
theorem kqin_169_353 : qin (169 : Int32) 353 = true := by decide
theorem kqin_170_172 : qin (170 : Int32) 172 = true := by decide
theorem kqin_170_353 : qin (170 : Int32) 353 = true := by decide
theorem kqin_171_353 : qin (171 : Int32) 353 = true := by decide
theorem kqin_172_353 : qin (172 : Int32) 353 = true := by decide
theorem kz_0 : narrow .boolean (.int 0) = .int 0 ∧ fits .boolean (.int 0) = true := by decide
theorem kzn_0 : vp_nar .boolean 0 = 0 := by decide
theorem kzr_0 : narrow .boolean (.int 0) = .int 0 := by decide
theorem kz_1 : narrow .boolean (.int 1) = .int 1 ∧ fits .boolean (.int 1) = true := by decide
theorem kzn_1 : vp_nar .boolean 1 = 1 := by decide
theorem kzr_1 : narrow .boolean (.int 1) = .int 1 := by decide
abbrev R0_signsIn : Room := { frames := 0, cells := 0, slots := 0, locals := 0 }
abbrev R0_add : Room := { frames := 0, cells := 0, slots := 0, locals := 0 }
abbrev R0_signAt : Room := { frames := 0, cells := 0, slots := 0, locals := 0 }
abbrev R1_clear : Room := { frames := 0, cells := 0, slots := 0, locals := 0 }
abbrev R1_add : Room := { frames := 0, cells := 0, slots := 0, locals := 0 }
abbrev R1_takeBack : Room := { frames := 1, cells := 0, slots := 0, locals := 21 }
abbrev R1_length : Room := { frames := 1, cells := 0, slots := 0, locals := 21 }
abbrev R1_numberAt : Room := { frames := 0, cells := 0, slots := 0, locals := 0 }
abbrev R1_become : Room := { frames := 1, cells := 0, slots := 0, locals := 26 }
abbrev R2_gather : Room := { frames := 0, cells := 0, slots := 0, locals := 0 }
abbrev R2_fileAt : Room := { frames := 0, cells := 0, slots := 0, locals := 0 }
abbrev R2_arrangeBest : Room := { frames := 3, cells := 0, slots := 0, locals := 75 }
abbrev R2_timeOf : Room := { frames := 2, cells := 0, slots := 0, locals := 49 }
abbrev R2_isAhead : Room := { frames := 1, cells := 0, slots := 0, locals := 23 }
abbrev R2_fillTable : Room := { frames := 2, cells := 0, slots := 0, locals := 45 }
abbrev R2_leastBehind : Room := { frames := 1, cells := 0, slots := 0, locals := 21 }
abbrev R3_clear : Room := { frames := 0, cells := 0, slots := 0, locals := 0 }
abbrev R3_keep : Room := { frames := 2, cells := 0, slots := 0, locals := 50 }
abbrev R3_giveBack : Room := { frames := 2, cells := 0, slots := 0, locals := 50 }
abbrev R4_clear : Room := { frames := 2, cells := 0, slots := 0, locals := 47 }
abbrev R4_setRules : Room := { frames := 1, cells := 0, slots := 0, locals := 26 }
abbrev R4_addTape : Room := { frames := 0, cells := 0, slots := 0, locals := 0 }
abbrev R4_addFile : Room := { frames := 0, cells := 0, slots := 0, locals := 0 }
abbrev R4_layOut : Room := { frames := 1, cells := 0, slots := 0, locals := 21 }
abbrev R4_become : Room := { frames := 2, cells := 0, slots := 0, locals := 44 }
abbrev R4_isTold : Room := { frames := 0, cells := 0, slots := 0, locals := 0 }
abbrev R4_isTape : Room := { frames := 0, cells := 0, slots := 0, locals := 0 }
abbrev R4_isPlace : Room := { frames := 1, cells := 0, slots := 0, locals := 20 }
abbrev R4_isBlock : Room := { frames := 0, cells := 0, slots := 0, locals := 0 }
abbrev R4_armTime : Room := { frames := 0, cells := 0, slots := 0, locals := 0 }
abbrev R4_seekTime : Room := { frames := 0, cells := 0, slots := 0, locals := 0 }
abbrev R5_readHall : Room := { frames := 7, cells := 0, slots := 0, locals := 180 }
abbrev R5_readClause : Room := { frames := 6, cells := 0, slots := 0, locals := 157 }
abbrev R5_isOneTooMany : Room := { frames := 0, cells := 0, slots := 0, locals := 0 }
abbrev R5_readItems : Room := { frames := 5, cells := 0, slots := 0, locals := 131 }
abbrev R5_readScript : Room := { frames := 6, cells := 0, slots := 0, locals := 156 }
abbrev R5_readStep : Room := { frames := 5, cells := 0, slots := 0, locals := 131 }
abbrev R5_readNumber : Room := { frames := 3, cells := 0, slots := 0, locals := 62 }
abbrev R5_readDigit : Room := { frames := 2, cells := 0, slots := 0, locals := 41 }
abbrev R5_readComma : Room := { frames := 2, cells := 0, slots := 0, locals := 41 }
abbrev R5_nextSign : Room := { frames := 1, cells := 0, slots := 0, locals := 21 }
abbrev R5_isDigit : Room := { frames := 0, cells := 0, slots := 0, locals := 0 }
abbrev R6_add : Room := { frames := 0, cells := 0, slots := 0, locals := 0 }
abbrev R6_become : Room := { frames := 1, cells := 0, slots := 0, locals := 26 }
abbrev R7_begin : Room := { frames := 2, cells := 0, slots := 0, locals := 44 }
abbrev R7_store : Room := { frames := 1, cells := 0, slots := 0, locals := 26 }
abbrev R7_load : Room := { frames := 1, cells := 0, slots := 0, locals := 26 }
abbrev R7_refusal : Room := { frames := 4, cells := 0, slots := 0, locals := 91 }
abbrev R7_askingRefusal : Room := { frames := 2, cells := 0, slots := 0, locals := 42 }
abbrev R7_writingRefusal : Room := { frames := 1, cells := 0, slots := 0, locals := 22 }
abbrev R7_copyingRefusal : Room := { frames := 1, cells := 0, slots := 0, locals := 23 }
abbrev R7_hallRefusal : Room := { frames := 3, cells := 0, slots := 0, locals := 69 }
abbrev R7_canRescue : Room := { frames := 2, cells := 0, slots := 0, locals := 47 }
abbrev R7_carryOut : Room := { frames := 5, cells := 0, slots := 0, locals := 122 }
abbrev R7_askFor : Room := { frames := 0, cells := 0, slots := 0, locals := 0 }
abbrev R7_serveNext : Room := { frames := 4, cells := 0, slots := 0, locals := 99 }
abbrev R7_nextServed : Room := { frames := 1, cells := 0, slots := 0, locals := 23 }
abbrev R7_writeNew : Room := { frames := 3, cells := 0, slots := 0, locals := 69 }
abbrev R7_dropFile : Room := { frames := 0, cells := 0, slots := 0, locals := 0 }
abbrev R7_bringIn : Room := { frames := 2, cells := 0, slots := 0, locals := 46 }
abbrev R7_putAway : Room := { frames := 1, cells := 0, slots := 0, locals := 23 }
abbrev R7_readRow : Room := { frames := 2, cells := 0, slots := 0, locals := 46 }
abbrev R7_writeRow : Room := { frames := 1, cells := 0, slots := 0, locals := 23 }
abbrev R7_copyTo : Room := { frames := 3, cells := 0, slots := 0, locals := 69 }
abbrev R7_loseCatalog : Room := { frames := 1, cells := 0, slots := 0, locals := 22 }
abbrev R7_readThrough : Room := { frames := 3, cells := 0, slots := 0, locals := 69 }
abbrev R7_waitFor : Room := { frames := 2, cells := 0, slots := 0, locals := 46 }
abbrev R7_rescueWeak : Room := { frames := 4, cells := 0, slots := 0, locals := 95 }
abbrev R7_addFile : Room := { frames := 1, cells := 0, slots := 0, locals := 22 }
abbrev R7_putBehind : Room := { frames := 0, cells := 0, slots := 0, locals := 0 }
abbrev R7_hasRoom : Room := { frames := 0, cells := 0, slots := 0, locals := 0 }
abbrev R7_isFile : Room := { frames := 0, cells := 0, slots := 0, locals := 0 }
abbrev R7_isThere : Room := { frames := 1, cells := 0, slots := 0, locals := 21 }
abbrev R7_placeOf : Room := { frames := 0, cells := 0, slots := 0, locals := 0 }
abbrev R7_tapeIn : Room := { frames := 0, cells := 0, slots := 0, locals := 0 }
abbrev R7_lowestEmptyDrive : Room := { frames := 1, cells := 0, slots := 0, locals := 22 }
abbrev R7_longestUnused : Room := { frames := 0, cells := 0, slots := 0, locals := 0 }
abbrev R7_firstFile : Room := { frames := 0, cells := 0, slots := 0, locals := 0 }
abbrev R7_filesOn : Room := { frames := 0, cells := 0, slots := 0, locals := 0 }
abbrev R7_blocksOn : Room := { frames := 0, cells := 0, slots := 0, locals := 0 }
abbrev R7_askedOn : Room := { frames := 0, cells := 0, slots := 0, locals := 0 }
abbrev R7_askedFiles : Room := { frames := 0, cells := 0, slots := 0, locals := 0 }
abbrev R7_filesThere : Room := { frames := 1, cells := 0, slots := 0, locals := 23 }
abbrev R7_knownFiles : Room := { frames := 0, cells := 0, slots := 0, locals := 0 }
abbrev R7_mendedBlocks : Room := { frames := 0, cells := 0, slots := 0, locals := 0 }
abbrev R7_roomiest : Room := { frames := 0, cells := 0, slots := 0, locals := 0 }
abbrev R7_targetFor : Room := { frames := 1, cells := 0, slots := 0, locals := 23 }
abbrev R7_tapesInDrives : Room := { frames := 0, cells := 0, slots := 0, locals := 0 }
abbrev R7_weakTapes : Room := { frames := 1, cells := 0, slots := 0, locals := 23 }
abbrev R7_emptyTapes : Room := { frames := 0, cells := 0, slots := 0, locals := 0 }
abbrev R7_idleAt : Room := { frames := 0, cells := 0, slots := 0, locals := 0 }
abbrev R8_feed : Room := { frames := 1, cells := 0, slots := 0, locals := 23 }
abbrev R8_end : Room := { frames := 0, cells := 0, slots := 0, locals := 0 }
abbrev R8_fault : Room := { frames := 8, cells := 0, slots := 0, locals := 203 }
abbrev R8_text : Room := { frames := 8, cells := 0, slots := 0, locals := 203 }
abbrev R8_openHall : Room := { frames := 3, cells := 0, slots := 0, locals := 65 }
abbrev R8_keepScript : Room := { frames := 2, cells := 0, slots := 0, locals := 47 }
abbrev R8_rule : Room := { frames := 1, cells := 0, slots := 0, locals := 20 }
abbrev R8_file : Room := { frames := 1, cells := 0, slots := 0, locals := 21 }
abbrev R8_drive : Room := { frames := 1, cells := 0, slots := 0, locals := 22 }
abbrev R8_labelled : Room := { frames := 0, cells := 0, slots := 0, locals := 0 }
abbrev R8_way : Room := { frames := 2, cells := 0, slots := 0, locals := 41 }
abbrev R8_seek : Room := { frames := 1, cells := 0, slots := 0, locals := 23 }
abbrev R8_path : Room := { frames := 2, cells := 0, slots := 0, locals := 42 }
abbrev R8_ask : Room := { frames := 7, cells := 0, slots := 0, locals := 172 }
abbrev R8_serve : Room := { frames := 7, cells := 0, slots := 0, locals := 172 }
abbrev R8_write : Room := { frames := 7, cells := 0, slots := 0, locals := 172 }
abbrev R8_drop : Room := { frames := 7, cells := 0, slots := 0, locals := 172 }
abbrev R8_mount : Room := { frames := 7, cells := 0, slots := 0, locals := 172 }
abbrev R8_unmount : Room := { frames := 7, cells := 0, slots := 0, locals := 172 }
abbrev R8_copy : Room := { frames := 7, cells := 0, slots := 0, locals := 172 }
abbrev R8_lose : Room := { frames := 7, cells := 0, slots := 0, locals := 172 }
abbrev R8_scan : Room := { frames := 7, cells := 0, slots := 0, locals := 172 }
abbrev R8_pause : Room := { frames := 7, cells := 0, slots := 0, locals := 172 }
abbrev R8_rescue : Room := { frames := 7, cells := 0, slots := 0, locals := 172 }
abbrev R8_attempt : Room := { frames := 6, cells := 0, slots := 0, locals := 145 }
abbrev R8_numberToLog : Room := { frames := 0, cells := 0, slots := 0, locals := 0 }
abbrev R8_years : Room := { frames := 7, cells := 0, slots := 0, locals := 172 }
abbrev R8_drawBelow : Room := { frames := 0, cells := 0, slots := 0, locals := 0 }
abbrev R8_status : Room := { frames := 0, cells := 0, slots := 0, locals := 0 }
abbrev R8_undo : Room := { frames := 3, cells := 0, slots := 0, locals := 71 }
abbrev R8_log : Room := { frames := 2, cells := 0, slots := 0, locals := 41 }
abbrev R8_takes : Room := { frames := 3, cells := 0, slots := 0, locals := 75 }
abbrev R8_all : Room := { frames := 6, cells := 0, slots := 0, locals := 143 }
abbrev R8_served : Room := { frames := 6, cells := 0, slots := 0, locals := 143 }
abbrev R8_soon : Room := { frames := 6, cells := 0, slots := 0, locals := 143 }
abbrev R8_beginTrial : Room := { frames := 2, cells := 0, slots := 0, locals := 50 }
abbrev R8_tryServing : Room := { frames := 5, cells := 0, slots := 0, locals := 122 }
abbrev R8_target : Room := { frames := 2, cells := 0, slots := 0, locals := 47 }
abbrev R8_cheap : Room := { frames := 6, cells := 0, slots := 0, locals := 145 }
abbrev R8_idle : Room := { frames := 5, cells := 0, slots := 0, locals := 114 }
abbrev R8_shares : Room := { frames := 1, cells := 0, slots := 0, locals := 23 }
abbrev R8_step : Room := { frames := 1, cells := 0, slots := 0, locals := 21 }
abbrev R8_isScript : Room := { frames := 0, cells := 0, slots := 0, locals := 0 }
abbrev R8_run : Room := { frames := 7, cells := 0, slots := 0, locals := 167 }
abbrev R8_tryScript : Room := { frames := 6, cells := 0, slots := 0, locals := 145 }
abbrev R8_perform : Room := { frames := 7, cells := 0, slots := 0, locals := 172 }
abbrev R8_most : Room := { frames := 2, cells := 0, slots := 0, locals := 45 }
abbrev R8_image : Room := { frames := 2, cells := 0, slots := 0, locals := 50 }
abbrev R8_back : Room := { frames := 2, cells := 0, slots := 0, locals := 50 }
abbrev R8_count : Room := { frames := 2, cells := 0, slots := 0, locals := 41 }
abbrev R9_in : Room := { frames := 0, cells := 0, slots := 0, locals := 0 }
abbrev R9_has : Room := { frames := 0, cells := 0, slots := 0, locals := 0 }
abbrev R9_bits : Room := { frames := 0, cells := 0, slots := 0, locals := 0 }
abbrev R9_apart : Room := { frames := 0, cells := 0, slots := 0, locals := 0 }
abbrev R9_thrown : Room := { frames := 0, cells := 0, slots := 0, locals := 0 }
abbrev R9_byteOf : Room := { frames := 0, cells := 0, slots := 0, locals := 0 }
abbrev R9_feed : Room := { frames := 1, cells := 0, slots := 0, locals := 26 }
abbrev R9_end : Room := { frames := 1, cells := 0, slots := 0, locals := 22 }
abbrev R9_here : Room := { frames := 0, cells := 0, slots := 0, locals := 0 }
abbrev R9_ahead : Room := { frames := 1, cells := 0, slots := 0, locals := 20 }
abbrev R9_bad : Room := { frames := 0, cells := 0, slots := 0, locals := 0 }
abbrev R9_isDigit : Room := { frames := 0, cells := 0, slots := 0, locals := 0 }
abbrev R9_number : Room := { frames := 2, cells := 0, slots := 0, locals := 40 }
abbrev R9_ruleOf : Room := { frames := 0, cells := 0, slots := 0, locals := 0 }
abbrev R9_itemOf : Room := { frames := 1, cells := 0, slots := 0, locals := 20 }
abbrev R9_lowest : Room := { frames := 0, cells := 0, slots := 0, locals := 0 }
abbrev R9_highest : Room := { frames := 0, cells := 0, slots := 0, locals := 0 }
abbrev R9_usual : Room := { frames := 0, cells := 0, slots := 0, locals := 0 }
abbrev R9_items : Room := { frames := 3, cells := 0, slots := 0, locals := 64 }
abbrev R9_readHall : Room := { frames := 4, cells := 0, slots := 0, locals := 90 }
abbrev R9_sortOf : Room := { frames := 0, cells := 0, slots := 0, locals := 0 }
abbrev R9_digit : Room := { frames := 2, cells := 0, slots := 0, locals := 40 }
abbrev R9_comma : Room := { frames := 2, cells := 0, slots := 0, locals := 40 }
abbrev R9_readStep : Room := { frames := 3, cells := 0, slots := 0, locals := 64 }
abbrev R9_readScript : Room := { frames := 4, cells := 0, slots := 0, locals := 86 }
abbrev R9_fault : Room := { frames := 5, cells := 0, slots := 0, locals := 113 }
abbrev R9_isHall : Room := { frames := 0, cells := 0, slots := 0, locals := 0 }
abbrev R9_isTape : Room := { frames := 1, cells := 0, slots := 0, locals := 22 }
abbrev R9_isFile : Room := { frames := 1, cells := 0, slots := 0, locals := 22 }
abbrev R9_isHeld : Room := { frames := 2, cells := 0, slots := 0, locals := 43 }
abbrev R9_isOn : Room := { frames := 0, cells := 0, slots := 0, locals := 0 }
abbrev R9_blocksOfTape : Room := { frames := 0, cells := 0, slots := 0, locals := 0 }
abbrev R9_isDriven : Room := { frames := 0, cells := 0, slots := 0, locals := 0 }
abbrev R9_filesOn : Room := { frames := 1, cells := 0, slots := 0, locals := 22 }
abbrev R9_blocksOn : Room := { frames := 1, cells := 0, slots := 0, locals := 22 }
abbrev R9_askedOn : Room := { frames := 1, cells := 0, slots := 0, locals := 22 }
abbrev R9_askedOfAll : Room := { frames := 2, cells := 0, slots := 0, locals := 45 }
abbrev R9_newFile : Room := { frames := 0, cells := 0, slots := 0, locals := 0 }
abbrev R9_takeHall : Room := { frames := 2, cells := 0, slots := 0, locals := 43 }
abbrev R9_text : Room := { frames := 5, cells := 0, slots := 0, locals := 113 }
abbrev R9_wrapOf : Room := { frames := 0, cells := 0, slots := 0, locals := 0 }
abbrev R9_spotOf : Room := { frames := 1, cells := 0, slots := 0, locals := 21 }
abbrev R9_seekOf : Room := { frames := 2, cells := 0, slots := 0, locals := 43 }
abbrev R9_armTo : Room := { frames := 1, cells := 0, slots := 0, locals := 21 }
abbrev R9_unmounts : Room := { frames := 3, cells := 0, slots := 0, locals := 65 }
abbrev R9_inDrive : Room := { frames := 0, cells := 0, slots := 0, locals := 0 }
abbrev R9_emptyDrive : Room := { frames := 1, cells := 0, slots := 0, locals := 22 }
abbrev R9_oldest : Room := { frames := 1, cells := 0, slots := 0, locals := 21 }
abbrev R9_mounts : Room := { frames := 4, cells := 0, slots := 0, locals := 86 }
abbrev R9_brings : Room := { frames := 5, cells := 0, slots := 0, locals := 108 }
abbrev R9_runs : Room := { frames := 3, cells := 0, slots := 0, locals := 65 }
abbrev R9_reads : Room := { frames := 4, cells := 0, slots := 0, locals := 88 }
abbrev R9_isAhead : Room := { frames := 3, cells := 0, slots := 0, locals := 65 }
abbrev R9_laysOrder : Room := { frames := 4, cells := 0, slots := 0, locals := 91 }
abbrev R9_headOf : Room := { frames := 1, cells := 0, slots := 0, locals := 21 }
abbrev R9_bestOrder : Room := { frames := 5, cells := 0, slots := 0, locals := 121 }
abbrev R9_nextTape : Room := { frames := 2, cells := 0, slots := 0, locals := 45 }
abbrev R9_servesNow : Room := { frames := 6, cells := 0, slots := 0, locals := 144 }
abbrev R9_targetOf : Room := { frames := 0, cells := 0, slots := 0, locals := 0 }
abbrev R9_isWeak : Room := { frames := 2, cells := 0, slots := 0, locals := 45 }
abbrev R9_weakOnes : Room := { frames := 3, cells := 0, slots := 0, locals := 66 }
abbrev R9_layMoved : Room := { frames := 1, cells := 0, slots := 0, locals := 22 }
abbrev R9_copiesNow : Room := { frames := 6, cells := 0, slots := 0, locals := 129 }
abbrev R9_rescuesNow : Room := { frames := 7, cells := 0, slots := 0, locals := 154 }
abbrev R9_idleOnes : Room := { frames := 1, cells := 0, slots := 0, locals := 21 }
abbrev R9_pausesNow : Room := { frames := 4, cells := 0, slots := 0, locals := 86 }
abbrev R9_knownMany : Room := { frames := 0, cells := 0, slots := 0, locals := 0 }
abbrev R9_losesNow : Room := { frames := 1, cells := 0, slots := 0, locals := 22 }
abbrev R9_scansNow : Room := { frames := 6, cells := 0, slots := 0, locals := 129 }
abbrev R9_writesNow : Room := { frames := 6, cells := 0, slots := 0, locals := 129 }
abbrev R9_dropsNow : Room := { frames := 0, cells := 0, slots := 0, locals := 0 }
abbrev R9_whyAsk : Room := { frames := 3, cells := 0, slots := 0, locals := 67 }
abbrev R9_whyWrite : Room := { frames := 2, cells := 0, slots := 0, locals := 43 }
abbrev R9_whyCopy : Room := { frames := 2, cells := 0, slots := 0, locals := 45 }
abbrev R9_whyRescue : Room := { frames := 4, cells := 0, slots := 0, locals := 88 }
abbrev R9_whyNot : Room := { frames := 5, cells := 0, slots := 0, locals := 110 }
abbrev R9_keep : Room := { frames := 0, cells := 0, slots := 0, locals := 0 }
abbrev R9_note : Room := { frames := 0, cells := 0, slots := 0, locals := 0 }
abbrev R9_doNow : Room := { frames := 8, cells := 0, slots := 0, locals := 177 }
abbrev R9_act : Room := { frames := 9, cells := 0, slots := 0, locals := 201 }
abbrev R9_hand : Room := { frames := 10, cells := 0, slots := 0, locals := 226 }
abbrev R9_ask : Room := { frames := 11, cells := 0, slots := 0, locals := 250 }
abbrev R9_serve : Room := { frames := 11, cells := 0, slots := 0, locals := 250 }
abbrev R9_write : Room := { frames := 11, cells := 0, slots := 0, locals := 250 }
abbrev R9_drop : Room := { frames := 11, cells := 0, slots := 0, locals := 250 }
abbrev R9_mount : Room := { frames := 11, cells := 0, slots := 0, locals := 250 }
abbrev R9_unmount : Room := { frames := 11, cells := 0, slots := 0, locals := 250 }
abbrev R9_copy : Room := { frames := 11, cells := 0, slots := 0, locals := 250 }
abbrev R9_lose : Room := { frames := 11, cells := 0, slots := 0, locals := 250 }
abbrev R9_scan : Room := { frames := 11, cells := 0, slots := 0, locals := 250 }
abbrev R9_pause : Room := { frames := 11, cells := 0, slots := 0, locals := 250 }
abbrev R9_rescue : Room := { frames := 11, cells := 0, slots := 0, locals := 250 }
abbrev R9_draw : Room := { frames := 0, cells := 0, slots := 0, locals := 0 }
abbrev R9_tryOne : Room := { frames := 10, cells := 0, slots := 0, locals := 226 }
abbrev R9_drawYear : Room := { frames := 11, cells := 0, slots := 0, locals := 249 }
abbrev R9_years : Room := { frames := 12, cells := 0, slots := 0, locals := 271 }
abbrev R9_status : Room := { frames := 1, cells := 0, slots := 0, locals := 22 }
abbrev R9_undo : Room := { frames := 0, cells := 0, slots := 0, locals := 0 }
abbrev R9_log : Room := { frames := 1, cells := 0, slots := 0, locals := 22 }
abbrev R9_rule : Room := { frames := 1, cells := 0, slots := 0, locals := 22 }
abbrev R9_deadOf : Room := { frames := 2, cells := 0, slots := 0, locals := 45 }
abbrev R9_tape : Room := { frames := 3, cells := 0, slots := 0, locals := 66 }
abbrev R9_file : Room := { frames := 2, cells := 0, slots := 0, locals := 43 }
abbrev R9_drive : Room := { frames := 1, cells := 0, slots := 0, locals := 22 }
abbrev R9_labelled : Room := { frames := 0, cells := 0, slots := 0, locals := 0 }
abbrev R9_isPlace : Room := { frames := 1, cells := 0, slots := 0, locals := 22 }
abbrev R9_way : Room := { frames := 2, cells := 0, slots := 0, locals := 43 }
abbrev R9_isBlock : Room := { frames := 1, cells := 0, slots := 0, locals := 22 }
abbrev R9_seek : Room := { frames := 3, cells := 0, slots := 0, locals := 65 }
abbrev R9_path : Room := { frames := 3, cells := 0, slots := 0, locals := 64 }
abbrev R9_putAside : Room := { frames := 0, cells := 0, slots := 0, locals := 0 }
abbrev R9_bringBack : Room := { frames := 0, cells := 0, slots := 0, locals := 0 }
abbrev R9_takes : Room := { frames := 5, cells := 0, slots := 0, locals := 121 }
abbrev R9_seekTo : Room := { frames := 3, cells := 0, slots := 0, locals := 65 }
abbrev R9_lastBlock : Room := { frames := 0, cells := 0, slots := 0, locals := 0 }
abbrev R9_leastOf : Room := { frames := 5, cells := 0, slots := 0, locals := 121 }
abbrev R9_least : Room := { frames := 6, cells := 0, slots := 0, locals := 149 }
abbrev R9_layAll : Room := { frames := 7, cells := 0, slots := 0, locals := 167 }
abbrev R9_all : Room := { frames := 8, cells := 0, slots := 0, locals := 188 }
abbrev R9_served : Room := { frames := 8, cells := 0, slots := 0, locals := 188 }
abbrev R9_soon : Room := { frames := 8, cells := 0, slots := 0, locals := 188 }
abbrev R9_target : Room := { frames := 2, cells := 0, slots := 0, locals := 45 }
abbrev R9_cheap : Room := { frames := 7, cells := 0, slots := 0, locals := 151 }
abbrev R9_idle : Room := { frames := 2, cells := 0, slots := 0, locals := 44 }
abbrev R9_shares : Room := { frames := 2, cells := 0, slots := 0, locals := 45 }
abbrev R9_isScript : Room := { frames := 1, cells := 0, slots := 0, locals := 22 }
abbrev R9_step : Room := { frames := 2, cells := 0, slots := 0, locals := 43 }
abbrev R9_actOf : Room := { frames := 0, cells := 0, slots := 0, locals := 0 }
abbrev R9_goSteps : Room := { frames := 10, cells := 0, slots := 0, locals := 226 }
abbrev R9_run : Room := { frames := 11, cells := 0, slots := 0, locals := 251 }
abbrev R9_putRunAside : Room := { frames := 0, cells := 0, slots := 0, locals := 0 }
abbrev R9_perform : Room := { frames := 11, cells := 0, slots := 0, locals := 251 }
abbrev R9_driven : Room := { frames := 1, cells := 0, slots := 0, locals := 21 }
abbrev R9_heldMany : Room := { frames := 0, cells := 0, slots := 0, locals := 0 }
abbrev R9_mendedOfAll : Room := { frames := 0, cells := 0, slots := 0, locals := 0 }
abbrev R9_roomiest : Room := { frames := 0, cells := 0, slots := 0, locals := 0 }
abbrev R9_emptyOnes : Room := { frames := 0, cells := 0, slots := 0, locals := 0 }
abbrev R9_most : Room := { frames := 4, cells := 0, slots := 0, locals := 88 }
abbrev R9_image : Room := { frames := 1, cells := 0, slots := 0, locals := 20 }
abbrev R9_back : Room := { frames := 0, cells := 0, slots := 0, locals := 0 }
abbrev R9_count : Room := { frames := 0, cells := 0, slots := 0, locals := 0 }
abbrev R6_bitCount_0f7a4 : Room := { frames := 0, cells := 0, slots := 0, locals := 0 }
abbrev R4_setRules_st : Room := { frames := 1, cells := 0, slots := 0, locals := 26 }
abbrev R5_indexIn : Room := { frames := 4, cells := 0, slots := 0, locals := 110 }
theorem qlong_of {fs : List qF} {k : Nat} (hb : (List.range fs.length).all (fun j => match fs[j]? with
  | some (.inl (_ + 1)) => j == k
  | _ => true) = true) : ∀ j n, fs[j]? = some (.inl (n + 1)) → j = k := by
  intro j n hj
  have hlt := (List.getElem?_eq_some_iff.mp hj).1
  have h1 := List.all_eq_true.mp hb j (List.mem_range.mpr hlt)
  rw [hj] at h1
  simpa using h1
theorem qlong_RX8 : ∀ j n, ([.inr (some 1), .inr (some 3), .inr (some 6), .inr (some 14), .inr (some 22), .inr (some 39), .inl 0, .inr (some 43), .inr (some 51), .inr (some 63), .inr (some 75), .inr (some 76), .inl 0, .inr (some 77), .inr (some 79), .inr (some 81), .inr (some 82), .inl 0, .inr (some 84), .inl 1] : List qF)[j]? = some (.inl (n + 1)) → j = 19 := qlong_of (by decide +kernel)
theorem qlong_RX9 : ∀ j n, ([.inl 0, .inr (some 1), .inl 0, .inl 0, .inl 0, .inr (some 2), .inr (some 3), .inr (some 4), .inl 0, .inl 0, .inr (some 5), .inr (some 6), .inl 0, .inr (some 7), .inr (some 8), .inl 0, .inr (some 9), .inr (some 10), .inl 0, .inr (some 11), .inl 0, .inr (some 12), .inr (some 13), .inl 0, .inl 1, .inr (some 14), .inr (some 15), .inr (some 16), .inl 0, .inl 0, .inl 0, .inl 0, .inr (some 17), .inr (some 18), .inl 0] : List qF)[j]? = some (.inl (n + 1)) → j = 24 := qlong_of (by decide +kernel)
