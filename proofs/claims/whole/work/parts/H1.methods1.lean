set_option maxRecDepth 20000 in
theorem v_TownText_init : mmChk tTb tFin 1 true false 0 prog_5_method_1_code p_TownText_init b_TownText_init = true := by decide +kernel
set_option maxRecDepth 20000 in
theorem v_Town_clear : mmChk tTb tFin 2 false false 0 prog_4_method_2_code p_Town_clear b_Town_clear = true := by decide +kernel
set_option maxRecDepth 20000 in
theorem v_c_feedNumber : mmChk tTb tFin 0 false false 0 prog_1_method_3_code p_c_feedNumber b_c_feedNumber = true := by decide +kernel
set_option maxRecDepth 20000 in
theorem v_TownText_skipBlanks : mmChk tTb tFin 1 false false 0 prog_5_method_38_code p_TownText_skipBlanks b_TownText_skipBlanks = true := by decide +kernel
set_option maxRecDepth 20000 in
theorem v_TownText_lettersEnd : mmChk tTb tFin 1 false false 1 prog_5_method_37_code p_TownText_lettersEnd b_TownText_lettersEnd = true := by decide +kernel
set_option maxRecDepth 20000 in
theorem v_TownText_packed : mmChk tTb tFin 1 false false 1 prog_5_method_36_code p_TownText_packed b_TownText_packed = true := by decide +kernel
set_option maxRecDepth 20000 in
theorem v_Town_placeOf : mmChk tTb tFin 2 false false 1 prog_4_method_9_code p_Town_placeOf b_Town_placeOf = true := by decide +kernel
set_option maxRecDepth 20000 in
theorem v_TownText_readLot : mmChk tTb tFin 1 false false 0 prog_5_method_10_code p_TownText_readLot b_TownText_readLot = true := by decide +kernel
set_option maxRecDepth 20000 in
theorem v_TownText_readInn : mmChk tTb tFin 1 false false 0 prog_5_method_11_code p_TownText_readInn b_TownText_readInn = true := by decide +kernel
set_option maxRecDepth 20000 in
theorem v_TownText_readGap : mmChk tTb tFin 1 false false 0 prog_5_method_13_code p_TownText_readGap b_TownText_readGap = true := by decide +kernel
set_option maxRecDepth 20000 in
theorem v_TownText_product : mmChk tTb tFin 1 false false 0 prog_5_method_21_code p_TownText_product b_TownText_product = true := by decide +kernel
set_option maxRecDepth 20000 in
theorem v_TownText_mayOpen : mmChk tTb tFin 1 false false 4 prog_5_method_24_code p_TownText_mayOpen b_TownText_mayOpen = true := by decide +kernel
set_option maxRecDepth 20000 in
theorem v_TownText_takeSign : mmChk tTb tFin 1 false false 0 prog_5_method_33_code p_TownText_takeSign b_TownText_takeSign = true := by decide +kernel
set_option maxRecDepth 20000 in
theorem v_TownText_isHere : mmChk tTb tFin 1 false false 4 prog_5_method_40_code p_TownText_isHere b_TownText_isHere = true := by decide +kernel
set_option maxRecDepth 20000 in
theorem v_TownText_both : mmChk tTb tFin 1 false false 0 prog_5_method_17_code p_TownText_both b_TownText_both = true := by decide +kernel
set_option maxRecDepth 20000 in
theorem v_TownText_close : mmChk tTb tFin 1 false false 0 prog_5_method_5_code p_TownText_close b_TownText_close = true := by decide +kernel
set_option maxRecDepth 20000 in
theorem v_TownText_handOver : mmChk tTb tFin 1 false false 3 prog_5_method_6_code p_TownText_handOver b_TownText_handOver = true := by decide +kernel
set_option maxRecDepth 20000 in
theorem v_Roofs_begin : mmChk tTb tFin 4 false false 0 prog_3_method_2_code p_Roofs_begin b_Roofs_begin = true := by decide +kernel
set_option maxRecDepth 20000 in
theorem v_Town_isOwner : mmChk tTb tFin 2 false false 4 prog_4_method_3_code p_Town_isOwner b_Town_isOwner = true := by decide +kernel
set_option maxRecDepth 20000 in
theorem v_c_lot : mmChk tTb tFin 0 false false 1 prog_1_method_9_code p_c_lot b_c_lot = true := by decide +kernel
set_option maxRecDepth 20000 in
theorem v_c_toll : mmChk tTb tFin 0 false false 1 prog_1_method_15_code p_c_toll b_c_toll = true := by decide +kernel
set_option maxRecDepth 20000 in
theorem v_Laws_setPlace : mmChk tTb tFin 3 false false 0 prog_2_method_6_code p_Laws_setPlace b_Laws_setPlace = true := by decide +kernel
set_option maxRecDepth 20000 in
theorem v_Laws_isJoint : mmChk tTb tFin 3 false false 4 prog_2_method_9_code p_Laws_isJoint b_Laws_isJoint = true := by decide +kernel
set_option maxRecDepth 20000 in
theorem v_Laws_joined : mmChk tTb tFin 3 false false 2 prog_2_method_11_code p_Laws_joined b_Laws_joined = true := by decide +kernel
set_option maxRecDepth 20000 in
theorem v_c_way : mmChk tTb tFin 0 false false 1 prog_1_method_17_code p_c_way b_c_way = true := by decide +kernel
set_option maxRecDepth 20000 in
theorem v_Walk_measureRest : mmChk tTb tFin 5 false false 0 prog_6_method_10_code p_Walk_measureRest b_Walk_measureRest = true := by decide +kernel
set_option maxRecDepth 20000 in
theorem v_c_countOrBits : mmChk tTb tFin 0 false false 1 prog_1_method_20_code p_c_countOrBits b_c_countOrBits = true := by decide +kernel
set_option maxRecDepth 20000 in
theorem v_c_keepForUndo : mmChk tTb tFin 0 false false 0 prog_1_method_31_code p_c_keepForUndo b_c_keepForUndo = true := by decide +kernel
set_option maxRecDepth 20000 in
theorem v_c_goFoundWay : mmChk tTb tFin 0 false false 1 prog_1_method_22_code p_c_goFoundWay b_c_goFoundWay = true := by decide +kernel
set_option maxRecDepth 20000 in
theorem v_c_letRain : mmChk tTb tFin 0 false false 0 prog_1_method_26_code p_c_letRain b_c_letRain = true := by decide +kernel
set_option maxRecDepth 20000 in
theorem v_c_burns : mmChk tTb tFin 0 false false 1 prog_1_method_34_code p_c_burns b_c_burns = true := by decide +kernel
set_option maxRecDepth 20000 in
theorem v_c_led : mmChk tTb tFin 0 false false 1 prog_1_method_33_code p_c_led b_c_led = true := by decide +kernel
set_option maxRecDepth 20000 in
theorem v_Walk_openIfLaid : mmChk tTb tFin 5 false false 1 prog_6_method_5_code p_Walk_openIfLaid b_Walk_openIfLaid = true := by decide +kernel
set_option maxRecDepth 20000 in
theorem v_c_breakers : mmChk tTb tFin 0 false false 1 prog_1_method_38_code p_c_breakers b_c_breakers = true := by decide +kernel
set_option maxRecDepth 20000 in
theorem v_c_image : mmChk tTb tFin 0 false false 1 prog_1_method_43_code p_c_image b_c_image = true := by decide +kernel
set_option maxRecDepth 20000 in
theorem v_m_feed : mmChk tTb tFin 6 false false 1 prog_8_method_3_code p_m_feed b_m_feed = true := by decide +kernel
set_option maxRecDepth 20000 in
theorem v_m_end : mmChk tTb tFin 6 false false 4 prog_8_method_4_code p_m_end b_m_end = true := by decide +kernel
set_option maxRecDepth 20000 in
theorem v_m_statementTold : mmChk tTb tFin 6 false false 0 prog_8_method_29_code p_m_statementTold b_m_statementTold = true := by decide +kernel
set_option maxRecDepth 20000 in
theorem v_m_newName : mmChk tTb tFin 6 false false 2 prog_8_method_19_code p_m_newName b_m_newName = true := by decide +kernel
set_option maxRecDepth 20000 in
theorem v_m_nameOf : mmChk tTb tFin 6 false false 1 prog_8_method_18_code p_m_nameOf b_m_nameOf = true := by decide +kernel
set_option maxRecDepth 20000 in
theorem v_m_lotTold : mmChk tTb tFin 6 false false 0 prog_8_method_22_code p_m_lotTold b_m_lotTold = true := by decide +kernel
set_option maxRecDepth 20000 in
theorem v_m_isDigit : mmChk tTb tFin 6 false false 4 prog_8_method_7_code p_m_isDigit b_m_isDigit = true := by decide +kernel
set_option maxRecDepth 20000 in
theorem v_m_isIn : mmChk tTb tFin 6 false false 4 prog_8_method_2_code p_m_isIn b_m_isIn = true := by decide +kernel
set_option maxRecDepth 20000 in
theorem v_m_storkTold : mmChk tTb tFin 6 false false 0 prog_8_method_24_code p_m_storkTold b_m_storkTold = true := by decide +kernel
set_option maxRecDepth 20000 in
theorem v_m_lawTold : mmChk tTb tFin 6 false false 0 prog_8_method_28_code p_m_lawTold b_m_lawTold = true := by decide +kernel
set_option maxRecDepth 20000 in
theorem v_m_sumsTold : mmChk tTb tFin 6 false false 0 prog_8_method_41_code p_m_sumsTold b_m_sumsTold = true := by decide +kernel
set_option maxRecDepth 20000 in
theorem v_m_opens : mmChk tTb tFin 6 false false 0 prog_8_method_33_code p_m_opens b_m_opens = true := by decide +kernel
set_option maxRecDepth 20000 in
theorem v_m_takesSign : mmChk tTb tFin 6 false false 4 prog_8_method_12_code p_m_takesSign b_m_takesSign = true := by decide +kernel
set_option maxRecDepth 20000 in
theorem v_m_goesOn : mmChk tTb tFin 6 false false 4 prog_8_method_40_code p_m_goesOn b_m_goesOn = true := by decide +kernel
set_option maxRecDepth 20000 in
theorem v_m_holes : mmChk tTb tFin 6 false false 1 prog_8_method_73_code p_m_holes b_m_holes = true := by decide +kernel
set_option maxRecDepth 20000 in
theorem v_m_isLot : mmChk tTb tFin 6 false false 4 prog_8_method_56_code p_m_isLot b_m_isLot = true := by decide +kernel
set_option maxRecDepth 20000 in
theorem v_m_ownerOf : mmChk tTb tFin 6 false false 1 prog_8_method_58_code p_m_ownerOf b_m_ownerOf = true := by decide +kernel
set_option maxRecDepth 20000 in
theorem v_m_heightOf : mmChk tTb tFin 6 false false 1 prog_8_method_59_code p_m_heightOf b_m_heightOf = true := by decide +kernel
set_option maxRecDepth 20000 in
theorem v_m_bedsOf : mmChk tTb tFin 6 false false 1 prog_8_method_60_code p_m_bedsOf b_m_bedsOf = true := by decide +kernel
set_option maxRecDepth 20000 in
theorem v_m_hasStork : mmChk tTb tFin 6 false false 4 prog_8_method_61_code p_m_hasStork b_m_hasStork = true := by decide +kernel
set_option maxRecDepth 20000 in
theorem v_m_placeOf : mmChk tTb tFin 6 false false 1 prog_8_method_64_code p_m_placeOf b_m_placeOf = true := by decide +kernel
set_option maxRecDepth 20000 in
theorem v_m_person : mmChk tTb tFin 6 false false 1 prog_8_method_81_code p_m_person b_m_person = true := by decide +kernel
set_option maxRecDepth 20000 in
theorem v_m_ledTo : mmChk tTb tFin 6 false false 1 prog_8_method_80_code p_m_ledTo b_m_ledTo = true := by decide +kernel
set_option maxRecDepth 20000 in
theorem v_m_puts : mmChk tTb tFin 6 false false 0 prog_8_method_50_code p_m_puts b_m_puts = true := by decide +kernel
set_option maxRecDepth 20000 in
theorem v_m_joins : mmChk tTb tFin 6 false false 0 prog_8_method_51_code p_m_joins b_m_joins = true := by decide +kernel
set_option maxRecDepth 20000 in
theorem v_m_finds : mmChk tTb tFin 6 false false 4 prog_8_method_69_code p_m_finds b_m_finds = true := by decide +kernel
set_option maxRecDepth 20000 in
theorem v_m_drawOf : mmChk tTb tFin 6 false false 1 prog_8_method_94_code p_m_drawOf b_m_drawOf = true := by decide +kernel
set_option maxRecDepth 20000 in
theorem v_m_patch : mmChk tTb tFin 6 false false 4 prog_8_method_96_code p_m_patch b_m_patch = true := by decide +kernel
set_option maxRecDepth 20000 in
theorem v_m_stopped : mmChk tTb tFin 6 false false 1 prog_8_method_103_code p_m_stopped b_m_stopped = true := by decide +kernel
set_option maxRecDepth 20000 in
theorem v_m_leaks : mmChk tTb tFin 6 false false 1 prog_8_method_110_code p_m_leaks b_m_leaks = true := by decide +kernel
set_option maxRecDepth 20000 in
theorem v_m_image : mmChk tTb tFin 6 false false 1 prog_8_method_113_code p_m_image b_m_image = true := by decide +kernel
