set_option maxRecDepth 20000 in
theorem v_c_init : mmChk tTb tFin 0 true false 0 prog_1_method_1_code p_c_init b_c_init = true := by decide +kernel
set_option maxRecDepth 20000 in
theorem v_Walk_init : mmChk tTb tFin 5 true false 0 prog_6_method_1_code p_Walk_init b_Walk_init = true := by decide +kernel
set_option maxRecDepth 20000 in
theorem v_c_end : mmChk tTb tFin 0 false false 4 prog_1_method_4_code p_c_end b_c_end = true := by decide +kernel
set_option maxRecDepth 20000 in
theorem v_TownText_open : mmChk tTb tFin 1 false false 0 prog_5_method_3_code p_TownText_open b_TownText_open = true := by decide +kernel
set_option maxRecDepth 20000 in
theorem v_TownText_wordHere : mmChk tTb tFin 1 false false 1 prog_5_method_34_code p_TownText_wordHere b_TownText_wordHere = true := by decide +kernel
set_option maxRecDepth 20000 in
theorem v_TownText_beginOneOf : mmChk tTb tFin 1 false false 0 prog_5_method_8_code p_TownText_beginOneOf b_TownText_beginOneOf = true := by decide +kernel
set_option maxRecDepth 20000 in
theorem v_TownText_newName : mmChk tTb tFin 1 false false 1 prog_5_method_28_code p_TownText_newName b_TownText_newName = true := by decide +kernel
set_option maxRecDepth 20000 in
theorem v_Town_ownerNamed : mmChk tTb tFin 2 false false 1 prog_4_method_6_code p_Town_ownerNamed b_Town_ownerNamed = true := by decide +kernel
set_option maxRecDepth 20000 in
theorem v_Town_lotNamed : mmChk tTb tFin 2 false false 1 prog_4_method_7_code p_Town_lotNamed b_Town_lotNamed = true := by decide +kernel
set_option maxRecDepth 20000 in
theorem v_TownText_refuseNameIf : mmChk tTb tFin 1 false false 0 prog_5_method_27_code p_TownText_refuseNameIf b_TownText_refuseNameIf = true := by decide +kernel
set_option maxRecDepth 20000 in
theorem v_TownText_takeWord : mmChk tTb tFin 1 false false 0 prog_5_method_32_code p_TownText_takeWord b_TownText_takeWord = true := by decide +kernel
set_option maxRecDepth 20000 in
theorem v_TownText_ownerByName : mmChk tTb tFin 1 false false 1 prog_5_method_29_code p_TownText_ownerByName b_TownText_ownerByName = true := by decide +kernel
set_option maxRecDepth 20000 in
theorem v_TownText_isDigit : mmChk tTb tFin 1 false false 4 prog_5_method_42_code p_TownText_isDigit b_TownText_isDigit = true := by decide +kernel
set_option maxRecDepth 20000 in
theorem v_Town_addLot : mmChk tTb tFin 2 false false 0 prog_4_method_17_code p_Town_addLot b_Town_addLot = true := by decide +kernel
set_option maxRecDepth 20000 in
theorem v_Town_addGap : mmChk tTb tFin 2 false false 0 prog_4_method_18_code p_Town_addGap b_Town_addGap = true := by decide +kernel
set_option maxRecDepth 20000 in
theorem v_TownText_readLaw : mmChk tTb tFin 1 false false 0 prog_5_method_15_code p_TownText_readLaw b_TownText_readLaw = true := by decide +kernel
set_option maxRecDepth 20000 in
theorem v_TownText_part : mmChk tTb tFin 1 false false 0 prog_5_method_22_code p_TownText_part b_TownText_part = true := by decide +kernel
set_option maxRecDepth 20000 in
theorem v_Laws_add : mmChk tTb tFin 3 false false 0 prog_2_method_4_code p_Laws_add b_Laws_add = true := by decide +kernel
set_option maxRecDepth 20000 in
theorem v_c_fault : mmChk tTb tFin 0 false false 1 prog_1_method_6_code p_c_fault b_c_fault = true := by decide +kernel
set_option maxRecDepth 20000 in
theorem v_Roofs_holes : mmChk tTb tFin 4 false false 1 prog_3_method_9_code p_Roofs_holes b_Roofs_holes = true := by decide +kernel
set_option maxRecDepth 20000 in
theorem v_c_letter : mmChk tTb tFin 0 false false 1 prog_1_method_8_code p_c_letter b_c_letter = true := by decide +kernel
set_option maxRecDepth 20000 in
theorem v_c_purse : mmChk tTb tFin 0 false false 1 prog_1_method_14_code p_c_purse b_c_purse = true := by decide +kernel
set_option maxRecDepth 20000 in
theorem v_Walk_tollAt : mmChk tTb tFin 5 false false 1 prog_6_method_3_code p_Walk_tollAt b_Walk_tollAt = true := by decide +kernel
set_option maxRecDepth 20000 in
theorem v_Laws_single : mmChk tTb tFin 3 false false 1 prog_2_method_10_code p_Laws_single b_Laws_single = true := by decide +kernel
set_option maxRecDepth 20000 in
theorem v_c_step : mmChk tTb tFin 0 false false 1 prog_1_method_16_code p_c_step b_c_step = true := by decide +kernel
set_option maxRecDepth 20000 in
theorem v_Walk_hopsFrom : mmChk tTb tFin 5 false false 1 prog_6_method_4_code p_Walk_hopsFrom b_Walk_hopsFrom = true := by decide +kernel
set_option maxRecDepth 20000 in
theorem v_Walk_nextFrom : mmChk tTb tFin 5 false false 1 prog_6_method_12_code p_Walk_nextFrom b_Walk_nextFrom = true := by decide +kernel
set_option maxRecDepth 20000 in
theorem v_Town_lotsOf : mmChk tTb tFin 2 false false 1 prog_4_method_11_code p_Town_lotsOf b_Town_lotsOf = true := by decide +kernel
set_option maxRecDepth 20000 in
theorem v_c_go : mmChk tTb tFin 0 false false 1 prog_1_method_21_code p_c_go b_c_go = true := by decide +kernel
set_option maxRecDepth 20000 in
theorem v_Roofs_copyFrom : mmChk tTb tFin 4 false false 0 prog_3_method_4_code p_Roofs_copyFrom b_Roofs_copyFrom = true := by decide +kernel
set_option maxRecDepth 20000 in
theorem v_c_night : mmChk tTb tFin 0 false false 1 prog_1_method_24_code p_c_night b_c_night = true := by decide +kernel
set_option maxRecDepth 20000 in
theorem v_c_fire : mmChk tTb tFin 0 false false 1 prog_1_method_29_code p_c_fire b_c_fire = true := by decide +kernel
set_option maxRecDepth 20000 in
theorem v_Roofs_takeAllOf : mmChk tTb tFin 4 false false 0 prog_3_method_11_code p_Roofs_takeAllOf b_Roofs_takeAllOf = true := by decide +kernel
set_option maxRecDepth 20000 in
theorem v_c_seed : mmChk tTb tFin 0 false false 4 prog_1_method_32_code p_c_seed b_c_seed = true := by decide +kernel
set_option maxRecDepth 20000 in
theorem v_c_stopped : mmChk tTb tFin 0 false false 1 prog_1_method_35_code p_c_stopped b_c_stopped = true := by decide +kernel
set_option maxRecDepth 20000 in
theorem v_Walk_cut : mmChk tTb tFin 5 false false 0 prog_6_method_6_code p_Walk_cut b_Walk_cut = true := by decide +kernel
set_option maxRecDepth 20000 in
theorem v_c_shoot : mmChk tTb tFin 0 false false 0 prog_1_method_44_code p_c_shoot b_c_shoot = true := by decide +kernel
set_option maxRecDepth 20000 in
theorem v_c_octet : mmChk tTb tFin 0 false false 1 prog_1_method_46_code p_c_octet b_c_octet = true := by decide +kernel
set_option maxRecDepth 20000 in
theorem v_c_on : mmChk tTb tFin 0 false false 4 prog_1_method_47_code p_c_on b_c_on = true := by decide +kernel
set_option maxRecDepth 20000 in
theorem v_Roofs_load : mmChk tTb tFin 4 false false 0 prog_3_method_3_code p_Roofs_load b_Roofs_load = true := by decide +kernel
set_option maxRecDepth 20000 in
theorem v_m_look : mmChk tTb tFin 6 false false 1 prog_8_method_8_code p_m_look b_m_look = true := by decide +kernel
set_option maxRecDepth 20000 in
theorem v_m_fail : mmChk tTb tFin 6 false false 0 prog_8_method_5_code p_m_fail b_m_fail = true := by decide +kernel
set_option maxRecDepth 20000 in
theorem v_m_takes : mmChk tTb tFin 6 false false 4 prog_8_method_10_code p_m_takes b_m_takes = true := by decide +kernel
set_option maxRecDepth 20000 in
theorem v_m_isLetter : mmChk tTb tFin 6 false false 4 prog_8_method_6_code p_m_isLetter b_m_isLetter = true := by decide +kernel
set_option maxRecDepth 20000 in
theorem v_m_ownerTold : mmChk tTb tFin 6 false false 0 prog_8_method_21_code p_m_ownerTold b_m_ownerTold = true := by decide +kernel
set_option maxRecDepth 20000 in
theorem v_m_isFull : mmChk tTb tFin 6 false false 4 prog_8_method_17_code p_m_isFull b_m_isFull = true := by decide +kernel
set_option maxRecDepth 20000 in
theorem v_m_isOwnHere : mmChk tTb tFin 6 false false 4 prog_8_method_15_code p_m_isOwnHere b_m_isOwnHere = true := by decide +kernel
set_option maxRecDepth 20000 in
theorem v_m_innTold : mmChk tTb tFin 6 false false 0 prog_8_method_23_code p_m_innTold b_m_innTold = true := by decide +kernel
set_option maxRecDepth 20000 in
theorem v_m_personTold : mmChk tTb tFin 6 false false 0 prog_8_method_26_code p_m_personTold b_m_personTold = true := by decide +kernel
set_option maxRecDepth 20000 in
theorem v_m_asksSign : mmChk tTb tFin 6 false false 0 prog_8_method_13_code p_m_asksSign b_m_asksSign = true := by decide +kernel
set_option maxRecDepth 20000 in
theorem v_m_code : mmChk tTb tFin 6 false false 0 prog_8_method_32_code p_m_code b_m_code = true := by decide +kernel
set_option maxRecDepth 20000 in
theorem v_m_mark : mmChk tTb tFin 6 false false 1 prog_8_method_37_code p_m_mark b_m_mark = true := by decide +kernel
set_option maxRecDepth 20000 in
theorem v_m_isMark : mmChk tTb tFin 6 false false 4 prog_8_method_36_code p_m_isMark b_m_isMark = true := by decide +kernel
set_option maxRecDepth 20000 in
theorem v_m_drops : mmChk tTb tFin 6 false false 0 prog_8_method_35_code p_m_drops b_m_drops = true := by decide +kernel
set_option maxRecDepth 20000 in
theorem v_m_fact : mmChk tTb tFin 6 false false 0 prog_8_method_42_code p_m_fact b_m_fact = true := by decide +kernel
set_option maxRecDepth 20000 in
theorem v_m_hasSquare : mmChk tTb tFin 6 false false 4 prog_8_method_43_code p_m_hasSquare b_m_hasSquare = true := by decide +kernel
set_option maxRecDepth 20000 in
theorem v_m_fault : mmChk tTb tFin 6 false false 1 prog_8_method_47_code p_m_fault b_m_fault = true := by decide +kernel
set_option maxRecDepth 20000 in
theorem v_m_has : mmChk tTb tFin 6 false false 1 prog_8_method_75_code p_m_has b_m_has = true := by decide +kernel
set_option maxRecDepth 20000 in
theorem v_m_tilesOf : mmChk tTb tFin 6 false false 1 prog_8_method_62_code p_m_tilesOf b_m_tilesOf = true := by decide +kernel
set_option maxRecDepth 20000 in
theorem v_m_bits : mmChk tTb tFin 6 false false 1 prog_8_method_74_code p_m_bits b_m_bits = true := by decide +kernel
set_option maxRecDepth 20000 in
theorem v_m_lot : mmChk tTb tFin 6 false false 1 prog_8_method_78_code p_m_lot b_m_lot = true := by decide +kernel
set_option maxRecDepth 20000 in
theorem v_m_thereAt : mmChk tTb tFin 6 false false 1 prog_8_method_77_code p_m_thereAt b_m_thereAt = true := by decide +kernel
set_option maxRecDepth 20000 in
theorem v_m_isPerson : mmChk tTb tFin 6 false false 4 prog_8_method_57_code p_m_isPerson b_m_isPerson = true := by decide +kernel
set_option maxRecDepth 20000 in
theorem v_m_personOf : mmChk tTb tFin 6 false false 1 prog_8_method_63_code p_m_personOf b_m_personOf = true := by decide +kernel
set_option maxRecDepth 20000 in
theorem v_m_purse : mmChk tTb tFin 6 false false 1 prog_8_method_82_code p_m_purse b_m_purse = true := by decide +kernel
set_option maxRecDepth 20000 in
theorem v_m_tollOf : mmChk tTb tFin 6 false false 1 prog_8_method_66_code p_m_tollOf b_m_tollOf = true := by decide +kernel
set_option maxRecDepth 20000 in
theorem v_m_comes : mmChk tTb tFin 6 false false 0 prog_8_method_68_code p_m_comes b_m_comes = true := by decide +kernel
set_option maxRecDepth 20000 in
theorem v_m_go : mmChk tTb tFin 6 false false 1 prog_8_method_92_code p_m_go b_m_go = true := by decide +kernel
set_option maxRecDepth 20000 in
theorem v_m_keeps : mmChk tTb tFin 6 false false 0 prog_8_method_87_code p_m_keeps b_m_keeps = true := by decide +kernel
set_option maxRecDepth 20000 in
theorem v_m_seed : mmChk tTb tFin 6 false false 4 prog_8_method_93_code p_m_seed b_m_seed = true := by decide +kernel
set_option maxRecDepth 20000 in
theorem v_m_night : mmChk tTb tFin 6 false false 1 prog_8_method_95_code p_m_night b_m_night = true := by decide +kernel
set_option maxRecDepth 20000 in
theorem v_m_led : mmChk tTb tFin 6 false false 1 prog_8_method_101_code p_m_led b_m_led = true := by decide +kernel
set_option maxRecDepth 20000 in
theorem v_m_tilesBy : mmChk tTb tFin 6 false false 1 prog_8_method_102_code p_m_tilesBy b_m_tilesBy = true := by decide +kernel
set_option maxRecDepth 20000 in
theorem v_m_comesTo : mmChk tTb tFin 6 false false 4 prog_8_method_105_code p_m_comesTo b_m_comesTo = true := by decide +kernel
set_option maxRecDepth 20000 in
theorem v_m_worth : mmChk tTb tFin 6 false false 1 prog_8_method_108_code p_m_worth b_m_worth = true := by decide +kernel
set_option maxRecDepth 20000 in
theorem v_m_coinsAll : mmChk tTb tFin 6 false false 1 prog_8_method_107_code p_m_coinsAll b_m_coinsAll = true := by decide +kernel
set_option maxRecDepth 20000 in
theorem v_m_checked : mmChk tTb tFin 6 false false 1 prog_8_method_111_code p_m_checked b_m_checked = true := by decide +kernel
set_option maxRecDepth 20000 in
theorem v_m_on : mmChk tTb tFin 6 false false 4 prog_8_method_116_code p_m_on b_m_on = true := by decide +kernel
