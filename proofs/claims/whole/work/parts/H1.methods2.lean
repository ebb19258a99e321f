set_option maxRecDepth 20000 in
theorem v_Town_init : mmChk tTb tFin 2 true false 0 prog_4_method_1_code p_Town_init b_Town_init = true := by decide +kernel
set_option maxRecDepth 20000 in
theorem v_Roofs_init : mmChk tTb tFin 4 true false 0 prog_3_method_1_code p_Roofs_init b_Roofs_init = true := by decide +kernel
set_option maxRecDepth 20000 in
theorem v_c_feed : mmChk tTb tFin 0 false false 1 prog_1_method_2_code p_c_feed b_c_feed = true := by decide +kernel
set_option maxRecDepth 20000 in
theorem v_TownText_goesOn : mmChk tTb tFin 1 false false 4 prog_5_method_4_code p_TownText_goesOn b_TownText_goesOn = true := by decide +kernel
set_option maxRecDepth 20000 in
theorem v_TownText_readStatement : mmChk tTb tFin 1 false false 0 prog_5_method_7_code p_TownText_readStatement b_TownText_readStatement = true := by decide +kernel
set_option maxRecDepth 20000 in
theorem v_TownText_fail : mmChk tTb tFin 1 false false 0 prog_5_method_43_code p_TownText_fail b_TownText_fail = true := by decide +kernel
set_option maxRecDepth 20000 in
theorem v_TownText_name : mmChk tTb tFin 1 false false 1 prog_5_method_26_code p_TownText_name b_TownText_name = true := by decide +kernel
set_option maxRecDepth 20000 in
theorem v_TownText_here : mmChk tTb tFin 1 false false 1 prog_5_method_39_code p_TownText_here b_TownText_here = true := by decide +kernel
set_option maxRecDepth 20000 in
theorem v_TownText_lotByName : mmChk tTb tFin 1 false false 1 prog_5_method_30_code p_TownText_lotByName b_TownText_lotByName = true := by decide +kernel
set_option maxRecDepth 20000 in
theorem v_Town_isLot : mmChk tTb tFin 2 false false 4 prog_4_method_4_code p_Town_isLot b_Town_isLot = true := by decide +kernel
set_option maxRecDepth 20000 in
theorem v_TownText_readStork : mmChk tTb tFin 1 false false 0 prog_5_method_12_code p_TownText_readStork b_TownText_readStork = true := by decide +kernel
set_option maxRecDepth 20000 in
theorem v_Town_nextPersonRow : mmChk tTb tFin 2 false false 3 prog_4_method_19_code p_Town_nextPersonRow b_Town_nextPersonRow = true := by decide +kernel
set_option maxRecDepth 20000 in
theorem v_Town_addPerson : mmChk tTb tFin 2 false false 0 prog_4_method_20_code p_Town_addPerson b_Town_addPerson = true := by decide +kernel
set_option maxRecDepth 20000 in
theorem v_TownText_sum : mmChk tTb tFin 1 false false 0 prog_5_method_20_code p_TownText_sum b_TownText_sum = true := by decide +kernel
set_option maxRecDepth 20000 in
theorem v_Laws_put : mmChk tTb tFin 3 false false 0 prog_2_method_3_code p_Laws_put b_Laws_put = true := by decide +kernel
set_option maxRecDepth 20000 in
theorem v_TownText_pair : mmChk tTb tFin 1 false false 0 prog_5_method_23_code p_TownText_pair b_TownText_pair = true := by decide +kernel
set_option maxRecDepth 20000 in
theorem v_TownText_fact : mmChk tTb tFin 1 false false 0 prog_5_method_18_code p_TownText_fact b_TownText_fact = true := by decide +kernel
set_option maxRecDepth 20000 in
theorem v_Town_allLots : mmChk tTb tFin 2 false false 1 prog_4_method_10_code p_Town_allLots b_Town_allLots = true := by decide +kernel
set_option maxRecDepth 20000 in
theorem v_Roofs_tilesOf : mmChk tTb tFin 4 false false 1 prog_3_method_10_code p_Roofs_tilesOf b_Roofs_tilesOf = true := by decide +kernel
set_option maxRecDepth 20000 in
theorem v_jInteger_bitCount : mmChk tTb tFin 8 false false 1 prog_9_method_49_code p_jInteger_bitCount b_jInteger_bitCount = true := by decide +kernel
set_option maxRecDepth 20000 in
theorem v_c_isFull : mmChk tTb tFin 0 false false 4 prog_1_method_11_code p_c_isFull b_c_isFull = true := by decide +kernel
set_option maxRecDepth 20000 in
theorem v_c_person : mmChk tTb tFin 0 false false 1 prog_1_method_13_code p_c_person b_c_person = true := by decide +kernel
set_option maxRecDepth 20000 in
theorem v_Laws_valueOf : mmChk tTb tFin 3 false false 1 prog_2_method_8_code p_Laws_valueOf b_Laws_valueOf = true := by decide +kernel
set_option maxRecDepth 20000 in
theorem v_c_findsWay : mmChk tTb tFin 0 false false 4 prog_1_method_18_code p_c_findsWay b_c_findsWay = true := by decide +kernel
set_option maxRecDepth 20000 in
theorem v_Walk_seek : mmChk tTb tFin 5 false false 4 prog_6_method_9_code p_Walk_seek b_Walk_seek = true := by decide +kernel
set_option maxRecDepth 20000 in
theorem v_c_leave : mmChk tTb tFin 0 false false 1 prog_1_method_19_code p_c_leave b_c_leave = true := by decide +kernel
set_option maxRecDepth 20000 in
theorem v_c_breaksAt : mmChk tTb tFin 0 false false 4 prog_1_method_23_code p_c_breaksAt b_c_breaksAt = true := by decide +kernel
set_option maxRecDepth 20000 in
theorem v_Roofs_forgetOldestLed : mmChk tTb tFin 4 false false 0 prog_3_method_6_code p_Roofs_forgetOldestLed b_Roofs_forgetOldestLed = true := by decide +kernel
set_option maxRecDepth 20000 in
theorem v_c_draw : mmChk tTb tFin 0 false false 1 prog_1_method_25_code p_c_draw b_c_draw = true := by decide +kernel
set_option maxRecDepth 20000 in
theorem v_c_patch : mmChk tTb tFin 0 false false 4 prog_1_method_27_code p_c_patch b_c_patch = true := by decide +kernel
set_option maxRecDepth 20000 in
theorem v_c_undo : mmChk tTb tFin 0 false false 4 prog_1_method_30_code p_c_undo b_c_undo = true := by decide +kernel
set_option maxRecDepth 20000 in
theorem v_c_opened : mmChk tTb tFin 0 false false 1 prog_1_method_36_code p_c_opened b_c_opened = true := by decide +kernel
set_option maxRecDepth 20000 in
theorem v_c_worth : mmChk tTb tFin 0 false false 1 prog_1_method_40_code p_c_worth b_c_worth = true := by decide +kernel
set_option maxRecDepth 20000 in
theorem v_c_isImage : mmChk tTb tFin 0 false false 4 prog_1_method_48_code p_c_isImage b_c_isImage = true := by decide +kernel
set_option maxRecDepth 20000 in
theorem v_m_town : mmChk tTb tFin 6 false false 1 prog_8_method_30_code p_m_town b_m_town = true := by decide +kernel
set_option maxRecDepth 20000 in
theorem v_m_isHere : mmChk tTb tFin 6 false false 4 prog_8_method_9_code p_m_isHere b_m_isHere = true := by decide +kernel
set_option maxRecDepth 20000 in
theorem v_m_name : mmChk tTb tFin 6 false false 2 prog_8_method_16_code p_m_name b_m_name = true := by decide +kernel
set_option maxRecDepth 20000 in
theorem v_m_asks : mmChk tTb tFin 6 false false 0 prog_8_method_11_code p_m_asks b_m_asks = true := by decide +kernel
set_option maxRecDepth 20000 in
theorem v_m_oneOf : mmChk tTb tFin 6 false false 1 prog_8_method_20_code p_m_oneOf b_m_oneOf = true := by decide +kernel
set_option maxRecDepth 20000 in
theorem v_m_number : mmChk tTb tFin 6 false false 1 prog_8_method_14_code p_m_number b_m_number = true := by decide +kernel
set_option maxRecDepth 20000 in
theorem v_m_gapTold : mmChk tTb tFin 6 false false 0 prog_8_method_25_code p_m_gapTold b_m_gapTold = true := by decide +kernel
set_option maxRecDepth 20000 in
theorem v_m_clears : mmChk tTb tFin 6 false false 0 prog_8_method_27_code p_m_clears b_m_clears = true := by decide +kernel
set_option maxRecDepth 20000 in
theorem v_m_onePart : mmChk tTb tFin 6 false false 0 prog_8_method_39_code p_m_onePart b_m_onePart = true := by decide +kernel
set_option maxRecDepth 20000 in
theorem v_m_isOn : mmChk tTb tFin 6 false false 4 prog_8_method_34_code p_m_isOn b_m_isOn = true := by decide +kernel
set_option maxRecDepth 20000 in
theorem v_m_dropsNots : mmChk tTb tFin 6 false false 0 prog_8_method_44_code p_m_dropsNots b_m_dropsNots = true := by decide +kernel
set_option maxRecDepth 20000 in
theorem v_m_goesOnTest : mmChk tTb tFin 6 false false 4 prog_8_method_46_code p_m_goesOnTest b_m_goesOnTest = true := by decide +kernel
set_option maxRecDepth 20000 in
theorem v_m_ownerMany : mmChk tTb tFin 6 false false 1 prog_8_method_55_code p_m_ownerMany b_m_ownerMany = true := by decide +kernel
set_option maxRecDepth 20000 in
theorem v_m_lotMany : mmChk tTb tFin 6 false false 1 prog_8_method_53_code p_m_lotMany b_m_lotMany = true := by decide +kernel
set_option maxRecDepth 20000 in
theorem v_m_personMany : mmChk tTb tFin 6 false false 1 prog_8_method_54_code p_m_personMany b_m_personMany = true := by decide +kernel
set_option maxRecDepth 20000 in
theorem v_m_tilesAll : mmChk tTb tFin 6 false false 1 prog_8_method_72_code p_m_tilesAll b_m_tilesAll = true := by decide +kernel
set_option maxRecDepth 20000 in
theorem v_m_letter : mmChk tTb tFin 6 false false 1 prog_8_method_76_code p_m_letter b_m_letter = true := by decide +kernel
set_option maxRecDepth 20000 in
theorem v_m_gap : mmChk tTb tFin 6 false false 1 prog_8_method_79_code p_m_gap b_m_gap = true := by decide +kernel
set_option maxRecDepth 20000 in
theorem v_m_goalOf : mmChk tTb tFin 6 false false 1 prog_8_method_65_code p_m_goalOf b_m_goalOf = true := by decide +kernel
set_option maxRecDepth 20000 in
theorem v_m_toll : mmChk tTb tFin 6 false false 1 prog_8_method_83_code p_m_toll b_m_toll = true := by decide +kernel
set_option maxRecDepth 20000 in
theorem v_m_told : mmChk tTb tFin 6 false false 2 prog_8_method_52_code p_m_told b_m_told = true := by decide +kernel
set_option maxRecDepth 20000 in
theorem v_m_step : mmChk tTb tFin 6 false false 1 prog_8_method_84_code p_m_step b_m_step = true := by decide +kernel
set_option maxRecDepth 20000 in
theorem v_m_way : mmChk tTb tFin 6 false false 1 prog_8_method_85_code p_m_way b_m_way = true := by decide +kernel
set_option maxRecDepth 20000 in
theorem v_m_leave : mmChk tTb tFin 6 false false 1 prog_8_method_86_code p_m_leave b_m_leave = true := by decide +kernel
set_option maxRecDepth 20000 in
theorem v_m_breaks : mmChk tTb tFin 6 false false 4 prog_8_method_90_code p_m_breaks b_m_breaks = true := by decide +kernel
set_option maxRecDepth 20000 in
theorem v_m_leads : mmChk tTb tFin 6 false false 0 prog_8_method_89_code p_m_leads b_m_leads = true := by decide +kernel
set_option maxRecDepth 20000 in
theorem v_m_burns : mmChk tTb tFin 6 false false 1 prog_8_method_99_code p_m_burns b_m_burns = true := by decide +kernel
set_option maxRecDepth 20000 in
theorem v_m_fire : mmChk tTb tFin 6 false false 1 prog_8_method_100_code p_m_fire b_m_fire = true := by decide +kernel
set_option maxRecDepth 20000 in
theorem v_m_opened : mmChk tTb tFin 6 false false 1 prog_8_method_104_code p_m_opened b_m_opened = true := by decide +kernel
set_option maxRecDepth 20000 in
theorem v_m_reach : mmChk tTb tFin 6 false false 1 prog_8_method_109_code p_m_reach b_m_reach = true := by decide +kernel
