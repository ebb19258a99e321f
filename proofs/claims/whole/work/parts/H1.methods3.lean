set_option maxRecDepth 20000 in
theorem v_Laws_init : mmChk tTb tFin 3 true false 0 prog_2_method_1_code p_Laws_init b_Laws_init = true := by decide +kernel
set_option maxRecDepth 20000 in
theorem v_Laws_clear : mmChk tTb tFin 3 false false 0 prog_2_method_2_code p_Laws_clear b_Laws_clear = true := by decide +kernel
set_option maxRecDepth 20000 in
theorem v_TownText_packOwnWords : mmChk tTb tFin 1 false false 0 prog_5_method_2_code p_TownText_packOwnWords b_TownText_packOwnWords = true := by decide +kernel
set_option maxRecDepth 20000 in
theorem v_c_town : mmChk tTb tFin 0 false false 1 prog_1_method_5_code p_c_town b_c_town = true := by decide +kernel
set_option maxRecDepth 20000 in
theorem v_TownText_sticks : mmChk tTb tFin 1 false false 4 prog_5_method_41_code p_TownText_sticks b_TownText_sticks = true := by decide +kernel
set_option maxRecDepth 20000 in
theorem v_TownText_readOwner : mmChk tTb tFin 1 false false 0 prog_5_method_9_code p_TownText_readOwner b_TownText_readOwner = true := by decide +kernel
set_option maxRecDepth 20000 in
theorem v_TownText_passWord : mmChk tTb tFin 1 false false 0 prog_5_method_35_code p_TownText_passWord b_TownText_passWord = true := by decide +kernel
set_option maxRecDepth 20000 in
theorem v_Town_knows : mmChk tTb tFin 2 false false 4 prog_4_method_8_code p_Town_knows b_Town_knows = true := by decide +kernel
set_option maxRecDepth 20000 in
theorem v_Town_addOwner : mmChk tTb tFin 2 false false 0 prog_4_method_16_code p_Town_addOwner b_Town_addOwner = true := by decide +kernel
set_option maxRecDepth 20000 in
theorem v_TownText_number : mmChk tTb tFin 1 false false 1 prog_5_method_31_code p_TownText_number b_TownText_number = true := by decide +kernel
set_option maxRecDepth 20000 in
theorem v_Town_wideOf : mmChk tTb tFin 2 false false 1 prog_4_method_13_code p_Town_wideOf b_Town_wideOf = true := by decide +kernel
set_option maxRecDepth 20000 in
theorem v_TownText_readPerson : mmChk tTb tFin 1 false false 0 prog_5_method_14_code p_TownText_readPerson b_TownText_readPerson = true := by decide +kernel
set_option maxRecDepth 20000 in
theorem v_TownText_isFactWord : mmChk tTb tFin 1 false false 4 prog_5_method_25_code p_TownText_isFactWord b_TownText_isFactWord = true := by decide +kernel
set_option maxRecDepth 20000 in
theorem v_TownText_test : mmChk tTb tFin 1 false false 0 prog_5_method_16_code p_TownText_test b_TownText_test = true := by decide +kernel
set_option maxRecDepth 20000 in
theorem v_TownText_comparison : mmChk tTb tFin 1 false false 0 prog_5_method_19_code p_TownText_comparison b_TownText_comparison = true := by decide +kernel
set_option maxRecDepth 20000 in
theorem v_c_has : mmChk tTb tFin 0 false false 1 prog_1_method_7_code p_c_has b_c_has = true := by decide +kernel
set_option maxRecDepth 20000 in
theorem v_Town_isPerson : mmChk tTb tFin 2 false false 4 prog_4_method_5_code p_Town_isPerson b_Town_isPerson = true := by decide +kernel
set_option maxRecDepth 20000 in
theorem v_c_guests : mmChk tTb tFin 0 false false 1 prog_1_method_10_code p_c_guests b_c_guests = true := by decide +kernel
set_option maxRecDepth 20000 in
theorem v_c_gap : mmChk tTb tFin 0 false false 1 prog_1_method_12_code p_c_gap b_c_gap = true := by decide +kernel
set_option maxRecDepth 20000 in
theorem v_Roofs_ledTo : mmChk tTb tFin 4 false false 1 prog_3_method_7_code p_Roofs_ledTo b_Roofs_ledTo = true := by decide +kernel
set_option maxRecDepth 20000 in
theorem v_Laws_setPerson : mmChk tTb tFin 3 false false 0 prog_2_method_5_code p_Laws_setPerson b_Laws_setPerson = true := by decide +kernel
set_option maxRecDepth 20000 in
theorem v_Laws_due : mmChk tTb tFin 3 false false 1 prog_2_method_7_code p_Laws_due b_Laws_due = true := by decide +kernel
set_option maxRecDepth 20000 in
theorem v_Walk_look : mmChk tTb tFin 5 false false 0 prog_6_method_2_code p_Walk_look b_Walk_look = true := by decide +kernel
set_option maxRecDepth 20000 in
theorem v_Walk_restBy : mmChk tTb tFin 5 false false 1 prog_6_method_11_code p_Walk_restBy b_Walk_restBy = true := by decide +kernel
set_option maxRecDepth 20000 in
theorem v_Walk_arrives : mmChk tTb tFin 5 false false 4 prog_6_method_8_code p_Walk_arrives b_Walk_arrives = true := by decide +kernel
set_option maxRecDepth 20000 in
theorem v_Walk_reached : mmChk tTb tFin 5 false false 1 prog_6_method_7_code p_Walk_reached b_Walk_reached = true := by decide +kernel
set_option maxRecDepth 20000 in
theorem v_Roofs_lead : mmChk tTb tFin 4 false false 0 prog_3_method_5_code p_Roofs_lead b_Roofs_lead = true := by decide +kernel
set_option maxRecDepth 20000 in
theorem v_Roofs_turnBack : mmChk tTb tFin 4 false false 0 prog_3_method_8_code p_Roofs_turnBack b_Roofs_turnBack = true := by decide +kernel
set_option maxRecDepth 20000 in
theorem v_c_leaks : mmChk tTb tFin 0 false false 1 prog_1_method_42_code p_c_leaks b_c_leaks = true := by decide +kernel
set_option maxRecDepth 20000 in
theorem v_c_snow : mmChk tTb tFin 0 false false 1 prog_1_method_28_code p_c_snow b_c_snow = true := by decide +kernel
set_option maxRecDepth 20000 in
theorem v_Town_besides : mmChk tTb tFin 2 false false 1 prog_4_method_14_code p_Town_besides b_Town_besides = true := by decide +kernel
set_option maxRecDepth 20000 in
theorem v_Town_storks : mmChk tTb tFin 2 false false 1 prog_4_method_12_code p_Town_storks b_Town_storks = true := by decide +kernel
set_option maxRecDepth 20000 in
theorem v_c_broke : mmChk tTb tFin 0 false false 1 prog_1_method_37_code p_c_broke b_c_broke = true := by decide +kernel
set_option maxRecDepth 20000 in
theorem v_Walk_comesTo : mmChk tTb tFin 5 false false 4 prog_6_method_13_code p_Walk_comesTo b_Walk_comesTo = true := by decide +kernel
set_option maxRecDepth 20000 in
theorem v_c_odds : mmChk tTb tFin 0 false false 1 prog_1_method_39_code p_c_odds b_c_odds = true := by decide +kernel
set_option maxRecDepth 20000 in
theorem v_c_reach : mmChk tTb tFin 0 false false 1 prog_1_method_41_code p_c_reach b_c_reach = true := by decide +kernel
set_option maxRecDepth 20000 in
theorem v_c_checkByte : mmChk tTb tFin 0 false false 1 prog_1_method_45_code p_c_checkByte b_c_checkByte = true := by decide +kernel
set_option maxRecDepth 20000 in
theorem v_Town_goesBetween : mmChk tTb tFin 2 false false 4 prog_4_method_15_code p_Town_goesBetween b_Town_goesBetween = true := by decide +kernel
set_option maxRecDepth 20000 in
theorem v_m_init_0 : mmChkP tTb tFin 6 true false 0 prog_8_method_1_code p_m_init 0 b_m_init_0 = some 101 := by decide +kernel
set_option maxRecDepth 20000 in
theorem v_m_init_1 : mmChkP tTb tFin 6 true false 0 prog_8_method_1_code p_m_init 101 b_m_init_1 = some 195 := by decide +kernel
set_option maxRecDepth 20000 in
theorem v_m_init_2 : mmChkP tTb tFin 6 true false 0 prog_8_method_1_code p_m_init 195 b_m_init_2 = some 290 := by decide +kernel
set_option maxRecDepth 20000 in
theorem v_m_init_3 : mmChkP tTb tFin 6 true false 0 prog_8_method_1_code p_m_init 290 b_m_init_3 = some 384 := by decide +kernel
set_option maxRecDepth 20000 in
theorem v_m_init_4 : mmChkP tTb tFin 6 true false 0 prog_8_method_1_code p_m_init 384 b_m_init_4 = some 479 := by decide +kernel
set_option maxRecDepth 20000 in
theorem v_m_init_5 : mmChkP tTb tFin 6 true false 0 prog_8_method_1_code p_m_init 479 b_m_init_5 = some 575 := by decide +kernel
set_option maxRecDepth 20000 in
theorem v_m_init_6 : mmChkP tTb tFin 6 true false 0 prog_8_method_1_code p_m_init 575 b_m_init_6 = some 670 := by decide +kernel
set_option maxRecDepth 20000 in
theorem v_m_init_7 : mmChkP tTb tFin 6 true false 0 prog_8_method_1_code p_m_init 670 b_m_init_7 = some 766 := by decide +kernel
set_option maxRecDepth 20000 in
theorem v_m_init_8 : mmChkP tTb tFin 6 true false 0 prog_8_method_1_code p_m_init 766 b_m_init_8 = some 902 := by decide +kernel
set_option maxRecDepth 20000 in
theorem v_m_init_9 : mmChkB tTb tFin 6 true false 0 prog_8_method_1_code p_m_init 902 b_m_init_9 = true := by decide +kernel
theorem v_m_init : mmChk tTb tFin 6 true false 0 prog_8_method_1_code p_m_init b_m_init = true := mmChk_of (by decide) (by decide) (fun b hb => by
  have : b = 0 := by have : p_m_init.length = 1 := rfl; omega
  subst this
  exact mmChkP_app _ _ _ v_m_init_0 (mmChkP_app _ _ _ v_m_init_1 (mmChkP_app _ _ _ v_m_init_2 (mmChkP_app _ _ _ v_m_init_3 (mmChkP_app _ _ _ v_m_init_4 (mmChkP_app _ _ _ v_m_init_5 (mmChkP_app _ _ _ v_m_init_6 (mmChkP_app _ _ _ v_m_init_7 (mmChkP_app _ _ _ v_m_init_8 (v_m_init_9))))))))))
set_option maxRecDepth 20000 in
theorem v_m_dropsToMark : mmChk tTb tFin 6 false false 0 prog_8_method_38_code p_m_dropsToMark b_m_dropsToMark = true := by decide +kernel
set_option maxRecDepth 20000 in
theorem v_m_test : mmChk tTb tFin 6 false false 0 prog_8_method_45_code p_m_test b_m_test = true := by decide +kernel
set_option maxRecDepth 20000 in
theorem v_m_stands : mmChk tTb tFin 6 false false 0 prog_8_method_31_code p_m_stands b_m_stands = true := by decide +kernel
set_option maxRecDepth 20000 in
theorem v_m_clip : mmChk tTb tFin 6 false false 2 prog_8_method_48_code p_m_clip b_m_clip = true := by decide +kernel
set_option maxRecDepth 20000 in
theorem v_m_floor : mmChk tTb tFin 6 false false 2 prog_8_method_49_code p_m_floor b_m_floor = true := by decide +kernel
set_option maxRecDepth 20000 in
theorem v_m_isNear : mmChk tTb tFin 6 false false 4 prog_8_method_67_code p_m_isNear b_m_isNear = true := by decide +kernel
set_option maxRecDepth 20000 in
theorem v_m_hasWay : mmChk tTb tFin 6 false false 4 prog_8_method_70_code p_m_hasWay b_m_hasWay = true := by decide +kernel
set_option maxRecDepth 20000 in
theorem v_m_nextOf : mmChk tTb tFin 6 false false 1 prog_8_method_71_code p_m_nextOf b_m_nextOf = true := by decide +kernel
set_option maxRecDepth 20000 in
theorem v_m_undo : mmChk tTb tFin 6 false false 4 prog_8_method_88_code p_m_undo b_m_undo = true := by decide +kernel
set_option maxRecDepth 20000 in
theorem v_m_walks : mmChk tTb tFin 6 false false 1 prog_8_method_91_code p_m_walks b_m_walks = true := by decide +kernel
set_option maxRecDepth 20000 in
theorem v_m_snow : mmChk tTb tFin 6 false false 1 prog_8_method_97_code p_m_snow b_m_snow = true := by decide +kernel
set_option maxRecDepth 20000 in
theorem v_m_firesOn : mmChk tTb tFin 6 false false 1 prog_8_method_98_code p_m_firesOn b_m_firesOn = true := by decide +kernel
set_option maxRecDepth 20000 in
theorem v_m_broke : mmChk tTb tFin 6 false false 1 prog_8_method_106_code p_m_broke b_m_broke = true := by decide +kernel
set_option maxRecDepth 20000 in
theorem v_m_writes : mmChk tTb tFin 6 false false 0 prog_8_method_112_code p_m_writes b_m_writes = true := by decide +kernel
set_option maxRecDepth 20000 in
theorem v_m_octet : mmChk tTb tFin 6 false false 1 prog_8_method_114_code p_m_octet b_m_octet = true := by decide +kernel
set_option maxRecDepth 20000 in
theorem v_m_isTold : mmChk tTb tFin 6 false false 4 prog_8_method_115_code p_m_isTold b_m_isTold = true := by decide +kernel
