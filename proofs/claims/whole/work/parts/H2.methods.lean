/-! ===== mm: the methods ===== -/
set_option maxRecDepth 20000 in
theorem tM_ok : ∀ mi, mi < 263 → plainName (tY mi).cls = true ∧ tNm (tO mi).1 = (tY mi).cls ∧ ((tO mi).2 = true → (tY mi).name = "<init>") ∧ (tMp mi).1.foldr (fun t n => (bif Nat.beq t 2 then 2 else 1) + n) 0 ≤ tL mi ∧ (((tMp mi).2.1 = 0 ∧ tR mi = none) ∨ ((tMp mi).2.1 = 1 ∧ tR mi = some .int) ∨ ((tMp mi).2.1 = 2 ∧ tR mi = some .long) ∨ ((tMp mi).2.1 = 3 ∧ ((tR mi = some (.object "TileHeel$Town")) ∨ tR mi = some (.array .int))) ∨ ((tMp mi).2.1 = 4 ∧ tR mi = some .boolean)) ∧ tL mi ≤ 40 := by decide +kernel
set_option maxRecDepth 100000 in
theorem tM_v : ∀ mi, mi < 263 → mmChk tTb tFin (tO mi).1 (tO mi).2 false (tMp mi).2.1 (tB mi) (tP mi) (tBl mi) = true
  | 0, _ => v_c_init
  | 1, _ => v_TownText_init
  | 2, _ => v_Town_init
  | 3, _ => v_Laws_init
  | 4, _ => v_Town_clear
  | 5, _ => v_Laws_clear
  | 6, _ => v_TownText_packOwnWords
  | 7, _ => v_Roofs_init
  | 8, _ => v_Walk_init
  | 9, _ => v_c_feed
  | 10, _ => v_c_feedNumber
  | 11, _ => v_c_end
  | 12, _ => v_c_town
  | 13, _ => v_TownText_open
  | 14, _ => v_TownText_goesOn
  | 15, _ => v_TownText_skipBlanks
  | 16, _ => v_TownText_readStatement
  | 17, _ => v_TownText_wordHere
  | 18, _ => v_TownText_lettersEnd
  | 19, _ => v_TownText_sticks
  | 20, _ => v_TownText_packed
  | 21, _ => v_TownText_readOwner
  | 22, _ => v_TownText_beginOneOf
  | 23, _ => v_TownText_fail
  | 24, _ => v_TownText_passWord
  | 25, _ => v_TownText_newName
  | 26, _ => v_TownText_name
  | 27, _ => v_Town_knows
  | 28, _ => v_Town_ownerNamed
  | 29, _ => v_Town_placeOf
  | 30, _ => v_Town_lotNamed
  | 31, _ => v_TownText_refuseNameIf
  | 32, _ => v_Town_addOwner
  | 33, _ => v_TownText_readLot
  | 34, _ => v_TownText_takeWord
  | 35, _ => v_TownText_ownerByName
  | 36, _ => v_TownText_number
  | 37, _ => v_TownText_here
  | 38, _ => v_TownText_isDigit
  | 39, _ => v_Town_addLot
  | 40, _ => v_TownText_readInn
  | 41, _ => v_TownText_lotByName
  | 42, _ => v_Town_isLot
  | 43, _ => v_TownText_readStork
  | 44, _ => v_TownText_readGap
  | 45, _ => v_Town_wideOf
  | 46, _ => v_Town_addGap
  | 47, _ => v_TownText_readPerson
  | 48, _ => v_Town_nextPersonRow
  | 49, _ => v_Town_addPerson
  | 50, _ => v_TownText_readLaw
  | 51, _ => v_TownText_sum
  | 52, _ => v_TownText_product
  | 53, _ => v_TownText_part
  | 54, _ => v_Laws_put
  | 55, _ => v_TownText_mayOpen
  | 56, _ => v_TownText_takeSign
  | 57, _ => v_TownText_pair
  | 58, _ => v_TownText_isFactWord
  | 59, _ => v_TownText_isHere
  | 60, _ => v_TownText_test
  | 61, _ => v_TownText_both
  | 62, _ => v_TownText_fact
  | 63, _ => v_TownText_comparison
  | 64, _ => v_Laws_add
  | 65, _ => v_TownText_close
  | 66, _ => v_TownText_handOver
  | 67, _ => v_Roofs_begin
  | 68, _ => v_c_fault
  | 69, _ => v_c_has
  | 70, _ => v_Town_allLots
  | 71, _ => v_Roofs_tilesOf
  | 72, _ => v_Roofs_holes
  | 73, _ => v_jInteger_bitCount
  | 74, _ => v_c_letter
  | 75, _ => v_Town_isOwner
  | 76, _ => v_Town_isPerson
  | 77, _ => v_c_lot
  | 78, _ => v_c_guests
  | 79, _ => v_c_isFull
  | 80, _ => v_c_gap
  | 81, _ => v_c_person
  | 82, _ => v_Roofs_ledTo
  | 83, _ => v_c_purse
  | 84, _ => v_c_toll
  | 85, _ => v_Walk_tollAt
  | 86, _ => v_Laws_setPerson
  | 87, _ => v_Laws_setPlace
  | 88, _ => v_Laws_due
  | 89, _ => v_Laws_valueOf
  | 90, _ => v_Laws_isJoint
  | 91, _ => v_Laws_joined
  | 92, _ => v_Laws_single
  | 93, _ => v_c_step
  | 94, _ => v_Walk_look
  | 95, _ => v_Walk_hopsFrom
  | 96, _ => v_c_way
  | 97, _ => v_c_findsWay
  | 98, _ => v_Walk_seek
  | 99, _ => v_Walk_measureRest
  | 100, _ => v_Walk_restBy
  | 101, _ => v_Walk_nextFrom
  | 102, _ => v_c_leave
  | 103, _ => v_Town_lotsOf
  | 104, _ => v_Walk_arrives
  | 105, _ => v_Walk_reached
  | 106, _ => v_c_countOrBits
  | 107, _ => v_c_go
  | 108, _ => v_c_keepForUndo
  | 109, _ => v_Roofs_copyFrom
  | 110, _ => v_c_goFoundWay
  | 111, _ => v_c_breaksAt
  | 112, _ => v_Roofs_lead
  | 113, _ => v_Roofs_forgetOldestLed
  | 114, _ => v_Roofs_turnBack
  | 115, _ => v_c_night
  | 116, _ => v_c_draw
  | 117, _ => v_c_letRain
  | 118, _ => v_c_leaks
  | 119, _ => v_c_patch
  | 120, _ => v_c_snow
  | 121, _ => v_c_fire
  | 122, _ => v_c_burns
  | 123, _ => v_Town_besides
  | 124, _ => v_Roofs_takeAllOf
  | 125, _ => v_c_undo
  | 126, _ => v_c_seed
  | 127, _ => v_c_led
  | 128, _ => v_c_stopped
  | 129, _ => v_Town_storks
  | 130, _ => v_c_opened
  | 131, _ => v_Walk_openIfLaid
  | 132, _ => v_c_broke
  | 133, _ => v_c_breakers
  | 134, _ => v_Walk_comesTo
  | 135, _ => v_c_odds
  | 136, _ => v_c_worth
  | 137, _ => v_Walk_cut
  | 138, _ => v_c_reach
  | 139, _ => v_c_image
  | 140, _ => v_c_shoot
  | 141, _ => v_c_checkByte
  | 142, _ => v_c_octet
  | 143, _ => v_c_on
  | 144, _ => v_c_isImage
  | 145, _ => v_Town_goesBetween
  | 146, _ => v_Roofs_load
  | 147, _ => v_m_init
  | 148, _ => v_m_feed
  | 149, _ => v_m_end
  | 150, _ => v_m_town
  | 151, _ => v_m_look
  | 152, _ => v_m_statementTold
  | 153, _ => v_m_fail
  | 154, _ => v_m_takes
  | 155, _ => v_m_isHere
  | 156, _ => v_m_isLetter
  | 157, _ => v_m_ownerTold
  | 158, _ => v_m_isFull
  | 159, _ => v_m_newName
  | 160, _ => v_m_name
  | 161, _ => v_m_isOwnHere
  | 162, _ => v_m_nameOf
  | 163, _ => v_m_lotTold
  | 164, _ => v_m_asks
  | 165, _ => v_m_oneOf
  | 166, _ => v_m_number
  | 167, _ => v_m_isDigit
  | 168, _ => v_m_isIn
  | 169, _ => v_m_innTold
  | 170, _ => v_m_storkTold
  | 171, _ => v_m_gapTold
  | 172, _ => v_m_personTold
  | 173, _ => v_m_lawTold
  | 174, _ => v_m_clears
  | 175, _ => v_m_sumsTold
  | 176, _ => v_m_onePart
  | 177, _ => v_m_opens
  | 178, _ => v_m_asksSign
  | 179, _ => v_m_takesSign
  | 180, _ => v_m_code
  | 181, _ => v_m_goesOn
  | 182, _ => v_m_mark
  | 183, _ => v_m_isMark
  | 184, _ => v_m_dropsToMark
  | 185, _ => v_m_drops
  | 186, _ => v_m_isOn
  | 187, _ => v_m_test
  | 188, _ => v_m_fact
  | 189, _ => v_m_dropsNots
  | 190, _ => v_m_goesOnTest
  | 191, _ => v_m_hasSquare
  | 192, _ => v_m_stands
  | 193, _ => v_m_fault
  | 194, _ => v_m_has
  | 195, _ => v_m_ownerMany
  | 196, _ => v_m_lotMany
  | 197, _ => v_m_personMany
  | 198, _ => v_m_tilesAll
  | 199, _ => v_m_tilesOf
  | 200, _ => v_m_holes
  | 201, _ => v_m_bits
  | 202, _ => v_m_letter
  | 203, _ => v_m_lot
  | 204, _ => v_m_isLot
  | 205, _ => v_m_ownerOf
  | 206, _ => v_m_heightOf
  | 207, _ => v_m_bedsOf
  | 208, _ => v_m_hasStork
  | 209, _ => v_m_thereAt
  | 210, _ => v_m_placeOf
  | 211, _ => v_m_gap
  | 212, _ => v_m_person
  | 213, _ => v_m_isPerson
  | 214, _ => v_m_personOf
  | 215, _ => v_m_goalOf
  | 216, _ => v_m_ledTo
  | 217, _ => v_m_purse
  | 218, _ => v_m_toll
  | 219, _ => v_m_tollOf
  | 220, _ => v_m_told
  | 221, _ => v_m_puts
  | 222, _ => v_m_joins
  | 223, _ => v_m_clip
  | 224, _ => v_m_floor
  | 225, _ => v_m_step
  | 226, _ => v_m_isNear
  | 227, _ => v_m_way
  | 228, _ => v_m_hasWay
  | 229, _ => v_m_comes
  | 230, _ => v_m_finds
  | 231, _ => v_m_nextOf
  | 232, _ => v_m_leave
  | 233, _ => v_m_undo
  | 234, _ => v_m_go
  | 235, _ => v_m_keeps
  | 236, _ => v_m_walks
  | 237, _ => v_m_breaks
  | 238, _ => v_m_leads
  | 239, _ => v_m_seed
  | 240, _ => v_m_night
  | 241, _ => v_m_drawOf
  | 242, _ => v_m_patch
  | 243, _ => v_m_snow
  | 244, _ => v_m_burns
  | 245, _ => v_m_firesOn
  | 246, _ => v_m_fire
  | 247, _ => v_m_led
  | 248, _ => v_m_stopped
  | 249, _ => v_m_tilesBy
  | 250, _ => v_m_opened
  | 251, _ => v_m_broke
  | 252, _ => v_m_comesTo
  | 253, _ => v_m_worth
  | 254, _ => v_m_coinsAll
  | 255, _ => v_m_reach
  | 256, _ => v_m_leaks
  | 257, _ => v_m_image
  | 258, _ => v_m_writes
  | 259, _ => v_m_checked
  | 260, _ => v_m_octet
  | 261, _ => v_m_on
  | 262, _ => v_m_isTold
  | n + 263, h => absurd h (by omega)
theorem tM : mmFM tTb tFin tNm tMp tY tB tL tR tTW tBl tO tP := by
  intro mi
  by_cases h : mi < 263
  · right
    obtain ⟨h1, h2, h3, h4, h5, h6⟩ := tM_ok mi h
    refine ⟨tM_v mi h, h1, h2, h3, h4, ?_, tTW_in ⟨tK_code h, rfl⟩⟩
    rcases h5 with h5 | h5 | h5 | ⟨h5, h8⟩ | h5
    · exact Or.inl h5
    · exact Or.inr (Or.inl h5)
    · exact Or.inr (Or.inr (Or.inl h5))
    · refine Or.inr (Or.inr (Or.inr (Or.inl ⟨h5, ?_⟩)))
      rcases h8 with h8 | h8
      · exact ⟨_, h8, Or.inl ⟨_, rfl⟩⟩
      · exact ⟨_, h8, Or.inr ⟨_, rfl⟩⟩
    · exact Or.inr (Or.inr (Or.inr (Or.inr h5)))
  · left
    have : tBlL.length = 263 := by decide +kernel
    unfold tBl
    rw [List.getD_eq_getElem?_getD, List.getElem?_eq_none (by omega)]
    rfl
theorem tL_40 : ∀ mi, tL mi ≤ 40 := by
  intro mi
  by_cases h : mi < 263
  · exact (tM_ok mi h).2.2.2.2.2
  · have : tLL.length = 263 := by decide +kernel
    unfold tL
    rw [List.getD_eq_getElem?_getD, List.getElem?_eq_none (by omega)]
    exact Nat.zero_le _
