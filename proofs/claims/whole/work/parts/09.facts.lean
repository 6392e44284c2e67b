/-! WORDS of the tables, fields, methods: by program (wip/gen/prog.py) -/
abbrev u_X0_init : MU := (yX0_init, cX0_init, 2, none, none)
abbrev u_X0_compareValues : MU := (yX0_compareValues, cX0_compareValues, 5, (some .int), none)
abbrev u_X0_hashValue : MU := (yX0_hashValue, cX0_hashValue, 4, (some .int), none)
abbrev u_X0_compareParts : MU := (yX0_compareParts, cX0_compareParts, 5, (some .int), none)
abbrev u_X0_compareAny : MU := (yX0_compareAny, cX0_compareAny, 6, (some .int), none)
abbrev u_X0_compareRows : MU := (yX0_compareRows, cX0_compareRows, 6, (some .int), none)
abbrev u_X0_hashAny : MU := (yX0_hashAny, cX0_hashAny, 4, (some .int), none)
abbrev u_X0_hashRow : MU := (yX0_hashRow, cX0_hashRow, 4, (some .int), none)
abbrev u_X0_lesserFirst : MU := (yX0_lesserFirst, cX0_lesserFirst, 4, (some .int), none)
abbrev u_X0_nothingFirst : MU := (yX0_nothingFirst, cX0_nothingFirst, 2, (some .int), none)
abbrev u_X1_init : MU := (yX1_init, cX1_init, 2, none, none)
abbrev u_X1_takeTray : MU := (yX1_takeTray, cX1_takeTray, 5, (some .int), none)
abbrev u_X1_takeValue : MU := (yX1_takeValue, cX1_takeValue, 6, (some .int), none)
abbrev u_X1_countTwins : MU := (yX1_countTwins, cX1_countTwins, 5, (some .int), none)
abbrev u_X1_obeys : MU := (yX1_obeys, cX1_obeys, 3, (some .boolean), none)
abbrev u_X1_measure : MU := (yX1_measure, cX1_measure, 5, none, none)
abbrev u_X1_settle : MU := (yX1_settle, cX1_settle, 6, (some (.array .long)), none)
abbrev u_X1_rowOf : MU := (yX1_rowOf, cX1_rowOf, 3, (some (.object "RecordBridge$Row")), none)
abbrev u_X1_needsTwin : MU := (yX1_needsTwin, cX1_needsTwin, 2, (some .boolean), none)
abbrev u_X1_isFalling : MU := (yX1_isFalling, cX1_isFalling, 3, (some .boolean), none)
abbrev u_X1_exchange : MU := (yX1_exchange, cX1_exchange, 4, none, none)
abbrev u_X1_hasEveryPart : MU := (yX1_hasEveryPart, cX1_hasEveryPart, 3, (some .boolean), none)
abbrev u_X1_measureThing : MU := (yX1_measureThing, cX1_measureThing, 4, none, none)
abbrev u_X2_init : MU := (yX2_init, cX2_init, 3, none, none)
abbrev u_X2_init_ : MU := (yX2_init_, cX2_init_, 3, none, none)
abbrev u_X2_isFull : MU := (yX2_isFull, cX2_isFull, 1, (some .boolean), none)
abbrev u_X2_find : MU := (yX2_find, cX2_find, 3, (some .int), none)
abbrev u_X2_add : MU := (yX2_add, cX2_add, 3, none, none)
abbrev u_X2_drop : MU := (yX2_drop, cX2_drop, 3, none, none)
abbrev u_X2_changeLane : MU := (yX2_changeLane, cX2_changeLane, 3, none, none)
abbrev u_X2_reverse : MU := (yX2_reverse, cX2_reverse, 2, none, none)
abbrev u_X2_exchange : MU := (yX2_exchange, cX2_exchange, 6, none, none)
abbrev u_X3_init : MU := (yX3_init, cX3_init, 4, none, none)
abbrev u_X3_newest : MU := (yX3_newest, cX3_newest, 1, (some (.object "RecordBridge$Edition")), none)
abbrev u_X3_takesLane : MU := (yX3_takesLane, cX3_takesLane, 2, (some .boolean), none)
abbrev u_X3_hasRoomForEdition : MU := (yX3_hasRoomForEdition, cX3_hasRoomForEdition, 1, (some .boolean), none)
abbrev u_X3_addEdition : MU := (yX3_addEdition, cX3_addEdition, 1, (some (.object "RecordBridge$Edition")), none)
abbrev u_X4_isNumber : MU := (yX4_isNumber, cX4_isNumber, 1, (some .boolean), none)
abbrev u_X4_isLane : MU := (yX4_isLane, cX4_isLane, 1, (some .boolean), none)
abbrev u_X4_isWhole : MU := (yX4_isWhole, cX4_isWhole, 1, (some .boolean), none)
abbrev u_X4_isWidened : MU := (yX4_isWidened, cX4_isWidened, 2, (some .boolean), none)
abbrev u_X4_come : MU := (yX4_come, cX4_come, 3, (some .long), none)
abbrev u_X4_widen : MU := (yX4_widen, cX4_widen, 4, (some .long), none)
abbrev u_X4_tell : MU := (yX4_tell, cX4_tell, 3, (some .long), none)
abbrev u_X4_rank : MU := (yX4_rank, cX4_rank, 4, (some .long), none)
abbrev u_X4_hashNumber : MU := (yX4_hashNumber, cX4_hashNumber, 3, (some .int), none)
abbrev u_X4_floatBits : MU := (yX4_floatBits, cX4_floatBits, 3, (some .long), none)
abbrev u_X4_doubleBits : MU := (yX4_doubleBits, cX4_doubleBits, 4, (some .long), none)
abbrev u_X4_roundedBits : MU := (yX4_roundedBits, cX4_roundedBits, 9, (some .long), none)
abbrev u_X4_topBit : MU := (yX4_topBit, cX4_topBit, 3, (some .int), none)
abbrev u_X4_roundedOff : MU := (yX4_roundedOff, cX4_roundedOff, 10, (some .long), none)
abbrev u_X4_doubleOfFloat : MU := (yX4_doubleOfFloat, cX4_doubleOfFloat, 10, (some .long), none)
abbrev u_X5_init : MU := (yX5_init, cX5_init, 5, none, none)
abbrev u_X5_hasCell : MU := (yX5_hasCell, cX5_hasCell, 2, (some .boolean), none)
abbrev u_X5_hasRun : MU := (yX5_hasRun, cX5_hasRun, 3, (some .boolean), none)
abbrev u_X6_init : MU := (yX6_init, cX6_init, 2, none, none)
abbrev u_X6_writes : MU := (yX6_writes, cX6_writes, 3, (some .boolean), none)
abbrev u_X6_writeValue : MU := (yX6_writeValue, cX6_writeValue, 2, none, none)
abbrev u_X6_writeRecord : MU := (yX6_writeRecord, cX6_writeRecord, 3, none, none)
abbrev u_X6_writeAny : MU := (yX6_writeAny, cX6_writeAny, 4, none, none)
abbrev u_X6_writeRow : MU := (yX6_writeRow, cX6_writeRow, 3, none, none)
abbrev u_X7_init : MU := (yX7_init, cX7_init, 1, none, none)
abbrev u_X7_findRow : MU := (yX7_findRow, cX7_findRow, 3, (some (.object "RecordBridge$Row")), none)
abbrev u_X7_findValue : MU := (yX7_findValue, cX7_findValue, 3, (some (.object "RecordBridge$Value")), none)
abbrev u_X7_hasRoomForRows : MU := (yX7_hasRoomForRows, cX7_hasRoomForRows, 2, (some .boolean), none)
abbrev u_X7_hasRoomForValues : MU := (yX7_hasRoomForValues, cX7_hasRoomForValues, 2, (some .boolean), none)
abbrev u_X7_addRow : MU := (yX7_addRow, cX7_addRow, 6, (some (.object "RecordBridge$Row")), none)
abbrev u_X7_addTwin : MU := (yX7_addTwin, cX7_addTwin, 4, (some (.object "RecordBridge$Row")), none)
abbrev u_X7_addValue : MU := (yX7_addValue, cX7_addValue, 2, (some .int), none)
abbrev u_X8_init : MU := (yX8_init, cX8_init, 1, none, none)
abbrev u_X8_clear : MU := (yX8_clear, cX8_clear, 1, none, none)
abbrev u_X8_addSign : MU := (yX8_addSign, cX8_addSign, 2, none, none)
abbrev u_X8_addNumber : MU := (yX8_addNumber, cX8_addNumber, 7, none, none)
abbrev u_X9_init : MU := (yX9_init, cX9_init, 2, none, none)
abbrev u_X9_place : MU := (yX9_place, cX9_place, 5, none, none)
abbrev u_X9_empty : MU := (yX9_empty, cX9_empty, 2, none, none)
abbrev u_X9_emptyAll : MU := (yX9_emptyAll, cX9_emptyAll, 2, none, none)
abbrev u_X9_faultFor : MU := (yX9_faultFor, cX9_faultFor, 3, (some .int), none)
abbrev u_X9_widenedTo : MU := (yX9_widenedTo, cX9_widenedTo, 3, (some .long), none)
abbrev u_X10_init : MU := (yX10_init, cX10_init, 7, none, none)
abbrev u_X10_hasPart : MU := (yX10_hasPart, cX10_hasPart, 2, (some .boolean), none)
abbrev u_X10_tellPart : MU := (yX10_tellPart, cX10_tellPart, 2, (some .long), none)
abbrev u_X11_init : MU := (yX11_init, cX11_init, 1, none, none)
abbrev u_X11_row : MU := (yX11_row, cX11_row, 3, (some .int), none)
abbrev u_X11_put : MU := (yX11_put, cX11_put, 8, (some .int), none)
abbrev u_X11_get : MU := (yX11_get, cX11_get, 6, (some .long), none)
abbrev u_X11_lay : MU := (yX11_lay, cX11_lay, 6, (some .int), none)
abbrev u_X11_at : MU := (yX11_at, cX11_at, 5, (some .int), none)
abbrev u_X11_length : MU := (yX11_length, cX11_length, 4, (some .int), none)
abbrev u_X11_copy : MU := (yX11_copy, cX11_copy, 8, (some .int), none)
abbrev u_X11_twin : MU := (yX11_twin, cX11_twin, 3, (some .int), none)
abbrev u_X11_record : MU := (yX11_record, cX11_record, 2, (some .int), none)
abbrev u_X11_constants : MU := (yX11_constants, cX11_constants, 2, (some .int), none)
abbrev u_X11_more : MU := (yX11_more, cX11_more, 6, (some .int), none)
abbrev u_X11_edition : MU := (yX11_edition, cX11_edition, 8, (some .int), none)
abbrev u_X11_family : MU := (yX11_family, cX11_family, 4, (some .int), none)
abbrev u_X11_info : MU := (yX11_info, cX11_info, 4, (some .int), none)
abbrev u_X11_give : MU := (yX11_give, cX11_give, 5, (some .int), none)
abbrev u_X11_hand : MU := (yX11_hand, cX11_hand, 5, (some .int), none)
abbrev u_X11_make : MU := (yX11_make, cX11_make, 5, (some .int), none)
abbrev u_X11_named : MU := (yX11_named, cX11_named, 6, (some .int), none)
abbrev u_X11_part : MU := (yX11_part, cX11_part, 4, (some .long), none)
abbrev u_X11_accessor : MU := (yX11_accessor, cX11_accessor, 5, (some .long), none)
abbrev u_X11_of : MU := (yX11_of, cX11_of, 4, (some .int), none)
abbrev u_X11_array : MU := (yX11_array, cX11_array, 6, (some .int), none)
abbrev u_X11_match : MU := (yX11_match, cX11_match, 5, (some .int), none)
abbrev u_X11_equal : MU := (yX11_equal, cX11_equal, 5, (some .int), none)
abbrev u_X11_order : MU := (yX11_order, cX11_order, 5, (some .int), none)
abbrev u_X11_hash : MU := (yX11_hash, cX11_hash, 3, (some .long), none)
abbrev u_X11_weight : MU := (yX11_weight, cX11_weight, 3, (some .int), none)
abbrev u_X11_show : MU := (yX11_show, cX11_show, 3, (some .int), none)
abbrev u_X11_byteAt : MU := (yX11_byteAt, cX11_byteAt, 3, (some .int), none)
abbrev u_X11_carry : MU := (yX11_carry, cX11_carry, 5, (some .int), none)
abbrev u_X11_trace : MU := (yX11_trace, cX11_trace, 1, (some .int), none)
abbrev u_X11_fault : MU := (yX11_fault, cX11_fault, 1, (some .int), none)
abbrev u_X11_told : MU := (yX11_told, cX11_told, 2, (some .int), none)
abbrev u_X11_failed : MU := (yX11_failed, cX11_failed, 2, (some .int), none)
abbrev u_X11_lost : MU := (yX11_lost, cX11_lost, 2, (some .long), none)
abbrev u_X11_leaveTrace : MU := (yX11_leaveTrace, cX11_leaveTrace, 2, none, none)
abbrev u_X11_isWithin : MU := (yX11_isWithin, cX11_isWithin, 3, (some .boolean), none)
abbrev u_X11_isLabel : MU := (yX11_isLabel, cX11_isLabel, 1, (some .boolean), none)
abbrev u_X11_isPlace : MU := (yX11_isPlace, cX11_isPlace, 1, (some .boolean), none)
abbrev u_X11_oneIf : MU := (yX11_oneIf, cX11_oneIf, 1, (some .int), none)
abbrev u_X11_numberFault : MU := (yX11_numberFault, cX11_numberFault, 4, (some .int), none)
abbrev u_X11_thingFault : MU := (yX11_thingFault, cX11_thingFault, 2, (some .int), none)
abbrev u_X11_freeTwin : MU := (yX11_freeTwin, cX11_freeTwin, 2, (some .int), none)
abbrev u_X11_findKind : MU := (yX11_findKind, cX11_findKind, 2, (some (.object "RecordBridge$Kind")), none)
abbrev u_X11_newKind : MU := (yX11_newKind, cX11_newKind, 3, (some .int), none)
abbrev u_X11_isChange : MU := (yX11_isChange, cX11_isChange, 6, (some .boolean), none)
abbrev u_X11_hasRoomForChange : MU := (yX11_hasRoomForChange, cX11_hasRoomForChange, 3, (some .boolean), none)
abbrev u_X11_change : MU := (yX11_change, cX11_change, 5, none, none)
abbrev u_X11_start : MU := (yX11_start, cX11_start, 4, none, none)
abbrev u_X11_addConstant : MU := (yX11_addConstant, cX11_addConstant, 4, none, none)
abbrev u_X11_finish : MU := (yX11_finish, cX11_finish, 4, (some .int), none)
abbrev u_X11_weigh : MU := (yX11_weigh, cX11_weigh, 2, (some .int), none)
abbrev u_X11_weighRecord : MU := (yX11_weighRecord, cX11_weighRecord, 5, (some .int), none)
abbrev u_X11_weighLent : MU := (yX11_weighLent, cX11_weighLent, 1, (some .int), none)
abbrev u_X11_weighConstant : MU := (yX11_weighConstant, cX11_weighConstant, 2, (some .int), none)
abbrev u_X11_weighFirstBody : MU := (yX11_weighFirstBody, cX11_weighFirstBody, 2, (some .int), none)
abbrev u_X11_weighSecondBody : MU := (yX11_weighSecondBody, cX11_weighSecondBody, 2, (some .int), none)
abbrev u_X11_weighLastBody : MU := (yX11_weighLastBody, cX11_weighLastBody, 2, (some .int), none)
abbrev u_X12_init : MU := (yX12_init, cX12_init, 2, none, none)
abbrev u_X12_in : MU := (yX12_in, cX12_in, 3, (some .boolean), none)
abbrev u_X12_lost : MU := (yX12_lost, cX12_lost, 0, (some .long), none)
abbrev u_X12_fails : MU := (yX12_fails, cX12_fails, 2, (some .int), none)
abbrev u_X12_failsLong : MU := (yX12_failsLong, cX12_failsLong, 2, (some .long), none)
abbrev u_X12_traced : MU := (yX12_traced, cX12_traced, 2, none, none)
abbrev u_X12_comes : MU := (yX12_comes, cX12_comes, 3, (some .long), none)
abbrev u_X12_isWidened : MU := (yX12_isWidened, cX12_isWidened, 2, (some .boolean), none)
abbrev u_X12_widened : MU := (yX12_widened, cX12_widened, 4, (some .long), none)
abbrev u_X12_compared : MU := (yX12_compared, cX12_compared, 9, (some .int), none)
abbrev u_X12_isRow : MU := (yX12_isRow, cX12_isRow, 2, (some .boolean), none)
abbrev u_X12_newRow : MU := (yX12_newRow, cX12_newRow, 4, (some .int), none)
abbrev u_X12_twinOf : MU := (yX12_twinOf, cX12_twinOf, 4, (some .int), none)
abbrev u_X12_row : MU := (yX12_row, cX12_row, 3, (some .int), none)
abbrev u_X12_put : MU := (yX12_put, cX12_put, 6, (some .int), none)
abbrev u_X12_get : MU := (yX12_get, cX12_get, 4, (some .long), none)
abbrev u_X12_lay : MU := (yX12_lay, cX12_lay, 4, (some .int), none)
abbrev u_X12_at : MU := (yX12_at, cX12_at, 3, (some .int), none)
abbrev u_X12_length : MU := (yX12_length, cX12_length, 3, (some .int), none)
abbrev u_X12_isBeyond : MU := (yX12_isBeyond, cX12_isBeyond, 3, (some .boolean), none)
abbrev u_X12_copy : MU := (yX12_copy, cX12_copy, 7, (some .int), none)
abbrev u_X12_twin : MU := (yX12_twin, cX12_twin, 2, (some .int), none)
abbrev u_X12_isKind : MU := (yX12_isKind, cX12_isKind, 2, (some .boolean), none)
abbrev u_X12_newKind : MU := (yX12_newKind, cX12_newKind, 3, (some .int), none)
abbrev u_X12_record : MU := (yX12_record, cX12_record, 2, (some .int), none)
abbrev u_X12_constants : MU := (yX12_constants, cX12_constants, 2, (some .int), none)
abbrev u_X12_placeOf : MU := (yX12_placeOf, cX12_placeOf, 5, (some .int), none)
abbrev u_X12_newestOf : MU := (yX12_newestOf, cX12_newestOf, 2, (some .int), none)
abbrev u_X12_more : MU := (yX12_more, cX12_more, 5, (some .int), none)
abbrev u_X12_newConstant : MU := (yX12_newConstant, cX12_newConstant, 4, (some .int), none)
abbrev u_X12_starts : MU := (yX12_starts, cX12_starts, 4, (some .boolean), none)
abbrev u_X12_edition : MU := (yX12_edition, cX12_edition, 12, (some .int), none)
abbrev u_X12_family : MU := (yX12_family, cX12_family, 3, (some .int), none)
abbrev u_X12_info : MU := (yX12_info, cX12_info, 3, (some .int), none)
abbrev u_X12_give : MU := (yX12_give, cX12_give, 5, (some .int), none)
abbrev u_X12_hand : MU := (yX12_hand, cX12_hand, 4, (some .int), none)
abbrev u_X12_isValue : MU := (yX12_isValue, cX12_isValue, 2, (some .boolean), none)
abbrev u_X12_isConstant : MU := (yX12_isConstant, cX12_isConstant, 2, (some .boolean), none)
abbrev u_X12_editionOf : MU := (yX12_editionOf, cX12_editionOf, 2, (some .int), none)
abbrev u_X12_laneOf : MU := (yX12_laneOf, cX12_laneOf, 3, (some .int), none)
abbrev u_X12_partsOf : MU := (yX12_partsOf, cX12_partsOf, 2, (some .int), none)
abbrev u_X12_newValue : MU := (yX12_newValue, cX12_newValue, 2, (some .int), none)
abbrev u_X12_isTwinned : MU := (yX12_isTwinned, cX12_isTwinned, 3, (some .boolean), none)
abbrev u_X12_breaks : MU := (yX12_breaks, cX12_breaks, 6, (some .boolean), none)
abbrev u_X12_counts : MU := (yX12_counts, cX12_counts, 3, none, none)
abbrev u_X12_finish : MU := (yX12_finish, cX12_finish, 7, (some .int), none)
abbrev u_X12_make : MU := (yX12_make, cX12_make, 6, (some .int), none)
abbrev u_X12_named : MU := (yX12_named, cX12_named, 4, (some .int), none)
abbrev u_X12_toldPart : MU := (yX12_toldPart, cX12_toldPart, 3, (some .long), none)
abbrev u_X12_part : MU := (yX12_part, cX12_part, 3, (some .long), none)
abbrev u_X12_accessor : MU := (yX12_accessor, cX12_accessor, 4, (some .long), none)
abbrev u_X12_of : MU := (yX12_of, cX12_of, 3, (some .int), none)
abbrev u_X12_array : MU := (yX12_array, cX12_array, 5, (some .int), none)
abbrev u_X12_match : MU := (yX12_match, cX12_match, 5, (some .int), none)
abbrev u_X12_push : MU := (yX12_push, cX12_push, 3, none, none)
abbrev u_X12_sign : MU := (yX12_sign, cX12_sign, 2, (some .int), none)
abbrev u_X12_meet : MU := (yX12_meet, cX12_meet, 4, (some .int), none)
abbrev u_X12_numbers : MU := (yX12_numbers, cX12_numbers, 5, (some .int), none)
abbrev u_X12_step : MU := (yX12_step, cX12_step, 11, (some .int), none)
abbrev u_X12_ordered : MU := (yX12_ordered, cX12_ordered, 4, (some .int), none)
abbrev u_X12_equal : MU := (yX12_equal, cX12_equal, 3, (some .int), none)
abbrev u_X12_order : MU := (yX12_order, cX12_order, 3, (some .int), none)
abbrev u_X12_numberHash : MU := (yX12_numberHash, cX12_numberHash, 3, (some .int), none)
abbrev u_X12_constantHash : MU := (yX12_constantHash, cX12_constantHash, 2, (some .int), none)
abbrev u_X12_rowHash : MU := (yX12_rowHash, cX12_rowHash, 4, (some .int), none)
abbrev u_X12_adds : MU := (yX12_adds, cX12_adds, 3, none, none)
abbrev u_X12_addsThing : MU := (yX12_addsThing, cX12_addsThing, 2, none, none)
abbrev u_X12_hashPart : MU := (yX12_hashPart, cX12_hashPart, 6, none, none)
abbrev u_X12_hash : MU := (yX12_hash, cX12_hash, 4, (some .long), none)
abbrev u_X12_constantWeight : MU := (yX12_constantWeight, cX12_constantWeight, 4, (some .int), none)
abbrev u_X12_recordWeight : MU := (yX12_recordWeight, cX12_recordWeight, 2, (some .int), none)
abbrev u_X12_weight : MU := (yX12_weight, cX12_weight, 7, (some .int), none)
abbrev u_X12_says : MU := (yX12_says, cX12_says, 2, none, none)
abbrev u_X12_saysNumber : MU := (yX12_saysNumber, cX12_saysNumber, 7, none, none)
abbrev u_X12_saysCell : MU := (yX12_saysCell, cX12_saysCell, 4, none, none)
abbrev u_X12_saysThing : MU := (yX12_saysThing, cX12_saysThing, 2, none, none)
abbrev u_X12_saysRow : MU := (yX12_saysRow, cX12_saysRow, 3, none, none)
abbrev u_X12_saysNext : MU := (yX12_saysNext, cX12_saysNext, 7, none, none)
abbrev u_X12_show : MU := (yX12_show, cX12_show, 3, (some .int), none)
abbrev u_X12_byteAt : MU := (yX12_byteAt, cX12_byteAt, 2, (some .int), none)
abbrev u_X12_carry : MU := (yX12_carry, cX12_carry, 8, (some .int), none)
abbrev u_X12_trace : MU := (yX12_trace, cX12_trace, 1, (some .int), none)
abbrev u_X12_fault : MU := (yX12_fault, cX12_fault, 1, (some .int), none)
abbrev u_X12_told : MU := (yX12_told, cX12_told, 4, (some .int), none)
abbrev u_Jxe99ae_isNaN_b9ae7 : MU := (yJxe99ae_isNaN_b9ae7, cJxe99ae_isNaN_b9ae7, 2, (some .boolean), none)
abbrev u_Jxe99ae_doubleToLongBits_ccdee : MU := (yJxe99ae_doubleToLongBits_ccdee, cJxe99ae_doubleToLongBits_ccdee, 2, (some .long), none)
abbrev u_Jxf58ca_isNaN_12338 : MU := (yJxf58ca_isNaN_12338, cJxf58ca_isNaN_12338, 1, (some .boolean), none)
abbrev u_Jxf58ca_floatToIntBits_5c35a : MU := (yJxf58ca_floatToIntBits_5c35a, cJxf58ca_floatToIntBits_5c35a, 1, (some .int), none)
abbrev u_J6_bitCount_0f7a4 : MU := (yJ6_bitCount_0f7a4, cJ6_bitCount_0f7a4, 1, (some .int), none)
abbrev u_J9_max_7cf53 : MU := (yJ9_max_7cf53, cJ9_max_7cf53, 2, (some .int), none)
theorem c_1_1 : Jvm.Cond.initialized "RecordBridge" ∈ gTbl := tb1 1 rfl rfl
theorem c_1_2 : Jvm.Cond.initialized "RecordBridge$Store" ∈ gTbl := tb1 2 rfl rfl
theorem c_1_3 : Jvm.Cond.initialized "RecordBridge$Tray" ∈ gTbl := tb1 3 rfl rfl
theorem c_1_4 : Jvm.Cond.initialized "RecordBridge$Draft" ∈ gTbl := tb1 4 rfl rfl
theorem c_1_5 : Jvm.Cond.initialized "RecordBridge$Comparer" ∈ gTbl := tb1 5 rfl rfl
theorem c_1_6 : Jvm.Cond.initialized "RecordBridge$Scribe" ∈ gTbl := tb1 6 rfl rfl
theorem c_1_7 : Jvm.Cond.initialized "RecordBridge$Text" ∈ gTbl := tb1 7 rfl rfl
theorem c_1_8 : Jvm.Cond.initialized "RecordBridgeModel" ∈ gTbl := tb1 8 rfl rfl
theorem c_1_9 : Jvm.Cond.initialized "RecordBridge$Row" ∈ gTbl := tb1 9 rfl rfl
theorem c_1_10 : Jvm.Cond.initialized "RecordBridge$Lanes" ∈ gTbl := tb1 10 rfl rfl
theorem c_1_11 : Jvm.Cond.initialized "java/lang/Float" ∈ gTbl := tb1 11 rfl rfl
theorem c_1_12 : Jvm.Cond.initialized "java/lang/Double" ∈ gTbl := tb1 12 rfl rfl
theorem c_1_13 : Jvm.Cond.initialized "java/lang/System" ∈ gTbl := tb1 13 rfl rfl
theorem c_1_14 : Jvm.Cond.initialized "RecordBridge$Kind" ∈ gTbl := tb1 14 rfl rfl
theorem c_1_15 : Jvm.Cond.initialized "RecordBridge$Edition" ∈ gTbl := tb1 15 rfl rfl
theorem c_1_16 : Jvm.Cond.initialized "RecordBridge$Value" ∈ gTbl := tb1 16 rfl rfl
theorem c_1_17 : Jvm.Cond.initialized "java/lang/Math" ∈ gTbl := tb1 17 rfl rfl
theorem c_1_18 : Jvm.Cond.initialized "java/lang/Integer" ∈ gTbl := tb1 18 rfl rfl
theorem c_1_19 : Jvm.Cond.classLink "RecordBridgeLaw" (7 : Nat) "RecordBridge" ∈ gTbl := tb1 19 rfl rfl
theorem c_1_20 : Jvm.Cond.instantiable "RecordBridge" (14 : Nat) ∈ gTbl := tb1 20 rfl rfl
theorem c_1_21 : Jvm.Cond.methodLink "RecordBridgeLaw" (9 : Nat) ({ cls := "RecordBridge", name := "<init>", desc := "()V" } : Jvm.MethodName) ∈ gTbl := tb1 21 rfl rfl
theorem c_1_22 : Jvm.Cond.instanceMethod ({ cls := "RecordBridge", name := "<init>", desc := "()V" } : Jvm.MethodName) ∈ gTbl := tb1 22 rfl rfl
theorem c_1_23 : Jvm.Cond.code ({ cls := "RecordBridge", name := "<init>", desc := "()V" } : Jvm.MethodName) prog_1_method_1_code (1 : Nat) (Option.none : Option Jvm.ClassFile.FieldType) ∈ gTbl := tb1 23 rfl rfl
theorem c_1_24 : Jvm.Cond.methodLink "RecordBridge" (3 : Nat) ({ cls := "java/lang/Object", name := "<init>", desc := "()V" } : Jvm.MethodName) ∈ gTbl := tb1 24 rfl rfl
theorem c_1_25 : Jvm.Cond.instanceMethod ({ cls := "java/lang/Object", name := "<init>", desc := "()V" } : Jvm.MethodName) ∈ gTbl := tb1 25 rfl rfl
theorem c_1_26 : Jvm.Cond.code ({ cls := "java/lang/Object", name := "<init>", desc := "()V" } : Jvm.MethodName) object_method_1_code (1 : Nat) (Option.none : Option Jvm.ClassFile.FieldType) ∈ gTbl := tb1 26 rfl rfl
theorem c_1_27 : Jvm.Cond.classLink "RecordBridge" (9 : Nat) "RecordBridge$Store" ∈ gTbl := tb1 27 rfl rfl
theorem c_1_28 : Jvm.Cond.instantiable "RecordBridge$Store" (4 : Nat) ∈ gTbl := tb1 28 rfl rfl
theorem c_1_29 : Jvm.Cond.methodLink "RecordBridge" (11 : Nat) ({ cls := "RecordBridge$Store", name := "<init>", desc := "()V" } : Jvm.MethodName) ∈ gTbl := tb1 29 rfl rfl
theorem c_1_30 : Jvm.Cond.instanceMethod ({ cls := "RecordBridge$Store", name := "<init>", desc := "()V" } : Jvm.MethodName) ∈ gTbl := tb1 30 rfl rfl
theorem c_1_31 : Jvm.Cond.code ({ cls := "RecordBridge$Store", name := "<init>", desc := "()V" } : Jvm.MethodName) prog_9_method_1_code (1 : Nat) (Option.none : Option Jvm.ClassFile.FieldType) ∈ gTbl := tb1 31 rfl rfl
theorem c_1_32 : Jvm.Cond.methodLink "RecordBridge$Store" (3 : Nat) ({ cls := "java/lang/Object", name := "<init>", desc := "()V" } : Jvm.MethodName) ∈ gTbl := tb1 32 rfl rfl
theorem c_1_33 : Jvm.Cond.classLink "RecordBridge$Store" (9 : Nat) "RecordBridge$Row" ∈ gTbl := tb1 33 rfl rfl
theorem c_1_35 : Jvm.Cond.classLink "RecordBridge$Store" (17 : Nat) "RecordBridge$Value" ∈ gTbl := tb1 35 rfl rfl
theorem c_1_37 : Jvm.Cond.fieldLink "RecordBridge$Store" (11 : Nat) "RecordBridge$Store" "rows" "[LRecordBridge$Row;" ∈ gTbl := tb1 37 rfl rfl
theorem c_1_38 : Jvm.Cond.fieldLink "RecordBridge$Store" (19 : Nat) "RecordBridge$Store" "values" "[LRecordBridge$Value;" ∈ gTbl := tb1 38 rfl rfl
theorem c_1_39 : Jvm.Cond.fieldLink "RecordBridge$Store" (23 : Nat) "RecordBridge$Store" "rowCount" "I" ∈ gTbl := tb1 39 rfl rfl
theorem c_1_40 : Jvm.Cond.fieldLink "RecordBridge" (329 : Nat) "RecordBridge$Store" "rowCount" "I" ∈ gTbl := tb1 40 rfl rfl
theorem c_1_41 : Jvm.Cond.fieldLink "RecordBridge$Store" (27 : Nat) "RecordBridge$Store" "valueCount" "I" ∈ gTbl := tb1 41 rfl rfl
theorem c_1_42 : Jvm.Cond.fieldLink "RecordBridge" (332 : Nat) "RecordBridge$Store" "valueCount" "I" ∈ gTbl := tb1 42 rfl rfl
theorem c_1_52 : Jvm.Cond.classLink "RecordBridge" (18 : Nat) "RecordBridge$Tray" ∈ gTbl := tb1 52 rfl rfl
theorem c_1_53 : Jvm.Cond.instantiable "RecordBridge$Tray" (2 : Nat) ∈ gTbl := tb1 53 rfl rfl
theorem c_1_54 : Jvm.Cond.methodLink "RecordBridge" (20 : Nat) ({ cls := "RecordBridge$Tray", name := "<init>", desc := "()V" } : Jvm.MethodName) ∈ gTbl := tb1 54 rfl rfl
theorem c_1_55 : Jvm.Cond.instanceMethod ({ cls := "RecordBridge$Tray", name := "<init>", desc := "()V" } : Jvm.MethodName) ∈ gTbl := tb1 55 rfl rfl
theorem c_1_56 : Jvm.Cond.code ({ cls := "RecordBridge$Tray", name := "<init>", desc := "()V" } : Jvm.MethodName) prog_11_method_1_code (2 : Nat) (Option.none : Option Jvm.ClassFile.FieldType) ∈ gTbl := tb1 56 rfl rfl
theorem c_1_57 : Jvm.Cond.methodLink "RecordBridge$Tray" (3 : Nat) ({ cls := "java/lang/Object", name := "<init>", desc := "()V" } : Jvm.MethodName) ∈ gTbl := tb1 57 rfl rfl
theorem c_1_58 : Jvm.Cond.fieldLink "RecordBridge$Tray" (9 : Nat) "RecordBridge$Tray" "lanes" "[I" ∈ gTbl := tb1 58 rfl rfl
theorem c_1_59 : Jvm.Cond.fieldLink "RecordBridge$Tray" (15 : Nat) "RecordBridge$Tray" "things" "[J" ∈ gTbl := tb1 59 rfl rfl
theorem c_1_65 : Jvm.Cond.arrayClass Jvm.ClassFile.FieldType.int ∈ gTbl := tb1 65 rfl rfl
theorem c_1_66 : Jvm.Cond.arrayClass Jvm.ClassFile.FieldType.long ∈ gTbl := tb1 66 rfl rfl
theorem c_1_67 : Jvm.Cond.classLink "RecordBridge" (25 : Nat) "RecordBridge$Draft" ∈ gTbl := tb1 67 rfl rfl
theorem c_1_68 : Jvm.Cond.instantiable "RecordBridge$Draft" (4 : Nat) ∈ gTbl := tb1 68 rfl rfl
theorem c_1_69 : Jvm.Cond.methodLink "RecordBridge" (27 : Nat) ({ cls := "RecordBridge$Draft", name := "<init>", desc := "(LRecordBridge$Store;)V" } : Jvm.MethodName) ∈ gTbl := tb1 69 rfl rfl
theorem c_1_70 : Jvm.Cond.instanceMethod ({ cls := "RecordBridge$Draft", name := "<init>", desc := "(LRecordBridge$Store;)V" } : Jvm.MethodName) ∈ gTbl := tb1 70 rfl rfl
theorem c_1_71 : Jvm.Cond.code ({ cls := "RecordBridge$Draft", name := "<init>", desc := "(LRecordBridge$Store;)V" } : Jvm.MethodName) prog_3_method_1_code (2 : Nat) (Option.none : Option Jvm.ClassFile.FieldType) ∈ gTbl := tb1 71 rfl rfl
theorem c_1_72 : Jvm.Cond.methodLink "RecordBridge$Draft" (3 : Nat) ({ cls := "java/lang/Object", name := "<init>", desc := "()V" } : Jvm.MethodName) ∈ gTbl := tb1 72 rfl rfl
theorem c_1_73 : Jvm.Cond.fieldLink "RecordBridge$Draft" (9 : Nat) "RecordBridge$Draft" "store" "LRecordBridge$Store;" ∈ gTbl := tb1 73 rfl rfl
theorem c_1_74 : Jvm.Cond.fieldLink "RecordBridge$Draft" (15 : Nat) "RecordBridge$Draft" "parts" "[J" ∈ gTbl := tb1 74 rfl rfl
theorem c_1_75 : Jvm.Cond.fieldLink "RecordBridge$Draft" (88 : Nat) "RecordBridge$Draft" "size" "I" ∈ gTbl := tb1 75 rfl rfl
theorem c_1_76 : Jvm.Cond.fieldLink "RecordBridge" (393 : Nat) "RecordBridge$Draft" "size" "I" ∈ gTbl := tb1 76 rfl rfl
theorem c_1_77 : Jvm.Cond.fieldLink "RecordBridge$Draft" (91 : Nat) "RecordBridge$Draft" "deep" "I" ∈ gTbl := tb1 77 rfl rfl
theorem c_1_78 : Jvm.Cond.fieldLink "RecordBridge" (394 : Nat) "RecordBridge$Draft" "deep" "I" ∈ gTbl := tb1 78 rfl rfl
theorem c_1_88 : Jvm.Cond.classLink "RecordBridge" (34 : Nat) "RecordBridge$Comparer" ∈ gTbl := tb1 88 rfl rfl
theorem c_1_89 : Jvm.Cond.instantiable "RecordBridge$Comparer" (1 : Nat) ∈ gTbl := tb1 89 rfl rfl
theorem c_1_90 : Jvm.Cond.methodLink "RecordBridge" (36 : Nat) ({ cls := "RecordBridge$Comparer", name := "<init>", desc := "(LRecordBridge$Store;)V" } : Jvm.MethodName) ∈ gTbl := tb1 90 rfl rfl
theorem c_1_91 : Jvm.Cond.instanceMethod ({ cls := "RecordBridge$Comparer", name := "<init>", desc := "(LRecordBridge$Store;)V" } : Jvm.MethodName) ∈ gTbl := tb1 91 rfl rfl
theorem c_1_92 : Jvm.Cond.code ({ cls := "RecordBridge$Comparer", name := "<init>", desc := "(LRecordBridge$Store;)V" } : Jvm.MethodName) prog_2_method_1_code (2 : Nat) (Option.none : Option Jvm.ClassFile.FieldType) ∈ gTbl := tb1 92 rfl rfl
theorem c_1_93 : Jvm.Cond.methodLink "RecordBridge$Comparer" (1 : Nat) ({ cls := "java/lang/Object", name := "<init>", desc := "()V" } : Jvm.MethodName) ∈ gTbl := tb1 93 rfl rfl
theorem c_1_94 : Jvm.Cond.fieldLink "RecordBridge$Comparer" (7 : Nat) "RecordBridge$Comparer" "store" "LRecordBridge$Store;" ∈ gTbl := tb1 94 rfl rfl
theorem c_1_98 : Jvm.Cond.classLink "RecordBridge" (41 : Nat) "RecordBridge$Scribe" ∈ gTbl := tb1 98 rfl rfl
theorem c_1_99 : Jvm.Cond.instantiable "RecordBridge$Scribe" (3 : Nat) ∈ gTbl := tb1 99 rfl rfl
theorem c_1_100 : Jvm.Cond.methodLink "RecordBridge" (43 : Nat) ({ cls := "RecordBridge$Scribe", name := "<init>", desc := "(LRecordBridge$Store;)V" } : Jvm.MethodName) ∈ gTbl := tb1 100 rfl rfl
theorem c_1_101 : Jvm.Cond.instanceMethod ({ cls := "RecordBridge$Scribe", name := "<init>", desc := "(LRecordBridge$Store;)V" } : Jvm.MethodName) ∈ gTbl := tb1 101 rfl rfl
theorem c_1_102 : Jvm.Cond.code ({ cls := "RecordBridge$Scribe", name := "<init>", desc := "(LRecordBridge$Store;)V" } : Jvm.MethodName) prog_8_method_1_code (2 : Nat) (Option.none : Option Jvm.ClassFile.FieldType) ∈ gTbl := tb1 102 rfl rfl
theorem c_1_103 : Jvm.Cond.methodLink "RecordBridge$Scribe" (1 : Nat) ({ cls := "java/lang/Object", name := "<init>", desc := "()V" } : Jvm.MethodName) ∈ gTbl := tb1 103 rfl rfl
theorem c_1_104 : Jvm.Cond.classLink "RecordBridge$Scribe" (13 : Nat) "RecordBridge$Text" ∈ gTbl := tb1 104 rfl rfl
theorem c_1_105 : Jvm.Cond.instantiable "RecordBridge$Text" (4 : Nat) ∈ gTbl := tb1 105 rfl rfl
theorem c_1_106 : Jvm.Cond.methodLink "RecordBridge$Scribe" (15 : Nat) ({ cls := "RecordBridge$Text", name := "<init>", desc := "()V" } : Jvm.MethodName) ∈ gTbl := tb1 106 rfl rfl
theorem c_1_107 : Jvm.Cond.instanceMethod ({ cls := "RecordBridge$Text", name := "<init>", desc := "()V" } : Jvm.MethodName) ∈ gTbl := tb1 107 rfl rfl
theorem c_1_108 : Jvm.Cond.code ({ cls := "RecordBridge$Text", name := "<init>", desc := "()V" } : Jvm.MethodName) prog_10_method_1_code (1 : Nat) (Option.none : Option Jvm.ClassFile.FieldType) ∈ gTbl := tb1 108 rfl rfl
theorem c_1_109 : Jvm.Cond.methodLink "RecordBridge$Text" (3 : Nat) ({ cls := "java/lang/Object", name := "<init>", desc := "()V" } : Jvm.MethodName) ∈ gTbl := tb1 109 rfl rfl
theorem c_1_110 : Jvm.Cond.fieldLink "RecordBridge$Text" (9 : Nat) "RecordBridge$Text" "bytes" "[B" ∈ gTbl := tb1 110 rfl rfl
theorem c_1_111 : Jvm.Cond.fieldLink "RecordBridge" (314 : Nat) "RecordBridge$Text" "bytes" "[B" ∈ gTbl := tb1 111 rfl rfl
theorem c_1_112 : Jvm.Cond.fieldLink "RecordBridge$Text" (15 : Nat) "RecordBridge$Text" "digits" "[C" ∈ gTbl := tb1 112 rfl rfl
theorem c_1_113 : Jvm.Cond.fieldLink "RecordBridge$Text" (19 : Nat) "RecordBridge$Text" "count" "I" ∈ gTbl := tb1 113 rfl rfl
theorem c_1_114 : Jvm.Cond.fieldLink "RecordBridge" (311 : Nat) "RecordBridge$Text" "count" "I" ∈ gTbl := tb1 114 rfl rfl
theorem c_1_115 : Jvm.Cond.fieldLink "RecordBridge$Text" (23 : Nat) "RecordBridge$Text" "isOver" "Z" ∈ gTbl := tb1 115 rfl rfl
theorem c_1_116 : Jvm.Cond.fieldLink "RecordBridge$Scribe" (30 : Nat) "RecordBridge$Text" "isOver" "Z" ∈ gTbl := tb1 116 rfl rfl
theorem c_1_126 : Jvm.Cond.arrayClass Jvm.ClassFile.FieldType.byte ∈ gTbl := tb1 126 rfl rfl
theorem c_1_127 : Jvm.Cond.arrayClass Jvm.ClassFile.FieldType.char ∈ gTbl := tb1 127 rfl rfl
theorem c_1_128 : Jvm.Cond.fieldLink "RecordBridge$Scribe" (7 : Nat) "RecordBridge$Scribe" "store" "LRecordBridge$Store;" ∈ gTbl := tb1 128 rfl rfl
theorem c_1_129 : Jvm.Cond.fieldLink "RecordBridge$Scribe" (16 : Nat) "RecordBridge$Scribe" "shown" "LRecordBridge$Text;" ∈ gTbl := tb1 129 rfl rfl
theorem c_1_130 : Jvm.Cond.fieldLink "RecordBridge" (307 : Nat) "RecordBridge$Scribe" "shown" "LRecordBridge$Text;" ∈ gTbl := tb1 130 rfl rfl
theorem c_1_131 : Jvm.Cond.fieldLink "RecordBridge$Scribe" (20 : Nat) "RecordBridge$Scribe" "next" "LRecordBridge$Text;" ∈ gTbl := tb1 131 rfl rfl
theorem c_1_139 : Jvm.Cond.classLink "RecordBridge" (48 : Nat) "RecordBridge$Kind" ∈ gTbl := tb1 139 rfl rfl
theorem c_1_141 : Jvm.Cond.fieldLink "RecordBridge" (12 : Nat) "RecordBridge" "store" "LRecordBridge$Store;" ∈ gTbl := tb1 141 rfl rfl
theorem c_1_142 : Jvm.Cond.fieldLink "RecordBridge" (21 : Nat) "RecordBridge" "tray" "LRecordBridge$Tray;" ∈ gTbl := tb1 142 rfl rfl
theorem c_1_143 : Jvm.Cond.fieldLink "RecordBridge" (30 : Nat) "RecordBridge" "draft" "LRecordBridge$Draft;" ∈ gTbl := tb1 143 rfl rfl
theorem c_1_144 : Jvm.Cond.fieldLink "RecordBridge" (37 : Nat) "RecordBridge" "comparer" "LRecordBridge$Comparer;" ∈ gTbl := tb1 144 rfl rfl
theorem c_1_145 : Jvm.Cond.fieldLink "RecordBridge" (44 : Nat) "RecordBridge" "scribe" "LRecordBridge$Scribe;" ∈ gTbl := tb1 145 rfl rfl
theorem c_1_146 : Jvm.Cond.fieldLink "RecordBridge" (50 : Nat) "RecordBridge" "kindTable" "[LRecordBridge$Kind;" ∈ gTbl := tb1 146 rfl rfl
theorem c_1_147 : Jvm.Cond.fieldLink "RecordBridge" (54 : Nat) "RecordBridge" "familyKinds" "[I" ∈ gTbl := tb1 147 rfl rfl
theorem c_1_148 : Jvm.Cond.fieldLink "RecordBridge" (58 : Nat) "RecordBridge" "familySealed" "[Z" ∈ gTbl := tb1 148 rfl rfl
theorem c_1_149 : Jvm.Cond.fieldLink "RecordBridge" (211 : Nat) "RecordBridge" "kindCount" "I" ∈ gTbl := tb1 149 rfl rfl
theorem c_1_150 : Jvm.Cond.fieldLink "RecordBridge" (214 : Nat) "RecordBridge" "familyCount" "I" ∈ gTbl := tb1 150 rfl rfl
theorem c_1_151 : Jvm.Cond.fieldLink "RecordBridge" (335 : Nat) "RecordBridge" "startedCount" "I" ∈ gTbl := tb1 151 rfl rfl
theorem c_1_152 : Jvm.Cond.fieldLink "RecordBridge" (323 : Nat) "RecordBridge" "traced" "I" ∈ gTbl := tb1 152 rfl rfl
theorem c_1_153 : Jvm.Cond.fieldLink "RecordBridge" (326 : Nat) "RecordBridge" "latestFault" "I" ∈ gTbl := tb1 153 rfl rfl
theorem c_1_154 : Jvm.Cond.fieldLink "RecordBridge" (338 : Nat) "RecordBridge" "faultCount" "I" ∈ gTbl := tb1 154 rfl rfl
theorem c_1_184 : Jvm.Cond.arrayClass Jvm.ClassFile.FieldType.boolean ∈ gTbl := tb1 184 rfl rfl
theorem c_1_185 : Jvm.Cond.methodLink "RecordBridgeLaw" (13 : Nat) ({ cls := "RecordBridge", name := "row", desc := "(II)I" } : Jvm.MethodName) ∈ gTbl := tb1 185 rfl rfl
theorem c_1_186 : Jvm.Cond.instanceMethod ({ cls := "RecordBridge", name := "row", desc := "(II)I" } : Jvm.MethodName) ∈ gTbl := tb1 186 rfl rfl
theorem c_1_187 : Jvm.Cond.selects "RecordBridge" ({ cls := "RecordBridge", name := "row", desc := "(II)I" } : Jvm.MethodName) ({ cls := "RecordBridge", name := "row", desc := "(II)I" } : Jvm.MethodName) ∈ gTbl := tb1 187 rfl rfl
theorem c_1_188 : Jvm.Cond.code ({ cls := "RecordBridge", name := "row", desc := "(II)I" } : Jvm.MethodName) prog_1_method_2_code (3 : Nat) (Option.some Jvm.ClassFile.FieldType.int) ∈ gTbl := tb1 188 rfl rfl
theorem c_1_189 : Jvm.Cond.methodLink "RecordBridge" (64 : Nat) ({ cls := "RecordBridge", name := "isWithin", desc := "(III)Z" } : Jvm.MethodName) ∈ gTbl := tb1 189 rfl rfl
theorem c_1_190 : Jvm.Cond.static ({ cls := "RecordBridge", name := "isWithin", desc := "(III)Z" } : Jvm.MethodName) ∈ gTbl := tb1 190 rfl rfl
theorem c_1_191 : Jvm.Cond.code ({ cls := "RecordBridge", name := "isWithin", desc := "(III)Z" } : Jvm.MethodName) prog_1_method_38_code (3 : Nat) (Option.some Jvm.ClassFile.FieldType.boolean) ∈ gTbl := tb1 191 rfl rfl
theorem c_1_192 : Jvm.Cond.methodLink "RecordBridge" (68 : Nat) ({ cls := "RecordBridge$Store", name := "hasRoomForRows", desc := "(I)Z" } : Jvm.MethodName) ∈ gTbl := tb1 192 rfl rfl
theorem c_1_193 : Jvm.Cond.instanceMethod ({ cls := "RecordBridge$Store", name := "hasRoomForRows", desc := "(I)Z" } : Jvm.MethodName) ∈ gTbl := tb1 193 rfl rfl
theorem c_1_194 : Jvm.Cond.selects "RecordBridge$Store" ({ cls := "RecordBridge$Store", name := "hasRoomForRows", desc := "(I)Z" } : Jvm.MethodName) ({ cls := "RecordBridge$Store", name := "hasRoomForRows", desc := "(I)Z" } : Jvm.MethodName) ∈ gTbl := tb1 194 rfl rfl
theorem c_1_195 : Jvm.Cond.code ({ cls := "RecordBridge$Store", name := "hasRoomForRows", desc := "(I)Z" } : Jvm.MethodName) prog_9_method_4_code (2 : Nat) (Option.some Jvm.ClassFile.FieldType.boolean) ∈ gTbl := tb1 195 rfl rfl
theorem c_1_196 : Jvm.Cond.methodLink "RecordBridge" (72 : Nat) ({ cls := "RecordBridge", name := "failed", desc := "(I)I" } : Jvm.MethodName) ∈ gTbl := tb1 196 rfl rfl
theorem c_1_198 : Jvm.Cond.instanceMethod ({ cls := "RecordBridge", name := "failed", desc := "(I)I" } : Jvm.MethodName) ∈ gTbl := tb1 198 rfl rfl
theorem c_1_199 : Jvm.Cond.code ({ cls := "RecordBridge", name := "failed", desc := "(I)I" } : Jvm.MethodName) prog_1_method_35_code (2 : Nat) (Option.some Jvm.ClassFile.FieldType.int) ∈ gTbl := tb1 199 rfl rfl
theorem c_1_200 : Jvm.Cond.methodLink "RecordBridge" (76 : Nat) ({ cls := "RecordBridge$Store", name := "addRow", desc := "(IIZ)LRecordBridge$Row;" } : Jvm.MethodName) ∈ gTbl := tb1 200 rfl rfl
theorem c_1_201 : Jvm.Cond.instanceMethod ({ cls := "RecordBridge$Store", name := "addRow", desc := "(IIZ)LRecordBridge$Row;" } : Jvm.MethodName) ∈ gTbl := tb1 201 rfl rfl
theorem c_1_202 : Jvm.Cond.selects "RecordBridge$Store" ({ cls := "RecordBridge$Store", name := "addRow", desc := "(IIZ)LRecordBridge$Row;" } : Jvm.MethodName) ({ cls := "RecordBridge$Store", name := "addRow", desc := "(IIZ)LRecordBridge$Row;" } : Jvm.MethodName) ∈ gTbl := tb1 202 rfl rfl
theorem c_1_203 : Jvm.Cond.code ({ cls := "RecordBridge$Store", name := "addRow", desc := "(IIZ)LRecordBridge$Row;" } : Jvm.MethodName) prog_9_method_6_code (6 : Nat) (Option.some (Jvm.ClassFile.FieldType.object "RecordBridge$Row")) ∈ gTbl := tb1 203 rfl rfl
theorem c_1_204 : Jvm.Cond.instantiable "RecordBridge$Row" (4 : Nat) ∈ gTbl := tb1 204 rfl rfl
theorem c_1_205 : Jvm.Cond.methodLink "RecordBridge$Store" (30 : Nat) ({ cls := "RecordBridge$Row", name := "<init>", desc := "(II[JZ)V" } : Jvm.MethodName) ∈ gTbl := tb1 205 rfl rfl
theorem c_1_206 : Jvm.Cond.instanceMethod ({ cls := "RecordBridge$Row", name := "<init>", desc := "(II[JZ)V" } : Jvm.MethodName) ∈ gTbl := tb1 206 rfl rfl
theorem c_1_207 : Jvm.Cond.code ({ cls := "RecordBridge$Row", name := "<init>", desc := "(II[JZ)V" } : Jvm.MethodName) prog_7_method_1_code (5 : Nat) (Option.none : Option Jvm.ClassFile.FieldType) ∈ gTbl := tb1 207 rfl rfl
theorem c_1_208 : Jvm.Cond.methodLink "RecordBridge$Row" (1 : Nat) ({ cls := "java/lang/Object", name := "<init>", desc := "()V" } : Jvm.MethodName) ∈ gTbl := tb1 208 rfl rfl
theorem c_1_209 : Jvm.Cond.fieldLink "RecordBridge$Row" (7 : Nat) "RecordBridge$Row" "number" "I" ∈ gTbl := tb1 209 rfl rfl
theorem c_1_210 : Jvm.Cond.fieldLink "RecordBridge" (80 : Nat) "RecordBridge$Row" "number" "I" ∈ gTbl := tb1 210 rfl rfl
theorem c_1_211 : Jvm.Cond.fieldLink "RecordBridge$Draft" (112 : Nat) "RecordBridge$Row" "number" "I" ∈ gTbl := tb1 211 rfl rfl
theorem c_1_212 : Jvm.Cond.fieldLink "RecordBridge$Row" (13 : Nat) "RecordBridge$Row" "lane" "I" ∈ gTbl := tb1 212 rfl rfl
theorem c_1_213 : Jvm.Cond.fieldLink "RecordBridge" (93 : Nat) "RecordBridge$Row" "lane" "I" ∈ gTbl := tb1 213 rfl rfl
theorem c_1_214 : Jvm.Cond.fieldLink "RecordBridge$Comparer" (90 : Nat) "RecordBridge$Row" "lane" "I" ∈ gTbl := tb1 214 rfl rfl
theorem c_1_215 : Jvm.Cond.fieldLink "RecordBridge$Draft" (98 : Nat) "RecordBridge$Row" "lane" "I" ∈ gTbl := tb1 215 rfl rfl
theorem c_1_216 : Jvm.Cond.fieldLink "RecordBridge$Scribe" (103 : Nat) "RecordBridge$Row" "lane" "I" ∈ gTbl := tb1 216 rfl rfl
theorem c_1_217 : Jvm.Cond.fieldLink "RecordBridge$Store" (41 : Nat) "RecordBridge$Row" "lane" "I" ∈ gTbl := tb1 217 rfl rfl
theorem c_1_218 : Jvm.Cond.fieldLink "RecordBridge$Row" (16 : Nat) "RecordBridge$Row" "cells" "[J" ∈ gTbl := tb1 218 rfl rfl
theorem c_1_219 : Jvm.Cond.fieldLink "RecordBridge" (100 : Nat) "RecordBridge$Row" "cells" "[J" ∈ gTbl := tb1 219 rfl rfl
theorem c_1_220 : Jvm.Cond.fieldLink "RecordBridge$Scribe" (98 : Nat) "RecordBridge$Row" "cells" "[J" ∈ gTbl := tb1 220 rfl rfl
theorem c_1_221 : Jvm.Cond.fieldLink "RecordBridge$Store" (35 : Nat) "RecordBridge$Row" "cells" "[J" ∈ gTbl := tb1 221 rfl rfl
theorem c_1_222 : Jvm.Cond.fieldLink "RecordBridge$Comparer" (95 : Nat) "RecordBridge$Row" "cells" "[J" ∈ gTbl := tb1 222 rfl rfl
theorem c_1_223 : Jvm.Cond.fieldLink "RecordBridge$Draft" (103 : Nat) "RecordBridge$Row" "cells" "[J" ∈ gTbl := tb1 223 rfl rfl
theorem c_1_224 : Jvm.Cond.fieldLink "RecordBridge$Row" (20 : Nat) "RecordBridge$Row" "isKept" "Z" ∈ gTbl := tb1 224 rfl rfl
theorem c_1_225 : Jvm.Cond.fieldLink "RecordBridge" (122 : Nat) "RecordBridge$Row" "isKept" "Z" ∈ gTbl := tb1 225 rfl rfl
theorem c_1_226 : Jvm.Cond.fieldLink "RecordBridge$Draft" (119 : Nat) "RecordBridge$Row" "isKept" "Z" ∈ gTbl := tb1 226 rfl rfl
theorem c_1_236 : Jvm.Cond.constantLong "RecordBridge$Store" (39 : Nat) (-1 : Int64) ∈ gTbl := tb1 236 rfl rfl
theorem c_1_237 : Jvm.Cond.methodLink "RecordBridgeLaw" (20 : Nat) ({ cls := "RecordBridge", name := "put", desc := "(IIIJ)I" } : Jvm.MethodName) ∈ gTbl := tb1 237 rfl rfl
theorem c_1_238 : Jvm.Cond.instanceMethod ({ cls := "RecordBridge", name := "put", desc := "(IIIJ)I" } : Jvm.MethodName) ∈ gTbl := tb1 238 rfl rfl
theorem c_1_239 : Jvm.Cond.selects "RecordBridge" ({ cls := "RecordBridge", name := "put", desc := "(IIIJ)I" } : Jvm.MethodName) ({ cls := "RecordBridge", name := "put", desc := "(IIIJ)I" } : Jvm.MethodName) ∈ gTbl := tb1 239 rfl rfl
theorem c_2_0 : Jvm.Cond.code ({ cls := "RecordBridge", name := "put", desc := "(IIIJ)I" } : Jvm.MethodName) prog_1_method_3_code (8 : Nat) (Option.some Jvm.ClassFile.FieldType.int) ∈ gTbl := tb2 0 rfl rfl
theorem c_2_1 : Jvm.Cond.methodLink "RecordBridge" (86 : Nat) ({ cls := "RecordBridge$Store", name := "findRow", desc := "(J)LRecordBridge$Row;" } : Jvm.MethodName) ∈ gTbl := tb2 1 rfl rfl
theorem c_2_2 : Jvm.Cond.instanceMethod ({ cls := "RecordBridge$Store", name := "findRow", desc := "(J)LRecordBridge$Row;" } : Jvm.MethodName) ∈ gTbl := tb2 2 rfl rfl
theorem c_2_3 : Jvm.Cond.selects "RecordBridge$Store" ({ cls := "RecordBridge$Store", name := "findRow", desc := "(J)LRecordBridge$Row;" } : Jvm.MethodName) ({ cls := "RecordBridge$Store", name := "findRow", desc := "(J)LRecordBridge$Row;" } : Jvm.MethodName) ∈ gTbl := tb2 3 rfl rfl
theorem c_2_4 : Jvm.Cond.code ({ cls := "RecordBridge$Store", name := "findRow", desc := "(J)LRecordBridge$Row;" } : Jvm.MethodName) prog_9_method_2_code (3 : Nat) (Option.some (Jvm.ClassFile.FieldType.object "RecordBridge$Row")) ∈ gTbl := tb2 4 rfl rfl
theorem c_2_5 : Jvm.Cond.methodLink "RecordBridge" (90 : Nat) ({ cls := "RecordBridge$Lanes", name := "isNumber", desc := "(I)Z" } : Jvm.MethodName) ∈ gTbl := tb2 5 rfl rfl
theorem c_2_6 : Jvm.Cond.static ({ cls := "RecordBridge$Lanes", name := "isNumber", desc := "(I)Z" } : Jvm.MethodName) ∈ gTbl := tb2 6 rfl rfl
theorem c_2_7 : Jvm.Cond.code ({ cls := "RecordBridge$Lanes", name := "isNumber", desc := "(I)Z" } : Jvm.MethodName) prog_6_method_2_code (1 : Nat) (Option.some Jvm.ClassFile.FieldType.boolean) ∈ gTbl := tb2 7 rfl rfl
theorem c_2_8 : Jvm.Cond.methodLink "RecordBridge" (96 : Nat) ({ cls := "RecordBridge", name := "numberFault", desc := "(LRecordBridge$Row;III)I" } : Jvm.MethodName) ∈ gTbl := tb2 8 rfl rfl
theorem c_2_9 : Jvm.Cond.static ({ cls := "RecordBridge", name := "numberFault", desc := "(LRecordBridge$Row;III)I" } : Jvm.MethodName) ∈ gTbl := tb2 9 rfl rfl
theorem c_2_10 : Jvm.Cond.code ({ cls := "RecordBridge", name := "numberFault", desc := "(LRecordBridge$Row;III)I" } : Jvm.MethodName) prog_1_method_42_code (4 : Nat) (Option.some Jvm.ClassFile.FieldType.int) ∈ gTbl := tb2 10 rfl rfl
theorem c_2_11 : Jvm.Cond.methodLink "RecordBridge" (341 : Nat) ({ cls := "RecordBridge$Row", name := "hasCell", desc := "(I)Z" } : Jvm.MethodName) ∈ gTbl := tb2 11 rfl rfl
theorem c_2_12 : Jvm.Cond.instanceMethod ({ cls := "RecordBridge$Row", name := "hasCell", desc := "(I)Z" } : Jvm.MethodName) ∈ gTbl := tb2 12 rfl rfl
theorem c_2_13 : Jvm.Cond.selects "RecordBridge$Row" ({ cls := "RecordBridge$Row", name := "hasCell", desc := "(I)Z" } : Jvm.MethodName) ({ cls := "RecordBridge$Row", name := "hasCell", desc := "(I)Z" } : Jvm.MethodName) ∈ gTbl := tb2 13 rfl rfl
theorem c_2_14 : Jvm.Cond.code ({ cls := "RecordBridge$Row", name := "hasCell", desc := "(I)Z" } : Jvm.MethodName) prog_7_method_2_code (2 : Nat) (Option.some Jvm.ClassFile.FieldType.boolean) ∈ gTbl := tb2 14 rfl rfl
theorem c_2_15 : Jvm.Cond.methodLink "RecordBridge" (344 : Nat) ({ cls := "RecordBridge$Lanes", name := "isWidened", desc := "(II)Z" } : Jvm.MethodName) ∈ gTbl := tb2 15 rfl rfl
theorem c_2_16 : Jvm.Cond.static ({ cls := "RecordBridge$Lanes", name := "isWidened", desc := "(II)Z" } : Jvm.MethodName) ∈ gTbl := tb2 16 rfl rfl
theorem c_2_17 : Jvm.Cond.code ({ cls := "RecordBridge$Lanes", name := "isWidened", desc := "(II)Z" } : Jvm.MethodName) prog_6_method_5_code (2 : Nat) (Option.some Jvm.ClassFile.FieldType.boolean) ∈ gTbl := tb2 17 rfl rfl
theorem c_2_18 : Jvm.Cond.methodLink "RecordBridge" (104 : Nat) ({ cls := "RecordBridge$Lanes", name := "come", desc := "(IJ)J" } : Jvm.MethodName) ∈ gTbl := tb2 18 rfl rfl
theorem c_2_19 : Jvm.Cond.static ({ cls := "RecordBridge$Lanes", name := "come", desc := "(IJ)J" } : Jvm.MethodName) ∈ gTbl := tb2 19 rfl rfl
theorem c_2_20 : Jvm.Cond.code ({ cls := "RecordBridge$Lanes", name := "come", desc := "(IJ)J" } : Jvm.MethodName) prog_6_method_6_code (3 : Nat) (Option.some Jvm.ClassFile.FieldType.long) ∈ gTbl := tb2 20 rfl rfl
theorem c_2_21 : Jvm.Cond.constantLong "RecordBridge$Lanes" (11 : Nat) (65535 : Int64) ∈ gTbl := tb2 21 rfl rfl
theorem c_2_22 : Jvm.Cond.methodLink "RecordBridge$Lanes" (13 : Nat) ({ cls := "RecordBridge$Lanes", name := "floatBits", desc := "(J)J" } : Jvm.MethodName) ∈ gTbl := tb2 22 rfl rfl
theorem c_2_23 : Jvm.Cond.static ({ cls := "RecordBridge$Lanes", name := "floatBits", desc := "(J)J" } : Jvm.MethodName) ∈ gTbl := tb2 23 rfl rfl
theorem c_2_24 : Jvm.Cond.code ({ cls := "RecordBridge$Lanes", name := "floatBits", desc := "(J)J" } : Jvm.MethodName) prog_6_method_11_code (3 : Nat) (Option.some Jvm.ClassFile.FieldType.long) ∈ gTbl := tb2 24 rfl rfl
theorem c_2_25 : Jvm.Cond.methodLink "RecordBridge$Lanes" (35 : Nat) ({ cls := "RecordBridge$Lanes", name := "roundedBits", desc := "(JII)J" } : Jvm.MethodName) ∈ gTbl := tb2 25 rfl rfl
theorem c_2_26 : Jvm.Cond.static ({ cls := "RecordBridge$Lanes", name := "roundedBits", desc := "(JII)J" } : Jvm.MethodName) ∈ gTbl := tb2 26 rfl rfl
theorem c_2_27 : Jvm.Cond.code ({ cls := "RecordBridge$Lanes", name := "roundedBits", desc := "(JII)J" } : Jvm.MethodName) prog_6_method_13_code (9 : Nat) (Option.some Jvm.ClassFile.FieldType.long) ∈ gTbl := tb2 27 rfl rfl
theorem c_2_28 : Jvm.Cond.methodLink "RecordBridge$Lanes" (44 : Nat) ({ cls := "RecordBridge$Lanes", name := "topBit", desc := "(J)I" } : Jvm.MethodName) ∈ gTbl := tb2 28 rfl rfl
theorem c_2_29 : Jvm.Cond.static ({ cls := "RecordBridge$Lanes", name := "topBit", desc := "(J)I" } : Jvm.MethodName) ∈ gTbl := tb2 29 rfl rfl
theorem c_2_30 : Jvm.Cond.code ({ cls := "RecordBridge$Lanes", name := "topBit", desc := "(J)I" } : Jvm.MethodName) prog_6_method_14_code (3 : Nat) (Option.some Jvm.ClassFile.FieldType.int) ∈ gTbl := tb2 30 rfl rfl
theorem c_2_31 : Jvm.Cond.methodLink "RecordBridge$Lanes" (48 : Nat) ({ cls := "RecordBridge$Lanes", name := "roundedOff", desc := "(JI)J" } : Jvm.MethodName) ∈ gTbl := tb2 31 rfl rfl
theorem c_2_32 : Jvm.Cond.static ({ cls := "RecordBridge$Lanes", name := "roundedOff", desc := "(JI)J" } : Jvm.MethodName) ∈ gTbl := tb2 32 rfl rfl
theorem c_2_33 : Jvm.Cond.code ({ cls := "RecordBridge$Lanes", name := "roundedOff", desc := "(JI)J" } : Jvm.MethodName) prog_6_method_15_code (10 : Nat) (Option.some Jvm.ClassFile.FieldType.long) ∈ gTbl := tb2 33 rfl rfl
theorem c_2_34 : Jvm.Cond.constant "RecordBridge$Lanes" (41 : Nat) (-2147483648 : Int32) ∈ gTbl := tb2 34 rfl rfl
theorem c_2_35 : Jvm.Cond.methodLink "RecordBridge$Lanes" (17 : Nat) ({ cls := "RecordBridge$Lanes", name := "doubleBits", desc := "(J)J" } : Jvm.MethodName) ∈ gTbl := tb2 35 rfl rfl
theorem c_2_36 : Jvm.Cond.static ({ cls := "RecordBridge$Lanes", name := "doubleBits", desc := "(J)J" } : Jvm.MethodName) ∈ gTbl := tb2 36 rfl rfl
theorem c_2_37 : Jvm.Cond.code ({ cls := "RecordBridge$Lanes", name := "doubleBits", desc := "(J)J" } : Jvm.MethodName) prog_6_method_12_code (4 : Nat) (Option.some Jvm.ClassFile.FieldType.long) ∈ gTbl := tb2 37 rfl rfl
theorem c_2_38 : Jvm.Cond.constantLong "RecordBridge$Lanes" (42 : Nat) (-9223372036854775808 : Int64) ∈ gTbl := tb2 38 rfl rfl
theorem c_2_39 : Jvm.Cond.methodLink "RecordBridge" (108 : Nat) ({ cls := "RecordBridge$Lanes", name := "widen", desc := "(IIJ)J" } : Jvm.MethodName) ∈ gTbl := tb2 39 rfl rfl
theorem c_2_40 : Jvm.Cond.static ({ cls := "RecordBridge$Lanes", name := "widen", desc := "(IIJ)J" } : Jvm.MethodName) ∈ gTbl := tb2 40 rfl rfl
theorem c_2_41 : Jvm.Cond.code ({ cls := "RecordBridge$Lanes", name := "widen", desc := "(IIJ)J" } : Jvm.MethodName) prog_6_method_7_code (4 : Nat) (Option.some Jvm.ClassFile.FieldType.long) ∈ gTbl := tb2 41 rfl rfl
theorem c_2_42 : Jvm.Cond.methodLink "RecordBridge$Lanes" (20 : Nat) ({ cls := "RecordBridge$Lanes", name := "doubleOfFloat", desc := "(J)J" } : Jvm.MethodName) ∈ gTbl := tb2 42 rfl rfl
theorem c_2_43 : Jvm.Cond.static ({ cls := "RecordBridge$Lanes", name := "doubleOfFloat", desc := "(J)J" } : Jvm.MethodName) ∈ gTbl := tb2 43 rfl rfl
theorem c_2_44 : Jvm.Cond.code ({ cls := "RecordBridge$Lanes", name := "doubleOfFloat", desc := "(J)J" } : Jvm.MethodName) prog_6_method_16_code (10 : Nat) (Option.some Jvm.ClassFile.FieldType.long) ∈ gTbl := tb2 44 rfl rfl
theorem c_2_45 : Jvm.Cond.constantLong "RecordBridge$Lanes" (52 : Nat) (255 : Int64) ∈ gTbl := tb2 45 rfl rfl
theorem c_2_46 : Jvm.Cond.constantLong "RecordBridge$Lanes" (54 : Nat) (8388607 : Int64) ∈ gTbl := tb2 46 rfl rfl
theorem c_2_47 : Jvm.Cond.constantLong "RecordBridge$Lanes" (56 : Nat) (127 : Int64) ∈ gTbl := tb2 47 rfl rfl
theorem c_2_48 : Jvm.Cond.constantLong "RecordBridge$Lanes" (58 : Nat) (1023 : Int64) ∈ gTbl := tb2 48 rfl rfl
theorem c_2_49 : Jvm.Cond.methodLink "RecordBridge$Lanes" (23 : Nat) ({ cls := "RecordBridge$Lanes", name := "come", desc := "(IJ)J" } : Jvm.MethodName) ∈ gTbl := tb2 49 rfl rfl
theorem c_2_50 : Jvm.Cond.methodLink "RecordBridgeLaw" (25 : Nat) ({ cls := "RecordBridge", name := "get", desc := "(III)J" } : Jvm.MethodName) ∈ gTbl := tb2 50 rfl rfl
theorem c_2_51 : Jvm.Cond.instanceMethod ({ cls := "RecordBridge", name := "get", desc := "(III)J" } : Jvm.MethodName) ∈ gTbl := tb2 51 rfl rfl
theorem c_2_52 : Jvm.Cond.selects "RecordBridge" ({ cls := "RecordBridge", name := "get", desc := "(III)J" } : Jvm.MethodName) ({ cls := "RecordBridge", name := "get", desc := "(III)J" } : Jvm.MethodName) ∈ gTbl := tb2 52 rfl rfl
theorem c_2_53 : Jvm.Cond.code ({ cls := "RecordBridge", name := "get", desc := "(III)J" } : Jvm.MethodName) prog_1_method_4_code (6 : Nat) (Option.some Jvm.ClassFile.FieldType.long) ∈ gTbl := tb2 53 rfl rfl
theorem c_2_54 : Jvm.Cond.constantLong "RecordBridge" (112 : Nat) (-9223372036854775808 : Int64) ∈ gTbl := tb2 54 rfl rfl
theorem c_2_55 : Jvm.Cond.methodLink "RecordBridge" (114 : Nat) ({ cls := "RecordBridge", name := "lost", desc := "(I)J" } : Jvm.MethodName) ∈ gTbl := tb2 55 rfl rfl
theorem c_2_57 : Jvm.Cond.instanceMethod ({ cls := "RecordBridge", name := "lost", desc := "(I)J" } : Jvm.MethodName) ∈ gTbl := tb2 57 rfl rfl
theorem c_2_58 : Jvm.Cond.code ({ cls := "RecordBridge", name := "lost", desc := "(I)J" } : Jvm.MethodName) prog_1_method_36_code (2 : Nat) (Option.some Jvm.ClassFile.FieldType.long) ∈ gTbl := tb2 58 rfl rfl
theorem c_2_59 : Jvm.Cond.methodLink "RecordBridgeLaw" (30 : Nat) ({ cls := "RecordBridge", name := "lay", desc := "(III)I" } : Jvm.MethodName) ∈ gTbl := tb2 59 rfl rfl
theorem c_2_60 : Jvm.Cond.instanceMethod ({ cls := "RecordBridge", name := "lay", desc := "(III)I" } : Jvm.MethodName) ∈ gTbl := tb2 60 rfl rfl
theorem c_2_61 : Jvm.Cond.selects "RecordBridge" ({ cls := "RecordBridge", name := "lay", desc := "(III)I" } : Jvm.MethodName) ({ cls := "RecordBridge", name := "lay", desc := "(III)I" } : Jvm.MethodName) ∈ gTbl := tb2 61 rfl rfl
theorem c_2_62 : Jvm.Cond.code ({ cls := "RecordBridge", name := "lay", desc := "(III)I" } : Jvm.MethodName) prog_1_method_5_code (6 : Nat) (Option.some Jvm.ClassFile.FieldType.int) ∈ gTbl := tb2 62 rfl rfl
theorem c_2_63 : Jvm.Cond.methodLink "RecordBridge" (118 : Nat) ({ cls := "RecordBridge$Store", name := "findValue", desc := "(J)LRecordBridge$Value;" } : Jvm.MethodName) ∈ gTbl := tb2 63 rfl rfl
theorem c_2_64 : Jvm.Cond.instanceMethod ({ cls := "RecordBridge$Store", name := "findValue", desc := "(J)LRecordBridge$Value;" } : Jvm.MethodName) ∈ gTbl := tb2 64 rfl rfl
theorem c_2_65 : Jvm.Cond.selects "RecordBridge$Store" ({ cls := "RecordBridge$Store", name := "findValue", desc := "(J)LRecordBridge$Value;" } : Jvm.MethodName) ({ cls := "RecordBridge$Store", name := "findValue", desc := "(J)LRecordBridge$Value;" } : Jvm.MethodName) ∈ gTbl := tb2 65 rfl rfl
theorem c_2_66 : Jvm.Cond.code ({ cls := "RecordBridge$Store", name := "findValue", desc := "(J)LRecordBridge$Value;" } : Jvm.MethodName) prog_9_method_3_code (3 : Nat) (Option.some (Jvm.ClassFile.FieldType.object "RecordBridge$Value")) ∈ gTbl := tb2 66 rfl rfl
theorem c_2_67 : Jvm.Cond.methodLink "RecordBridge" (126 : Nat) ({ cls := "RecordBridge", name := "thingFault", desc := "(LRecordBridge$Row;I)I" } : Jvm.MethodName) ∈ gTbl := tb2 67 rfl rfl
theorem c_2_68 : Jvm.Cond.static ({ cls := "RecordBridge", name := "thingFault", desc := "(LRecordBridge$Row;I)I" } : Jvm.MethodName) ∈ gTbl := tb2 68 rfl rfl
theorem c_2_69 : Jvm.Cond.code ({ cls := "RecordBridge", name := "thingFault", desc := "(LRecordBridge$Row;I)I" } : Jvm.MethodName) prog_1_method_43_code (2 : Nat) (Option.some Jvm.ClassFile.FieldType.int) ∈ gTbl := tb2 69 rfl rfl
theorem c_2_70 : Jvm.Cond.methodLink "RecordBridgeLaw" (35 : Nat) ({ cls := "RecordBridge", name := "at", desc := "(II)I" } : Jvm.MethodName) ∈ gTbl := tb2 70 rfl rfl
theorem c_2_71 : Jvm.Cond.instanceMethod ({ cls := "RecordBridge", name := "at", desc := "(II)I" } : Jvm.MethodName) ∈ gTbl := tb2 71 rfl rfl
theorem c_2_72 : Jvm.Cond.selects "RecordBridge" ({ cls := "RecordBridge", name := "at", desc := "(II)I" } : Jvm.MethodName) ({ cls := "RecordBridge", name := "at", desc := "(II)I" } : Jvm.MethodName) ∈ gTbl := tb2 72 rfl rfl
theorem c_2_73 : Jvm.Cond.code ({ cls := "RecordBridge", name := "at", desc := "(II)I" } : Jvm.MethodName) prog_1_method_6_code (5 : Nat) (Option.some Jvm.ClassFile.FieldType.int) ∈ gTbl := tb2 73 rfl rfl
theorem c_2_74 : Jvm.Cond.methodLink "RecordBridge" (130 : Nat) ({ cls := "RecordBridge$Lanes", name := "tell", desc := "(IJ)J" } : Jvm.MethodName) ∈ gTbl := tb2 74 rfl rfl
theorem c_2_75 : Jvm.Cond.static ({ cls := "RecordBridge$Lanes", name := "tell", desc := "(IJ)J" } : Jvm.MethodName) ∈ gTbl := tb2 75 rfl rfl
theorem c_2_76 : Jvm.Cond.code ({ cls := "RecordBridge$Lanes", name := "tell", desc := "(IJ)J" } : Jvm.MethodName) prog_6_method_8_code (3 : Nat) (Option.some Jvm.ClassFile.FieldType.long) ∈ gTbl := tb2 76 rfl rfl
theorem c_2_77 : Jvm.Cond.constantLong "RecordBridge$Lanes" (27 : Nat) (-1 : Int64) ∈ gTbl := tb2 77 rfl rfl
theorem c_2_78 : Jvm.Cond.constantLong "RecordBridge$Lanes" (29 : Nat) (-5 : Int64) ∈ gTbl := tb2 78 rfl rfl
theorem c_2_79 : Jvm.Cond.methodLink "RecordBridgeLaw" (39 : Nat) ({ cls := "RecordBridge", name := "length", desc := "(II)I" } : Jvm.MethodName) ∈ gTbl := tb2 79 rfl rfl
theorem c_2_80 : Jvm.Cond.instanceMethod ({ cls := "RecordBridge", name := "length", desc := "(II)I" } : Jvm.MethodName) ∈ gTbl := tb2 80 rfl rfl
theorem c_2_81 : Jvm.Cond.selects "RecordBridge" ({ cls := "RecordBridge", name := "length", desc := "(II)I" } : Jvm.MethodName) ({ cls := "RecordBridge", name := "length", desc := "(II)I" } : Jvm.MethodName) ∈ gTbl := tb2 81 rfl rfl
theorem c_2_82 : Jvm.Cond.code ({ cls := "RecordBridge", name := "length", desc := "(II)I" } : Jvm.MethodName) prog_1_method_7_code (4 : Nat) (Option.some Jvm.ClassFile.FieldType.int) ∈ gTbl := tb2 82 rfl rfl
theorem c_2_83 : Jvm.Cond.methodLink "RecordBridge" (133 : Nat) ({ cls := "RecordBridge", name := "oneIf", desc := "(Z)I" } : Jvm.MethodName) ∈ gTbl := tb2 83 rfl rfl
theorem c_2_84 : Jvm.Cond.static ({ cls := "RecordBridge", name := "oneIf", desc := "(Z)I" } : Jvm.MethodName) ∈ gTbl := tb2 84 rfl rfl
theorem c_2_85 : Jvm.Cond.code ({ cls := "RecordBridge", name := "oneIf", desc := "(Z)I" } : Jvm.MethodName) prog_1_method_41_code (1 : Nat) (Option.some Jvm.ClassFile.FieldType.int) ∈ gTbl := tb2 85 rfl rfl
theorem c_2_86 : Jvm.Cond.methodLink "RecordBridgeLaw" (43 : Nat) ({ cls := "RecordBridge", name := "copy", desc := "(IIIII)I" } : Jvm.MethodName) ∈ gTbl := tb2 86 rfl rfl
theorem c_2_87 : Jvm.Cond.instanceMethod ({ cls := "RecordBridge", name := "copy", desc := "(IIIII)I" } : Jvm.MethodName) ∈ gTbl := tb2 87 rfl rfl
theorem c_2_88 : Jvm.Cond.selects "RecordBridge" ({ cls := "RecordBridge", name := "copy", desc := "(IIIII)I" } : Jvm.MethodName) ({ cls := "RecordBridge", name := "copy", desc := "(IIIII)I" } : Jvm.MethodName) ∈ gTbl := tb2 88 rfl rfl
theorem c_2_89 : Jvm.Cond.code ({ cls := "RecordBridge", name := "copy", desc := "(IIIII)I" } : Jvm.MethodName) prog_1_method_8_code (8 : Nat) (Option.some Jvm.ClassFile.FieldType.int) ∈ gTbl := tb2 89 rfl rfl
theorem c_2_90 : Jvm.Cond.methodLink "RecordBridge" (137 : Nat) ({ cls := "RecordBridge$Row", name := "hasRun", desc := "(II)Z" } : Jvm.MethodName) ∈ gTbl := tb2 90 rfl rfl
theorem c_2_91 : Jvm.Cond.instanceMethod ({ cls := "RecordBridge$Row", name := "hasRun", desc := "(II)Z" } : Jvm.MethodName) ∈ gTbl := tb2 91 rfl rfl
theorem c_2_92 : Jvm.Cond.selects "RecordBridge$Row" ({ cls := "RecordBridge$Row", name := "hasRun", desc := "(II)Z" } : Jvm.MethodName) ({ cls := "RecordBridge$Row", name := "hasRun", desc := "(II)Z" } : Jvm.MethodName) ∈ gTbl := tb2 92 rfl rfl
theorem c_2_93 : Jvm.Cond.code ({ cls := "RecordBridge$Row", name := "hasRun", desc := "(II)Z" } : Jvm.MethodName) prog_7_method_3_code (3 : Nat) (Option.some Jvm.ClassFile.FieldType.boolean) ∈ gTbl := tb2 93 rfl rfl
theorem c_2_94 : Jvm.Cond.methodLink "RecordBridge" (141 : Nat) ({ cls := "java/lang/System", name := "arraycopy", desc := "(Ljava/lang/Object;ILjava/lang/Object;II)V" } : Jvm.MethodName) ∈ gTbl := tb2 94 rfl rfl
theorem c_2_95 : Jvm.Cond.static ({ cls := "java/lang/System", name := "arraycopy", desc := "(Ljava/lang/Object;ILjava/lang/Object;II)V" } : Jvm.MethodName) ∈ gTbl := tb2 95 rfl rfl
theorem c_2_96 : Jvm.Cond.native ({ cls := "java/lang/System", name := "arraycopy", desc := "(Ljava/lang/Object;ILjava/lang/Object;II)V" } : Jvm.MethodName) ∈ gTbl := tb2 96 rfl rfl
theorem c_2_97 : Jvm.Cond.methodLink "RecordBridgeLaw" (48 : Nat) ({ cls := "RecordBridge", name := "twin", desc := "(I)I" } : Jvm.MethodName) ∈ gTbl := tb2 97 rfl rfl
theorem c_2_98 : Jvm.Cond.instanceMethod ({ cls := "RecordBridge", name := "twin", desc := "(I)I" } : Jvm.MethodName) ∈ gTbl := tb2 98 rfl rfl
theorem c_2_99 : Jvm.Cond.selects "RecordBridge" ({ cls := "RecordBridge", name := "twin", desc := "(I)I" } : Jvm.MethodName) ({ cls := "RecordBridge", name := "twin", desc := "(I)I" } : Jvm.MethodName) ∈ gTbl := tb2 99 rfl rfl
theorem c_2_100 : Jvm.Cond.code ({ cls := "RecordBridge", name := "twin", desc := "(I)I" } : Jvm.MethodName) prog_1_method_9_code (3 : Nat) (Option.some Jvm.ClassFile.FieldType.int) ∈ gTbl := tb2 100 rfl rfl
theorem c_2_101 : Jvm.Cond.methodLink "RecordBridge" (147 : Nat) ({ cls := "RecordBridge", name := "freeTwin", desc := "(LRecordBridge$Row;)I" } : Jvm.MethodName) ∈ gTbl := tb2 101 rfl rfl
theorem c_2_103 : Jvm.Cond.instanceMethod ({ cls := "RecordBridge", name := "freeTwin", desc := "(LRecordBridge$Row;)I" } : Jvm.MethodName) ∈ gTbl := tb2 103 rfl rfl
theorem c_2_104 : Jvm.Cond.code ({ cls := "RecordBridge", name := "freeTwin", desc := "(LRecordBridge$Row;)I" } : Jvm.MethodName) prog_1_method_44_code (2 : Nat) (Option.some Jvm.ClassFile.FieldType.int) ∈ gTbl := tb2 104 rfl rfl
theorem c_2_105 : Jvm.Cond.methodLink "RecordBridge" (347 : Nat) ({ cls := "RecordBridge$Store", name := "addTwin", desc := "(LRecordBridge$Row;Z)LRecordBridge$Row;" } : Jvm.MethodName) ∈ gTbl := tb2 105 rfl rfl
theorem c_2_106 : Jvm.Cond.instanceMethod ({ cls := "RecordBridge$Store", name := "addTwin", desc := "(LRecordBridge$Row;Z)LRecordBridge$Row;" } : Jvm.MethodName) ∈ gTbl := tb2 106 rfl rfl
theorem c_2_107 : Jvm.Cond.selects "RecordBridge$Store" ({ cls := "RecordBridge$Store", name := "addTwin", desc := "(LRecordBridge$Row;Z)LRecordBridge$Row;" } : Jvm.MethodName) ({ cls := "RecordBridge$Store", name := "addTwin", desc := "(LRecordBridge$Row;Z)LRecordBridge$Row;" } : Jvm.MethodName) ∈ gTbl := tb2 107 rfl rfl
theorem c_2_108 : Jvm.Cond.code ({ cls := "RecordBridge$Store", name := "addTwin", desc := "(LRecordBridge$Row;Z)LRecordBridge$Row;" } : Jvm.MethodName) prog_9_method_7_code (4 : Nat) (Option.some (Jvm.ClassFile.FieldType.object "RecordBridge$Row")) ∈ gTbl := tb2 108 rfl rfl
theorem c_2_109 : Jvm.Cond.methodLink "RecordBridge$Store" (44 : Nat) ({ cls := "RecordBridge$Store", name := "addRow", desc := "(IIZ)LRecordBridge$Row;" } : Jvm.MethodName) ∈ gTbl := tb2 109 rfl rfl
theorem c_2_110 : Jvm.Cond.methodLink "RecordBridge$Store" (48 : Nat) ({ cls := "java/lang/System", name := "arraycopy", desc := "(Ljava/lang/Object;ILjava/lang/Object;II)V" } : Jvm.MethodName) ∈ gTbl := tb2 110 rfl rfl
theorem c_2_111 : Jvm.Cond.methodLink "RecordBridgeLaw" (53 : Nat) ({ cls := "RecordBridge", name := "record", desc := "(I)I" } : Jvm.MethodName) ∈ gTbl := tb2 111 rfl rfl
theorem c_2_112 : Jvm.Cond.instanceMethod ({ cls := "RecordBridge", name := "record", desc := "(I)I" } : Jvm.MethodName) ∈ gTbl := tb2 112 rfl rfl
theorem c_2_113 : Jvm.Cond.selects "RecordBridge" ({ cls := "RecordBridge", name := "record", desc := "(I)I" } : Jvm.MethodName) ({ cls := "RecordBridge", name := "record", desc := "(I)I" } : Jvm.MethodName) ∈ gTbl := tb2 113 rfl rfl
theorem c_2_114 : Jvm.Cond.code ({ cls := "RecordBridge", name := "record", desc := "(I)I" } : Jvm.MethodName) prog_1_method_10_code (2 : Nat) (Option.some Jvm.ClassFile.FieldType.int) ∈ gTbl := tb2 114 rfl rfl
theorem c_2_115 : Jvm.Cond.methodLink "RecordBridge" (151 : Nat) ({ cls := "RecordBridge", name := "newKind", desc := "(ZI)I" } : Jvm.MethodName) ∈ gTbl := tb2 115 rfl rfl
theorem c_2_117 : Jvm.Cond.instanceMethod ({ cls := "RecordBridge", name := "newKind", desc := "(ZI)I" } : Jvm.MethodName) ∈ gTbl := tb2 117 rfl rfl
theorem c_2_118 : Jvm.Cond.code ({ cls := "RecordBridge", name := "newKind", desc := "(ZI)I" } : Jvm.MethodName) prog_1_method_46_code (3 : Nat) (Option.some Jvm.ClassFile.FieldType.int) ∈ gTbl := tb2 118 rfl rfl
theorem c_2_119 : Jvm.Cond.instantiable "RecordBridge$Kind" (7 : Nat) ∈ gTbl := tb2 119 rfl rfl
theorem c_2_120 : Jvm.Cond.methodLink "RecordBridge" (351 : Nat) ({ cls := "RecordBridge$Kind", name := "<init>", desc := "(IZI)V" } : Jvm.MethodName) ∈ gTbl := tb2 120 rfl rfl
theorem c_2_121 : Jvm.Cond.instanceMethod ({ cls := "RecordBridge$Kind", name := "<init>", desc := "(IZI)V" } : Jvm.MethodName) ∈ gTbl := tb2 121 rfl rfl
theorem c_2_122 : Jvm.Cond.code ({ cls := "RecordBridge$Kind", name := "<init>", desc := "(IZI)V" } : Jvm.MethodName) prog_5_method_1_code (4 : Nat) (Option.none : Option Jvm.ClassFile.FieldType) ∈ gTbl := tb2 122 rfl rfl
theorem c_2_123 : Jvm.Cond.methodLink "RecordBridge$Kind" (3 : Nat) ({ cls := "java/lang/Object", name := "<init>", desc := "()V" } : Jvm.MethodName) ∈ gTbl := tb2 123 rfl rfl
theorem c_2_124 : Jvm.Cond.classLink "RecordBridge$Kind" (22 : Nat) "RecordBridge$Edition" ∈ gTbl := tb2 124 rfl rfl
theorem c_2_126 : Jvm.Cond.instantiable "RecordBridge$Edition" (5 : Nat) ∈ gTbl := tb2 126 rfl rfl
theorem c_2_127 : Jvm.Cond.methodLink "RecordBridge$Kind" (28 : Nat) ({ cls := "RecordBridge$Edition", name := "<init>", desc := "(II)V" } : Jvm.MethodName) ∈ gTbl := tb2 127 rfl rfl
theorem c_2_128 : Jvm.Cond.instanceMethod ({ cls := "RecordBridge$Edition", name := "<init>", desc := "(II)V" } : Jvm.MethodName) ∈ gTbl := tb2 128 rfl rfl
theorem c_2_129 : Jvm.Cond.code ({ cls := "RecordBridge$Edition", name := "<init>", desc := "(II)V" } : Jvm.MethodName) prog_4_method_1_code (3 : Nat) (Option.none : Option Jvm.ClassFile.FieldType) ∈ gTbl := tb2 129 rfl rfl
theorem c_2_130 : Jvm.Cond.methodLink "RecordBridge$Edition" (3 : Nat) ({ cls := "java/lang/Object", name := "<init>", desc := "()V" } : Jvm.MethodName) ∈ gTbl := tb2 130 rfl rfl
theorem c_2_131 : Jvm.Cond.fieldLink "RecordBridge$Edition" (9 : Nat) "RecordBridge$Edition" "number" "I" ∈ gTbl := tb2 131 rfl rfl
theorem c_2_132 : Jvm.Cond.fieldLink "RecordBridge$Comparer" (37 : Nat) "RecordBridge$Edition" "number" "I" ∈ gTbl := tb2 132 rfl rfl
theorem c_2_133 : Jvm.Cond.fieldLink "RecordBridge" (210 : Nat) "RecordBridge$Edition" "number" "I" ∈ gTbl := tb2 133 rfl rfl
theorem c_2_134 : Jvm.Cond.fieldLink "RecordBridge$Edition" (15 : Nat) "RecordBridge$Edition" "labels" "[I" ∈ gTbl := tb2 134 rfl rfl
theorem c_2_135 : Jvm.Cond.fieldLink "RecordBridge$Draft" (45 : Nat) "RecordBridge$Edition" "labels" "[I" ∈ gTbl := tb2 135 rfl rfl
theorem c_2_136 : Jvm.Cond.fieldLink "RecordBridge$Scribe" (71 : Nat) "RecordBridge$Edition" "labels" "[I" ∈ gTbl := tb2 136 rfl rfl
theorem c_2_137 : Jvm.Cond.fieldLink "RecordBridge" (369 : Nat) "RecordBridge$Edition" "labels" "[I" ∈ gTbl := tb2 137 rfl rfl
theorem c_2_138 : Jvm.Cond.fieldLink "RecordBridge$Edition" (19 : Nat) "RecordBridge$Edition" "lanes" "[I" ∈ gTbl := tb2 138 rfl rfl
theorem c_2_139 : Jvm.Cond.fieldLink "RecordBridge$Draft" (25 : Nat) "RecordBridge$Edition" "lanes" "[I" ∈ gTbl := tb2 139 rfl rfl
theorem c_2_140 : Jvm.Cond.fieldLink "RecordBridge$Value" (46 : Nat) "RecordBridge$Edition" "lanes" "[I" ∈ gTbl := tb2 140 rfl rfl
theorem c_2_141 : Jvm.Cond.fieldLink "RecordBridge$Comparer" (55 : Nat) "RecordBridge$Edition" "lanes" "[I" ∈ gTbl := tb2 141 rfl rfl
theorem c_2_142 : Jvm.Cond.fieldLink "RecordBridge$Scribe" (77 : Nat) "RecordBridge$Edition" "lanes" "[I" ∈ gTbl := tb2 142 rfl rfl
theorem c_2_143 : Jvm.Cond.fieldLink "RecordBridge" (281 : Nat) "RecordBridge$Edition" "lanes" "[I" ∈ gTbl := tb2 143 rfl rfl
theorem c_2_144 : Jvm.Cond.fieldLink "RecordBridge$Edition" (22 : Nat) "RecordBridge$Edition" "members" "[I" ∈ gTbl := tb2 144 rfl rfl
theorem c_2_145 : Jvm.Cond.fieldLink "RecordBridge" (249 : Nat) "RecordBridge$Edition" "members" "[I" ∈ gTbl := tb2 145 rfl rfl
theorem c_2_146 : Jvm.Cond.fieldLink "RecordBridge$Draft" (19 : Nat) "RecordBridge$Edition" "count" "I" ∈ gTbl := tb2 146 rfl rfl
theorem c_2_147 : Jvm.Cond.fieldLink "RecordBridge$Edition" (30 : Nat) "RecordBridge$Edition" "count" "I" ∈ gTbl := tb2 147 rfl rfl
theorem c_2_148 : Jvm.Cond.fieldLink "RecordBridge" (185 : Nat) "RecordBridge$Edition" "count" "I" ∈ gTbl := tb2 148 rfl rfl
theorem c_2_160 : Jvm.Cond.fieldLink "RecordBridge$Kind" (9 : Nat) "RecordBridge$Kind" "number" "I" ∈ gTbl := tb2 160 rfl rfl
theorem c_2_161 : Jvm.Cond.fieldLink "RecordBridge$Comparer" (23 : Nat) "RecordBridge$Kind" "number" "I" ∈ gTbl := tb2 161 rfl rfl
theorem c_2_162 : Jvm.Cond.fieldLink "RecordBridge$Scribe" (60 : Nat) "RecordBridge$Kind" "number" "I" ∈ gTbl := tb2 162 rfl rfl
theorem c_2_163 : Jvm.Cond.fieldLink "RecordBridge" (268 : Nat) "RecordBridge$Kind" "number" "I" ∈ gTbl := tb2 163 rfl rfl
theorem c_2_164 : Jvm.Cond.fieldLink "RecordBridge$Kind" (15 : Nat) "RecordBridge$Kind" "isConstants" "Z" ∈ gTbl := tb2 164 rfl rfl
theorem c_2_165 : Jvm.Cond.fieldLink "RecordBridge$Comparer" (40 : Nat) "RecordBridge$Kind" "isConstants" "Z" ∈ gTbl := tb2 165 rfl rfl
theorem c_2_166 : Jvm.Cond.fieldLink "RecordBridge$Scribe" (44 : Nat) "RecordBridge$Kind" "isConstants" "Z" ∈ gTbl := tb2 166 rfl rfl
theorem c_2_167 : Jvm.Cond.fieldLink "RecordBridge" (192 : Nat) "RecordBridge$Kind" "isConstants" "Z" ∈ gTbl := tb2 167 rfl rfl
theorem c_2_168 : Jvm.Cond.fieldLink "RecordBridge$Kind" (19 : Nat) "RecordBridge$Kind" "trait" "I" ∈ gTbl := tb2 168 rfl rfl
theorem c_2_169 : Jvm.Cond.fieldLink "RecordBridge" (378 : Nat) "RecordBridge$Kind" "trait" "I" ∈ gTbl := tb2 169 rfl rfl
theorem c_2_170 : Jvm.Cond.fieldLink "RecordBridge$Kind" (24 : Nat) "RecordBridge$Kind" "editions" "[LRecordBridge$Edition;" ∈ gTbl := tb2 170 rfl rfl
theorem c_2_171 : Jvm.Cond.fieldLink "RecordBridge$Kind" (31 : Nat) "RecordBridge$Kind" "editionCount" "I" ∈ gTbl := tb2 171 rfl rfl
theorem c_2_172 : Jvm.Cond.fieldLink "RecordBridge" (169 : Nat) "RecordBridge$Kind" "isStarted" "Z" ∈ gTbl := tb2 172 rfl rfl
theorem c_2_173 : Jvm.Cond.fieldLink "RecordBridge$Value" (27 : Nat) "RecordBridge$Kind" "made" "I" ∈ gTbl := tb2 173 rfl rfl
theorem c_2_174 : Jvm.Cond.fieldLink "RecordBridge$Store" (58 : Nat) "RecordBridge$Kind" "made" "I" ∈ gTbl := tb2 174 rfl rfl
theorem c_2_175 : Jvm.Cond.fieldLink "RecordBridge" (217 : Nat) "RecordBridge$Kind" "made" "I" ∈ gTbl := tb2 175 rfl rfl
theorem c_2_191 : Jvm.Cond.methodLink "RecordBridgeLaw" (57 : Nat) ({ cls := "RecordBridge", name := "constants", desc := "(I)I" } : Jvm.MethodName) ∈ gTbl := tb2 191 rfl rfl
theorem c_2_192 : Jvm.Cond.instanceMethod ({ cls := "RecordBridge", name := "constants", desc := "(I)I" } : Jvm.MethodName) ∈ gTbl := tb2 192 rfl rfl
theorem c_2_193 : Jvm.Cond.selects "RecordBridge" ({ cls := "RecordBridge", name := "constants", desc := "(I)I" } : Jvm.MethodName) ({ cls := "RecordBridge", name := "constants", desc := "(I)I" } : Jvm.MethodName) ∈ gTbl := tb2 193 rfl rfl
theorem c_2_194 : Jvm.Cond.code ({ cls := "RecordBridge", name := "constants", desc := "(I)I" } : Jvm.MethodName) prog_1_method_11_code (2 : Nat) (Option.some Jvm.ClassFile.FieldType.int) ∈ gTbl := tb2 194 rfl rfl
theorem c_2_195 : Jvm.Cond.methodLink "RecordBridgeLaw" (61 : Nat) ({ cls := "RecordBridge", name := "more", desc := "(III)I" } : Jvm.MethodName) ∈ gTbl := tb2 195 rfl rfl
theorem c_2_196 : Jvm.Cond.instanceMethod ({ cls := "RecordBridge", name := "more", desc := "(III)I" } : Jvm.MethodName) ∈ gTbl := tb2 196 rfl rfl
theorem c_2_197 : Jvm.Cond.selects "RecordBridge" ({ cls := "RecordBridge", name := "more", desc := "(III)I" } : Jvm.MethodName) ({ cls := "RecordBridge", name := "more", desc := "(III)I" } : Jvm.MethodName) ∈ gTbl := tb2 197 rfl rfl
theorem c_2_198 : Jvm.Cond.code ({ cls := "RecordBridge", name := "more", desc := "(III)I" } : Jvm.MethodName) prog_1_method_12_code (6 : Nat) (Option.some Jvm.ClassFile.FieldType.int) ∈ gTbl := tb2 198 rfl rfl
theorem c_2_199 : Jvm.Cond.methodLink "RecordBridge" (155 : Nat) ({ cls := "RecordBridge", name := "findKind", desc := "(I)LRecordBridge$Kind;" } : Jvm.MethodName) ∈ gTbl := tb2 199 rfl rfl
theorem c_2_201 : Jvm.Cond.instanceMethod ({ cls := "RecordBridge", name := "findKind", desc := "(I)LRecordBridge$Kind;" } : Jvm.MethodName) ∈ gTbl := tb2 201 rfl rfl
theorem c_2_202 : Jvm.Cond.code ({ cls := "RecordBridge", name := "findKind", desc := "(I)LRecordBridge$Kind;" } : Jvm.MethodName) prog_1_method_45_code (2 : Nat) (Option.some (Jvm.ClassFile.FieldType.object "RecordBridge$Kind")) ∈ gTbl := tb2 202 rfl rfl
theorem c_2_203 : Jvm.Cond.methodLink "RecordBridge" (159 : Nat) ({ cls := "RecordBridge", name := "isLabel", desc := "(I)Z" } : Jvm.MethodName) ∈ gTbl := tb2 203 rfl rfl
theorem c_2_204 : Jvm.Cond.static ({ cls := "RecordBridge", name := "isLabel", desc := "(I)Z" } : Jvm.MethodName) ∈ gTbl := tb2 204 rfl rfl
theorem c_2_205 : Jvm.Cond.code ({ cls := "RecordBridge", name := "isLabel", desc := "(I)Z" } : Jvm.MethodName) prog_1_method_39_code (1 : Nat) (Option.some Jvm.ClassFile.FieldType.boolean) ∈ gTbl := tb2 205 rfl rfl
theorem c_2_206 : Jvm.Cond.methodLink "RecordBridge" (162 : Nat) ({ cls := "RecordBridge$Kind", name := "takesLane", desc := "(I)Z" } : Jvm.MethodName) ∈ gTbl := tb2 206 rfl rfl
theorem c_2_207 : Jvm.Cond.instanceMethod ({ cls := "RecordBridge$Kind", name := "takesLane", desc := "(I)Z" } : Jvm.MethodName) ∈ gTbl := tb2 207 rfl rfl
theorem c_2_208 : Jvm.Cond.selects "RecordBridge$Kind" ({ cls := "RecordBridge$Kind", name := "takesLane", desc := "(I)Z" } : Jvm.MethodName) ({ cls := "RecordBridge$Kind", name := "takesLane", desc := "(I)Z" } : Jvm.MethodName) ∈ gTbl := tb2 208 rfl rfl
theorem c_2_209 : Jvm.Cond.code ({ cls := "RecordBridge$Kind", name := "takesLane", desc := "(I)Z" } : Jvm.MethodName) prog_5_method_3_code (2 : Nat) (Option.some Jvm.ClassFile.FieldType.boolean) ∈ gTbl := tb2 209 rfl rfl
theorem c_2_210 : Jvm.Cond.methodLink "RecordBridge$Kind" (34 : Nat) ({ cls := "RecordBridge$Lanes", name := "isLane", desc := "(I)Z" } : Jvm.MethodName) ∈ gTbl := tb2 210 rfl rfl
theorem c_2_211 : Jvm.Cond.static ({ cls := "RecordBridge$Lanes", name := "isLane", desc := "(I)Z" } : Jvm.MethodName) ∈ gTbl := tb2 211 rfl rfl
theorem c_2_212 : Jvm.Cond.code ({ cls := "RecordBridge$Lanes", name := "isLane", desc := "(I)Z" } : Jvm.MethodName) prog_6_method_3_code (1 : Nat) (Option.some Jvm.ClassFile.FieldType.boolean) ∈ gTbl := tb2 212 rfl rfl
theorem c_2_213 : Jvm.Cond.methodLink "RecordBridge" (165 : Nat) ({ cls := "RecordBridge$Kind", name := "newest", desc := "()LRecordBridge$Edition;" } : Jvm.MethodName) ∈ gTbl := tb2 213 rfl rfl
theorem c_2_214 : Jvm.Cond.instanceMethod ({ cls := "RecordBridge$Kind", name := "newest", desc := "()LRecordBridge$Edition;" } : Jvm.MethodName) ∈ gTbl := tb2 214 rfl rfl
theorem c_2_215 : Jvm.Cond.selects "RecordBridge$Kind" ({ cls := "RecordBridge$Kind", name := "newest", desc := "()LRecordBridge$Edition;" } : Jvm.MethodName) ({ cls := "RecordBridge$Kind", name := "newest", desc := "()LRecordBridge$Edition;" } : Jvm.MethodName) ∈ gTbl := tb2 215 rfl rfl
theorem c_2_216 : Jvm.Cond.code ({ cls := "RecordBridge$Kind", name := "newest", desc := "()LRecordBridge$Edition;" } : Jvm.MethodName) prog_5_method_2_code (1 : Nat) (Option.some (Jvm.ClassFile.FieldType.object "RecordBridge$Edition")) ∈ gTbl := tb2 216 rfl rfl
theorem c_2_217 : Jvm.Cond.methodLink "RecordBridge" (172 : Nat) ({ cls := "RecordBridge$Edition", name := "find", desc := "(I)I" } : Jvm.MethodName) ∈ gTbl := tb2 217 rfl rfl
theorem c_2_218 : Jvm.Cond.instanceMethod ({ cls := "RecordBridge$Edition", name := "find", desc := "(I)I" } : Jvm.MethodName) ∈ gTbl := tb2 218 rfl rfl
theorem c_2_219 : Jvm.Cond.selects "RecordBridge$Edition" ({ cls := "RecordBridge$Edition", name := "find", desc := "(I)I" } : Jvm.MethodName) ({ cls := "RecordBridge$Edition", name := "find", desc := "(I)I" } : Jvm.MethodName) ∈ gTbl := tb2 219 rfl rfl
theorem c_2_220 : Jvm.Cond.code ({ cls := "RecordBridge$Edition", name := "find", desc := "(I)I" } : Jvm.MethodName) prog_4_method_4_code (3 : Nat) (Option.some Jvm.ClassFile.FieldType.int) ∈ gTbl := tb2 220 rfl rfl
theorem c_2_221 : Jvm.Cond.methodLink "RecordBridge" (177 : Nat) ({ cls := "RecordBridge$Edition", name := "isFull", desc := "()Z" } : Jvm.MethodName) ∈ gTbl := tb2 221 rfl rfl
theorem c_2_222 : Jvm.Cond.instanceMethod ({ cls := "RecordBridge$Edition", name := "isFull", desc := "()Z" } : Jvm.MethodName) ∈ gTbl := tb2 222 rfl rfl
theorem c_2_223 : Jvm.Cond.selects "RecordBridge$Edition" ({ cls := "RecordBridge$Edition", name := "isFull", desc := "()Z" } : Jvm.MethodName) ({ cls := "RecordBridge$Edition", name := "isFull", desc := "()Z" } : Jvm.MethodName) ∈ gTbl := tb2 223 rfl rfl
theorem c_2_224 : Jvm.Cond.code ({ cls := "RecordBridge$Edition", name := "isFull", desc := "()Z" } : Jvm.MethodName) prog_4_method_3_code (1 : Nat) (Option.some Jvm.ClassFile.FieldType.boolean) ∈ gTbl := tb2 224 rfl rfl
theorem c_2_225 : Jvm.Cond.methodLink "RecordBridge" (181 : Nat) ({ cls := "RecordBridge$Edition", name := "add", desc := "(II)V" } : Jvm.MethodName) ∈ gTbl := tb2 225 rfl rfl
theorem c_2_226 : Jvm.Cond.instanceMethod ({ cls := "RecordBridge$Edition", name := "add", desc := "(II)V" } : Jvm.MethodName) ∈ gTbl := tb2 226 rfl rfl
theorem c_2_227 : Jvm.Cond.selects "RecordBridge$Edition" ({ cls := "RecordBridge$Edition", name := "add", desc := "(II)V" } : Jvm.MethodName) ({ cls := "RecordBridge$Edition", name := "add", desc := "(II)V" } : Jvm.MethodName) ∈ gTbl := tb2 227 rfl rfl
theorem c_2_228 : Jvm.Cond.code ({ cls := "RecordBridge$Edition", name := "add", desc := "(II)V" } : Jvm.MethodName) prog_4_method_5_code (3 : Nat) (Option.none : Option Jvm.ClassFile.FieldType) ∈ gTbl := tb2 228 rfl rfl
theorem c_2_229 : Jvm.Cond.methodLink "RecordBridge$Edition" (33 : Nat) ({ cls := "RecordBridge$Edition", name := "isFull", desc := "()Z" } : Jvm.MethodName) ∈ gTbl := tb2 229 rfl rfl
theorem c_2_230 : Jvm.Cond.methodLink "RecordBridgeLaw" (65 : Nat) ({ cls := "RecordBridge", name := "edition", desc := "(IIII)I" } : Jvm.MethodName) ∈ gTbl := tb2 230 rfl rfl
theorem c_2_231 : Jvm.Cond.instanceMethod ({ cls := "RecordBridge", name := "edition", desc := "(IIII)I" } : Jvm.MethodName) ∈ gTbl := tb2 231 rfl rfl
theorem c_2_232 : Jvm.Cond.selects "RecordBridge" ({ cls := "RecordBridge", name := "edition", desc := "(IIII)I" } : Jvm.MethodName) ({ cls := "RecordBridge", name := "edition", desc := "(IIII)I" } : Jvm.MethodName) ∈ gTbl := tb2 232 rfl rfl
theorem c_2_233 : Jvm.Cond.code ({ cls := "RecordBridge", name := "edition", desc := "(IIII)I" } : Jvm.MethodName) prog_1_method_13_code (8 : Nat) (Option.some Jvm.ClassFile.FieldType.int) ∈ gTbl := tb2 233 rfl rfl
theorem c_2_234 : Jvm.Cond.methodLink "RecordBridge" (188 : Nat) ({ cls := "RecordBridge", name := "isChange", desc := "(LRecordBridge$Kind;III)Z" } : Jvm.MethodName) ∈ gTbl := tb2 234 rfl rfl
theorem c_2_235 : Jvm.Cond.static ({ cls := "RecordBridge", name := "isChange", desc := "(LRecordBridge$Kind;III)Z" } : Jvm.MethodName) ∈ gTbl := tb2 235 rfl rfl
theorem c_2_236 : Jvm.Cond.code ({ cls := "RecordBridge", name := "isChange", desc := "(LRecordBridge$Kind;III)Z" } : Jvm.MethodName) prog_1_method_47_code (6 : Nat) (Option.some Jvm.ClassFile.FieldType.boolean) ∈ gTbl := tb2 236 rfl rfl
theorem c_2_237 : Jvm.Cond.methodLink "RecordBridge" (195 : Nat) ({ cls := "RecordBridge", name := "hasRoomForChange", desc := "(LRecordBridge$Kind;I)Z" } : Jvm.MethodName) ∈ gTbl := tb2 237 rfl rfl
theorem c_2_239 : Jvm.Cond.instanceMethod ({ cls := "RecordBridge", name := "hasRoomForChange", desc := "(LRecordBridge$Kind;I)Z" } : Jvm.MethodName) ∈ gTbl := tb2 239 rfl rfl
theorem c_3_0 : Jvm.Cond.code ({ cls := "RecordBridge", name := "hasRoomForChange", desc := "(LRecordBridge$Kind;I)Z" } : Jvm.MethodName) prog_1_method_48_code (3 : Nat) (Option.some Jvm.ClassFile.FieldType.boolean) ∈ gTbl := tb3 0 rfl rfl
theorem c_3_1 : Jvm.Cond.methodLink "RecordBridge" (354 : Nat) ({ cls := "RecordBridge$Kind", name := "hasRoomForEdition", desc := "()Z" } : Jvm.MethodName) ∈ gTbl := tb3 1 rfl rfl
theorem c_3_2 : Jvm.Cond.instanceMethod ({ cls := "RecordBridge$Kind", name := "hasRoomForEdition", desc := "()Z" } : Jvm.MethodName) ∈ gTbl := tb3 2 rfl rfl
theorem c_3_3 : Jvm.Cond.selects "RecordBridge$Kind" ({ cls := "RecordBridge$Kind", name := "hasRoomForEdition", desc := "()Z" } : Jvm.MethodName) ({ cls := "RecordBridge$Kind", name := "hasRoomForEdition", desc := "()Z" } : Jvm.MethodName) ∈ gTbl := tb3 3 rfl rfl
theorem c_3_4 : Jvm.Cond.code ({ cls := "RecordBridge$Kind", name := "hasRoomForEdition", desc := "()Z" } : Jvm.MethodName) prog_5_method_4_code (1 : Nat) (Option.some Jvm.ClassFile.FieldType.boolean) ∈ gTbl := tb3 4 rfl rfl
theorem c_3_5 : Jvm.Cond.methodLink "RecordBridge" (231 : Nat) ({ cls := "RecordBridge$Store", name := "hasRoomForValues", desc := "(I)Z" } : Jvm.MethodName) ∈ gTbl := tb3 5 rfl rfl
theorem c_3_6 : Jvm.Cond.instanceMethod ({ cls := "RecordBridge$Store", name := "hasRoomForValues", desc := "(I)Z" } : Jvm.MethodName) ∈ gTbl := tb3 6 rfl rfl
theorem c_3_7 : Jvm.Cond.selects "RecordBridge$Store" ({ cls := "RecordBridge$Store", name := "hasRoomForValues", desc := "(I)Z" } : Jvm.MethodName) ({ cls := "RecordBridge$Store", name := "hasRoomForValues", desc := "(I)Z" } : Jvm.MethodName) ∈ gTbl := tb3 7 rfl rfl
theorem c_3_8 : Jvm.Cond.code ({ cls := "RecordBridge$Store", name := "hasRoomForValues", desc := "(I)Z" } : Jvm.MethodName) prog_9_method_5_code (2 : Nat) (Option.some Jvm.ClassFile.FieldType.boolean) ∈ gTbl := tb3 8 rfl rfl
theorem c_3_9 : Jvm.Cond.methodLink "RecordBridge" (199 : Nat) ({ cls := "RecordBridge$Kind", name := "addEdition", desc := "()LRecordBridge$Edition;" } : Jvm.MethodName) ∈ gTbl := tb3 9 rfl rfl
theorem c_3_10 : Jvm.Cond.instanceMethod ({ cls := "RecordBridge$Kind", name := "addEdition", desc := "()LRecordBridge$Edition;" } : Jvm.MethodName) ∈ gTbl := tb3 10 rfl rfl
theorem c_3_11 : Jvm.Cond.selects "RecordBridge$Kind" ({ cls := "RecordBridge$Kind", name := "addEdition", desc := "()LRecordBridge$Edition;" } : Jvm.MethodName) ({ cls := "RecordBridge$Kind", name := "addEdition", desc := "()LRecordBridge$Edition;" } : Jvm.MethodName) ∈ gTbl := tb3 11 rfl rfl
theorem c_3_12 : Jvm.Cond.code ({ cls := "RecordBridge$Kind", name := "addEdition", desc := "()LRecordBridge$Edition;" } : Jvm.MethodName) prog_5_method_5_code (1 : Nat) (Option.some (Jvm.ClassFile.FieldType.object "RecordBridge$Edition")) ∈ gTbl := tb3 12 rfl rfl
theorem c_3_13 : Jvm.Cond.methodLink "RecordBridge$Kind" (40 : Nat) ({ cls := "RecordBridge$Kind", name := "hasRoomForEdition", desc := "()Z" } : Jvm.MethodName) ∈ gTbl := tb3 13 rfl rfl
theorem c_3_14 : Jvm.Cond.methodLink "RecordBridge$Kind" (44 : Nat) ({ cls := "RecordBridge$Kind", name := "newest", desc := "()LRecordBridge$Edition;" } : Jvm.MethodName) ∈ gTbl := tb3 14 rfl rfl
theorem c_3_15 : Jvm.Cond.methodLink "RecordBridge$Kind" (48 : Nat) ({ cls := "RecordBridge$Edition", name := "<init>", desc := "(ILRecordBridge$Edition;)V" } : Jvm.MethodName) ∈ gTbl := tb3 15 rfl rfl
theorem c_3_16 : Jvm.Cond.instanceMethod ({ cls := "RecordBridge$Edition", name := "<init>", desc := "(ILRecordBridge$Edition;)V" } : Jvm.MethodName) ∈ gTbl := tb3 16 rfl rfl
theorem c_3_17 : Jvm.Cond.code ({ cls := "RecordBridge$Edition", name := "<init>", desc := "(ILRecordBridge$Edition;)V" } : Jvm.MethodName) prog_4_method_2_code (3 : Nat) (Option.none : Option Jvm.ClassFile.FieldType) ∈ gTbl := tb3 17 rfl rfl
theorem c_3_18 : Jvm.Cond.methodLink "RecordBridge$Edition" (25 : Nat) ({ cls := "[I", name := "clone", desc := "()Ljava/lang/Object;" } : Jvm.MethodName) ∈ gTbl := tb3 18 rfl rfl
theorem c_3_19 : Jvm.Cond.sameMethod "[I" "java/lang/Object" "clone" "()Ljava/lang/Object;" ∈ gTbl := tb3 19 rfl rfl
theorem c_3_20 : Jvm.Cond.native ({ cls := "java/lang/Object", name := "clone", desc := "()Ljava/lang/Object;" } : Jvm.MethodName) ∈ gTbl := tb3 20 rfl rfl
theorem c_3_21 : Jvm.Cond.instanceMethod ({ cls := "java/lang/Object", name := "clone", desc := "()Ljava/lang/Object;" } : Jvm.MethodName) ∈ gTbl := tb3 21 rfl rfl
theorem c_3_22 : Jvm.Cond.selects "[I" ({ cls := "[I", name := "clone", desc := "()Ljava/lang/Object;" } : Jvm.MethodName) ({ cls := "java/lang/Object", name := "clone", desc := "()Ljava/lang/Object;" } : Jvm.MethodName) ∈ gTbl := tb3 22 rfl rfl
theorem c_3_24 : Jvm.Cond.classLink "RecordBridge$Edition" (26 : Nat) "[I" ∈ gTbl := tb3 24 rfl rfl
theorem c_3_25 : Jvm.Cond.methodLink "RecordBridge" (202 : Nat) ({ cls := "RecordBridge", name := "change", desc := "(LRecordBridge$Edition;III)V" } : Jvm.MethodName) ∈ gTbl := tb3 25 rfl rfl
theorem c_3_26 : Jvm.Cond.static ({ cls := "RecordBridge", name := "change", desc := "(LRecordBridge$Edition;III)V" } : Jvm.MethodName) ∈ gTbl := tb3 26 rfl rfl
theorem c_3_27 : Jvm.Cond.code ({ cls := "RecordBridge", name := "change", desc := "(LRecordBridge$Edition;III)V" } : Jvm.MethodName) prog_1_method_49_code (5 : Nat) (Option.none : Option Jvm.ClassFile.FieldType) ∈ gTbl := tb3 27 rfl rfl
theorem c_3_28 : Jvm.Cond.methodLink "RecordBridge" (357 : Nat) ({ cls := "RecordBridge$Edition", name := "drop", desc := "(I)V" } : Jvm.MethodName) ∈ gTbl := tb3 28 rfl rfl
theorem c_3_29 : Jvm.Cond.instanceMethod ({ cls := "RecordBridge$Edition", name := "drop", desc := "(I)V" } : Jvm.MethodName) ∈ gTbl := tb3 29 rfl rfl
theorem c_3_30 : Jvm.Cond.selects "RecordBridge$Edition" ({ cls := "RecordBridge$Edition", name := "drop", desc := "(I)V" } : Jvm.MethodName) ({ cls := "RecordBridge$Edition", name := "drop", desc := "(I)V" } : Jvm.MethodName) ∈ gTbl := tb3 30 rfl rfl
theorem c_3_31 : Jvm.Cond.code ({ cls := "RecordBridge$Edition", name := "drop", desc := "(I)V" } : Jvm.MethodName) prog_4_method_6_code (3 : Nat) (Option.none : Option Jvm.ClassFile.FieldType) ∈ gTbl := tb3 31 rfl rfl
theorem c_3_32 : Jvm.Cond.methodLink "RecordBridge$Edition" (37 : Nat) ({ cls := "RecordBridge$Edition", name := "exchange", desc := "(II)V" } : Jvm.MethodName) ∈ gTbl := tb3 32 rfl rfl
theorem c_3_34 : Jvm.Cond.instanceMethod ({ cls := "RecordBridge$Edition", name := "exchange", desc := "(II)V" } : Jvm.MethodName) ∈ gTbl := tb3 34 rfl rfl
theorem c_3_35 : Jvm.Cond.code ({ cls := "RecordBridge$Edition", name := "exchange", desc := "(II)V" } : Jvm.MethodName) prog_4_method_9_code (6 : Nat) (Option.none : Option Jvm.ClassFile.FieldType) ∈ gTbl := tb3 35 rfl rfl
theorem c_3_36 : Jvm.Cond.methodLink "RecordBridge" (360 : Nat) ({ cls := "RecordBridge$Edition", name := "changeLane", desc := "(II)V" } : Jvm.MethodName) ∈ gTbl := tb3 36 rfl rfl
theorem c_3_37 : Jvm.Cond.instanceMethod ({ cls := "RecordBridge$Edition", name := "changeLane", desc := "(II)V" } : Jvm.MethodName) ∈ gTbl := tb3 37 rfl rfl
theorem c_3_38 : Jvm.Cond.selects "RecordBridge$Edition" ({ cls := "RecordBridge$Edition", name := "changeLane", desc := "(II)V" } : Jvm.MethodName) ({ cls := "RecordBridge$Edition", name := "changeLane", desc := "(II)V" } : Jvm.MethodName) ∈ gTbl := tb3 38 rfl rfl
theorem c_3_39 : Jvm.Cond.code ({ cls := "RecordBridge$Edition", name := "changeLane", desc := "(II)V" } : Jvm.MethodName) prog_4_method_7_code (3 : Nat) (Option.none : Option Jvm.ClassFile.FieldType) ∈ gTbl := tb3 39 rfl rfl
theorem c_3_40 : Jvm.Cond.methodLink "RecordBridge" (363 : Nat) ({ cls := "RecordBridge$Edition", name := "reverse", desc := "()V" } : Jvm.MethodName) ∈ gTbl := tb3 40 rfl rfl
theorem c_3_41 : Jvm.Cond.instanceMethod ({ cls := "RecordBridge$Edition", name := "reverse", desc := "()V" } : Jvm.MethodName) ∈ gTbl := tb3 41 rfl rfl
theorem c_3_42 : Jvm.Cond.selects "RecordBridge$Edition" ({ cls := "RecordBridge$Edition", name := "reverse", desc := "()V" } : Jvm.MethodName) ({ cls := "RecordBridge$Edition", name := "reverse", desc := "()V" } : Jvm.MethodName) ∈ gTbl := tb3 42 rfl rfl
theorem c_3_43 : Jvm.Cond.code ({ cls := "RecordBridge$Edition", name := "reverse", desc := "()V" } : Jvm.MethodName) prog_4_method_8_code (2 : Nat) (Option.none : Option Jvm.ClassFile.FieldType) ∈ gTbl := tb3 43 rfl rfl
theorem c_3_44 : Jvm.Cond.methodLink "RecordBridge" (206 : Nat) ({ cls := "RecordBridge", name := "addConstant", desc := "(LRecordBridge$Kind;I)V" } : Jvm.MethodName) ∈ gTbl := tb3 44 rfl rfl
theorem c_3_46 : Jvm.Cond.instanceMethod ({ cls := "RecordBridge", name := "addConstant", desc := "(LRecordBridge$Kind;I)V" } : Jvm.MethodName) ∈ gTbl := tb3 46 rfl rfl
theorem c_3_47 : Jvm.Cond.code ({ cls := "RecordBridge", name := "addConstant", desc := "(LRecordBridge$Kind;I)V" } : Jvm.MethodName) prog_1_method_51_code (4 : Nat) (Option.none : Option Jvm.ClassFile.FieldType) ∈ gTbl := tb3 47 rfl rfl
theorem c_3_48 : Jvm.Cond.classLink "RecordBridge" (253 : Nat) "RecordBridge$Value" ∈ gTbl := tb3 48 rfl rfl
theorem c_3_49 : Jvm.Cond.instantiable "RecordBridge$Value" (8 : Nat) ∈ gTbl := tb3 49 rfl rfl
theorem c_3_50 : Jvm.Cond.methodLink "RecordBridge" (372 : Nat) ({ cls := "RecordBridge$Value", name := "<init>", desc := "(ILRecordBridge$Kind;I[JII)V" } : Jvm.MethodName) ∈ gTbl := tb3 50 rfl rfl
theorem c_3_51 : Jvm.Cond.instanceMethod ({ cls := "RecordBridge$Value", name := "<init>", desc := "(ILRecordBridge$Kind;I[JII)V" } : Jvm.MethodName) ∈ gTbl := tb3 51 rfl rfl
theorem c_3_52 : Jvm.Cond.code ({ cls := "RecordBridge$Value", name := "<init>", desc := "(ILRecordBridge$Kind;I[JII)V" } : Jvm.MethodName) prog_12_method_1_code (7 : Nat) (Option.none : Option Jvm.ClassFile.FieldType) ∈ gTbl := tb3 52 rfl rfl
theorem c_3_53 : Jvm.Cond.methodLink "RecordBridge$Value" (1 : Nat) ({ cls := "java/lang/Object", name := "<init>", desc := "()V" } : Jvm.MethodName) ∈ gTbl := tb3 53 rfl rfl
theorem c_3_54 : Jvm.Cond.methodLink "RecordBridge$Value" (17 : Nat) ({ cls := "RecordBridge$Kind", name := "newest", desc := "()LRecordBridge$Edition;" } : Jvm.MethodName) ∈ gTbl := tb3 54 rfl rfl
theorem c_3_55 : Jvm.Cond.fieldLink "RecordBridge$Value" (7 : Nat) "RecordBridge$Value" "number" "I" ∈ gTbl := tb3 55 rfl rfl
theorem c_3_56 : Jvm.Cond.fieldLink "RecordBridge$Store" (63 : Nat) "RecordBridge$Value" "number" "I" ∈ gTbl := tb3 56 rfl rfl
theorem c_3_57 : Jvm.Cond.fieldLink "RecordBridge" (318 : Nat) "RecordBridge$Value" "number" "I" ∈ gTbl := tb3 57 rfl rfl
theorem c_3_58 : Jvm.Cond.fieldLink "RecordBridge$Value" (13 : Nat) "RecordBridge$Value" "kind" "LRecordBridge$Kind;" ∈ gTbl := tb3 58 rfl rfl
theorem c_3_59 : Jvm.Cond.fieldLink "RecordBridge$Comparer" (17 : Nat) "RecordBridge$Value" "kind" "LRecordBridge$Kind;" ∈ gTbl := tb3 59 rfl rfl
theorem c_3_60 : Jvm.Cond.fieldLink "RecordBridge$Scribe" (38 : Nat) "RecordBridge$Value" "kind" "LRecordBridge$Kind;" ∈ gTbl := tb3 60 rfl rfl
theorem c_3_61 : Jvm.Cond.fieldLink "RecordBridge$Store" (54 : Nat) "RecordBridge$Value" "kind" "LRecordBridge$Kind;" ∈ gTbl := tb3 61 rfl rfl
theorem c_3_62 : Jvm.Cond.fieldLink "RecordBridge" (252 : Nat) "RecordBridge$Value" "kind" "LRecordBridge$Kind;" ∈ gTbl := tb3 62 rfl rfl
theorem c_3_63 : Jvm.Cond.fieldLink "RecordBridge$Value" (23 : Nat) "RecordBridge$Value" "edition" "LRecordBridge$Edition;" ∈ gTbl := tb3 63 rfl rfl
theorem c_3_64 : Jvm.Cond.fieldLink "RecordBridge$Comparer" (33 : Nat) "RecordBridge$Value" "edition" "LRecordBridge$Edition;" ∈ gTbl := tb3 64 rfl rfl
theorem c_3_65 : Jvm.Cond.fieldLink "RecordBridge$Draft" (39 : Nat) "RecordBridge$Value" "edition" "LRecordBridge$Edition;" ∈ gTbl := tb3 65 rfl rfl
theorem c_3_66 : Jvm.Cond.fieldLink "RecordBridge$Scribe" (67 : Nat) "RecordBridge$Value" "edition" "LRecordBridge$Edition;" ∈ gTbl := tb3 66 rfl rfl
theorem c_3_67 : Jvm.Cond.fieldLink "RecordBridge" (264 : Nat) "RecordBridge$Value" "edition" "LRecordBridge$Edition;" ∈ gTbl := tb3 67 rfl rfl
theorem c_3_68 : Jvm.Cond.fieldLink "RecordBridge$Value" (30 : Nat) "RecordBridge$Value" "manieth" "I" ∈ gTbl := tb3 68 rfl rfl
theorem c_3_69 : Jvm.Cond.fieldLink "RecordBridge$Comparer" (44 : Nat) "RecordBridge$Value" "manieth" "I" ∈ gTbl := tb3 69 rfl rfl
theorem c_3_70 : Jvm.Cond.fieldLink "RecordBridge" (272 : Nat) "RecordBridge$Value" "manieth" "I" ∈ gTbl := tb3 70 rfl rfl
theorem c_3_71 : Jvm.Cond.fieldLink "RecordBridge$Value" (33 : Nat) "RecordBridge$Value" "label" "I" ∈ gTbl := tb3 71 rfl rfl
theorem c_3_72 : Jvm.Cond.fieldLink "RecordBridge$Scribe" (49 : Nat) "RecordBridge$Value" "label" "I" ∈ gTbl := tb3 72 rfl rfl
theorem c_3_73 : Jvm.Cond.fieldLink "RecordBridge" (275 : Nat) "RecordBridge$Value" "label" "I" ∈ gTbl := tb3 73 rfl rfl
theorem c_3_74 : Jvm.Cond.fieldLink "RecordBridge$Value" (36 : Nat) "RecordBridge$Value" "parts" "[J" ∈ gTbl := tb3 74 rfl rfl
theorem c_3_75 : Jvm.Cond.fieldLink "RecordBridge$Comparer" (51 : Nat) "RecordBridge$Value" "parts" "[J" ∈ gTbl := tb3 75 rfl rfl
theorem c_3_76 : Jvm.Cond.fieldLink "RecordBridge$Draft" (64 : Nat) "RecordBridge$Value" "parts" "[J" ∈ gTbl := tb3 76 rfl rfl
theorem c_3_77 : Jvm.Cond.fieldLink "RecordBridge$Scribe" (63 : Nat) "RecordBridge$Value" "parts" "[J" ∈ gTbl := tb3 77 rfl rfl
theorem c_3_78 : Jvm.Cond.fieldLink "RecordBridge" (284 : Nat) "RecordBridge$Value" "parts" "[J" ∈ gTbl := tb3 78 rfl rfl
theorem c_3_79 : Jvm.Cond.fieldLink "RecordBridge$Value" (40 : Nat) "RecordBridge$Value" "size" "I" ∈ gTbl := tb3 79 rfl rfl
theorem c_3_80 : Jvm.Cond.fieldLink "RecordBridge$Draft" (134 : Nat) "RecordBridge$Value" "size" "I" ∈ gTbl := tb3 80 rfl rfl
theorem c_3_81 : Jvm.Cond.fieldLink "RecordBridge" (269 : Nat) "RecordBridge$Value" "size" "I" ∈ gTbl := tb3 81 rfl rfl
theorem c_3_82 : Jvm.Cond.fieldLink "RecordBridge$Value" (43 : Nat) "RecordBridge$Value" "deep" "I" ∈ gTbl := tb3 82 rfl rfl
theorem c_3_83 : Jvm.Cond.fieldLink "RecordBridge$Draft" (135 : Nat) "RecordBridge$Value" "deep" "I" ∈ gTbl := tb3 83 rfl rfl
theorem c_3_84 : Jvm.Cond.fieldLink "RecordBridge" (278 : Nat) "RecordBridge$Value" "deep" "I" ∈ gTbl := tb3 84 rfl rfl
theorem c_3_102 : Jvm.Cond.methodLink "RecordBridge" (375 : Nat) ({ cls := "RecordBridge$Store", name := "addValue", desc := "(LRecordBridge$Value;)I" } : Jvm.MethodName) ∈ gTbl := tb3 102 rfl rfl
theorem c_3_103 : Jvm.Cond.instanceMethod ({ cls := "RecordBridge$Store", name := "addValue", desc := "(LRecordBridge$Value;)I" } : Jvm.MethodName) ∈ gTbl := tb3 103 rfl rfl
theorem c_3_104 : Jvm.Cond.selects "RecordBridge$Store" ({ cls := "RecordBridge$Store", name := "addValue", desc := "(LRecordBridge$Value;)I" } : Jvm.MethodName) ({ cls := "RecordBridge$Store", name := "addValue", desc := "(LRecordBridge$Value;)I" } : Jvm.MethodName) ∈ gTbl := tb3 104 rfl rfl
theorem c_3_105 : Jvm.Cond.code ({ cls := "RecordBridge$Store", name := "addValue", desc := "(LRecordBridge$Value;)I" } : Jvm.MethodName) prog_9_method_8_code (2 : Nat) (Option.some Jvm.ClassFile.FieldType.int) ∈ gTbl := tb3 105 rfl rfl
theorem c_3_106 : Jvm.Cond.methodLink "RecordBridgeLaw" (70 : Nat) ({ cls := "RecordBridge", name := "family", desc := "(IZ)I" } : Jvm.MethodName) ∈ gTbl := tb3 106 rfl rfl
theorem c_3_107 : Jvm.Cond.instanceMethod ({ cls := "RecordBridge", name := "family", desc := "(IZ)I" } : Jvm.MethodName) ∈ gTbl := tb3 107 rfl rfl
theorem c_3_108 : Jvm.Cond.selects "RecordBridge" ({ cls := "RecordBridge", name := "family", desc := "(IZ)I" } : Jvm.MethodName) ({ cls := "RecordBridge", name := "family", desc := "(IZ)I" } : Jvm.MethodName) ∈ gTbl := tb3 108 rfl rfl
theorem c_3_109 : Jvm.Cond.code ({ cls := "RecordBridge", name := "family", desc := "(IZ)I" } : Jvm.MethodName) prog_1_method_14_code (4 : Nat) (Option.some Jvm.ClassFile.FieldType.int) ∈ gTbl := tb3 109 rfl rfl
theorem c_3_110 : Jvm.Cond.methodLink "RecordBridgeLaw" (75 : Nat) ({ cls := "RecordBridge", name := "info", desc := "(II)I" } : Jvm.MethodName) ∈ gTbl := tb3 110 rfl rfl
theorem c_3_111 : Jvm.Cond.instanceMethod ({ cls := "RecordBridge", name := "info", desc := "(II)I" } : Jvm.MethodName) ∈ gTbl := tb3 111 rfl rfl
theorem c_3_112 : Jvm.Cond.selects "RecordBridge" ({ cls := "RecordBridge", name := "info", desc := "(II)I" } : Jvm.MethodName) ({ cls := "RecordBridge", name := "info", desc := "(II)I" } : Jvm.MethodName) ∈ gTbl := tb3 112 rfl rfl
theorem c_3_113 : Jvm.Cond.code ({ cls := "RecordBridge", name := "info", desc := "(II)I" } : Jvm.MethodName) prog_1_method_15_code (4 : Nat) (Option.some Jvm.ClassFile.FieldType.int) ∈ gTbl := tb3 113 rfl rfl
theorem c_3_114 : Jvm.Cond.methodLink "RecordBridgeLaw" (79 : Nat) ({ cls := "RecordBridge", name := "give", desc := "(IIJ)I" } : Jvm.MethodName) ∈ gTbl := tb3 114 rfl rfl
theorem c_3_115 : Jvm.Cond.instanceMethod ({ cls := "RecordBridge", name := "give", desc := "(IIJ)I" } : Jvm.MethodName) ∈ gTbl := tb3 115 rfl rfl
theorem c_3_116 : Jvm.Cond.selects "RecordBridge" ({ cls := "RecordBridge", name := "give", desc := "(IIJ)I" } : Jvm.MethodName) ({ cls := "RecordBridge", name := "give", desc := "(IIJ)I" } : Jvm.MethodName) ∈ gTbl := tb3 116 rfl rfl
theorem c_3_117 : Jvm.Cond.code ({ cls := "RecordBridge", name := "give", desc := "(IIJ)I" } : Jvm.MethodName) prog_1_method_16_code (5 : Nat) (Option.some Jvm.ClassFile.FieldType.int) ∈ gTbl := tb3 117 rfl rfl
theorem c_3_118 : Jvm.Cond.methodLink "RecordBridge" (220 : Nat) ({ cls := "RecordBridge", name := "isPlace", desc := "(I)Z" } : Jvm.MethodName) ∈ gTbl := tb3 118 rfl rfl
theorem c_3_119 : Jvm.Cond.static ({ cls := "RecordBridge", name := "isPlace", desc := "(I)Z" } : Jvm.MethodName) ∈ gTbl := tb3 119 rfl rfl
theorem c_3_120 : Jvm.Cond.code ({ cls := "RecordBridge", name := "isPlace", desc := "(I)Z" } : Jvm.MethodName) prog_1_method_40_code (1 : Nat) (Option.some Jvm.ClassFile.FieldType.boolean) ∈ gTbl := tb3 120 rfl rfl
theorem c_3_121 : Jvm.Cond.methodLink "RecordBridge" (223 : Nat) ({ cls := "RecordBridge$Tray", name := "place", desc := "(IIJ)V" } : Jvm.MethodName) ∈ gTbl := tb3 121 rfl rfl
theorem c_3_122 : Jvm.Cond.instanceMethod ({ cls := "RecordBridge$Tray", name := "place", desc := "(IIJ)V" } : Jvm.MethodName) ∈ gTbl := tb3 122 rfl rfl
theorem c_3_123 : Jvm.Cond.selects "RecordBridge$Tray" ({ cls := "RecordBridge$Tray", name := "place", desc := "(IIJ)V" } : Jvm.MethodName) ({ cls := "RecordBridge$Tray", name := "place", desc := "(IIJ)V" } : Jvm.MethodName) ∈ gTbl := tb3 123 rfl rfl
theorem c_3_124 : Jvm.Cond.code ({ cls := "RecordBridge$Tray", name := "place", desc := "(IIJ)V" } : Jvm.MethodName) prog_11_method_2_code (5 : Nat) (Option.none : Option Jvm.ClassFile.FieldType) ∈ gTbl := tb3 124 rfl rfl
theorem c_3_125 : Jvm.Cond.methodLink "RecordBridgeLaw" (84 : Nat) ({ cls := "RecordBridge", name := "hand", desc := "(IIZ)I" } : Jvm.MethodName) ∈ gTbl := tb3 125 rfl rfl
theorem c_3_126 : Jvm.Cond.instanceMethod ({ cls := "RecordBridge", name := "hand", desc := "(IIZ)I" } : Jvm.MethodName) ∈ gTbl := tb3 126 rfl rfl
theorem c_3_127 : Jvm.Cond.selects "RecordBridge" ({ cls := "RecordBridge", name := "hand", desc := "(IIZ)I" } : Jvm.MethodName) ({ cls := "RecordBridge", name := "hand", desc := "(IIZ)I" } : Jvm.MethodName) ∈ gTbl := tb3 127 rfl rfl
theorem c_3_128 : Jvm.Cond.code ({ cls := "RecordBridge", name := "hand", desc := "(IIZ)I" } : Jvm.MethodName) prog_1_method_17_code (5 : Nat) (Option.some Jvm.ClassFile.FieldType.int) ∈ gTbl := tb3 128 rfl rfl
theorem c_3_129 : Jvm.Cond.methodLink "RecordBridge" (227 : Nat) ({ cls := "RecordBridge$Tray", name := "empty", desc := "(I)V" } : Jvm.MethodName) ∈ gTbl := tb3 129 rfl rfl
theorem c_3_130 : Jvm.Cond.instanceMethod ({ cls := "RecordBridge$Tray", name := "empty", desc := "(I)V" } : Jvm.MethodName) ∈ gTbl := tb3 130 rfl rfl
theorem c_3_131 : Jvm.Cond.selects "RecordBridge$Tray" ({ cls := "RecordBridge$Tray", name := "empty", desc := "(I)V" } : Jvm.MethodName) ({ cls := "RecordBridge$Tray", name := "empty", desc := "(I)V" } : Jvm.MethodName) ∈ gTbl := tb3 131 rfl rfl
theorem c_3_132 : Jvm.Cond.code ({ cls := "RecordBridge$Tray", name := "empty", desc := "(I)V" } : Jvm.MethodName) prog_11_method_3_code (2 : Nat) (Option.none : Option Jvm.ClassFile.FieldType) ∈ gTbl := tb3 132 rfl rfl
theorem c_3_133 : Jvm.Cond.methodLink "RecordBridgeLaw" (89 : Nat) ({ cls := "RecordBridge", name := "make", desc := "(I)I" } : Jvm.MethodName) ∈ gTbl := tb3 133 rfl rfl
theorem c_3_134 : Jvm.Cond.instanceMethod ({ cls := "RecordBridge", name := "make", desc := "(I)I" } : Jvm.MethodName) ∈ gTbl := tb3 134 rfl rfl
theorem c_3_135 : Jvm.Cond.selects "RecordBridge" ({ cls := "RecordBridge", name := "make", desc := "(I)I" } : Jvm.MethodName) ({ cls := "RecordBridge", name := "make", desc := "(I)I" } : Jvm.MethodName) ∈ gTbl := tb3 135 rfl rfl
theorem c_3_136 : Jvm.Cond.code ({ cls := "RecordBridge", name := "make", desc := "(I)I" } : Jvm.MethodName) prog_1_method_18_code (5 : Nat) (Option.some Jvm.ClassFile.FieldType.int) ∈ gTbl := tb3 136 rfl rfl
theorem c_3_137 : Jvm.Cond.methodLink "RecordBridge" (234 : Nat) ({ cls := "RecordBridge", name := "start", desc := "(LRecordBridge$Kind;)V" } : Jvm.MethodName) ∈ gTbl := tb3 137 rfl rfl
theorem c_3_139 : Jvm.Cond.instanceMethod ({ cls := "RecordBridge", name := "start", desc := "(LRecordBridge$Kind;)V" } : Jvm.MethodName) ∈ gTbl := tb3 139 rfl rfl
theorem c_3_140 : Jvm.Cond.code ({ cls := "RecordBridge", name := "start", desc := "(LRecordBridge$Kind;)V" } : Jvm.MethodName) prog_1_method_50_code (4 : Nat) (Option.none : Option Jvm.ClassFile.FieldType) ∈ gTbl := tb3 140 rfl rfl
theorem c_3_141 : Jvm.Cond.methodLink "RecordBridge" (366 : Nat) ({ cls := "RecordBridge", name := "leaveTrace", desc := "(I)V" } : Jvm.MethodName) ∈ gTbl := tb3 141 rfl rfl
theorem c_3_143 : Jvm.Cond.instanceMethod ({ cls := "RecordBridge", name := "leaveTrace", desc := "(I)V" } : Jvm.MethodName) ∈ gTbl := tb3 143 rfl rfl
theorem c_3_144 : Jvm.Cond.code ({ cls := "RecordBridge", name := "leaveTrace", desc := "(I)V" } : Jvm.MethodName) prog_1_method_37_code (2 : Nat) (Option.none : Option Jvm.ClassFile.FieldType) ∈ gTbl := tb3 144 rfl rfl
theorem c_3_145 : Jvm.Cond.methodLink "RecordBridge" (238 : Nat) ({ cls := "RecordBridge$Draft", name := "takeTray", desc := "(LRecordBridge$Tray;LRecordBridge$Edition;)I" } : Jvm.MethodName) ∈ gTbl := tb3 145 rfl rfl
theorem c_3_146 : Jvm.Cond.instanceMethod ({ cls := "RecordBridge$Draft", name := "takeTray", desc := "(LRecordBridge$Tray;LRecordBridge$Edition;)I" } : Jvm.MethodName) ∈ gTbl := tb3 146 rfl rfl
theorem c_3_147 : Jvm.Cond.selects "RecordBridge$Draft" ({ cls := "RecordBridge$Draft", name := "takeTray", desc := "(LRecordBridge$Tray;LRecordBridge$Edition;)I" } : Jvm.MethodName) ({ cls := "RecordBridge$Draft", name := "takeTray", desc := "(LRecordBridge$Tray;LRecordBridge$Edition;)I" } : Jvm.MethodName) ∈ gTbl := tb3 147 rfl rfl
theorem c_3_148 : Jvm.Cond.code ({ cls := "RecordBridge$Draft", name := "takeTray", desc := "(LRecordBridge$Tray;LRecordBridge$Edition;)I" } : Jvm.MethodName) prog_3_method_2_code (5 : Nat) (Option.some Jvm.ClassFile.FieldType.int) ∈ gTbl := tb3 148 rfl rfl
theorem c_3_149 : Jvm.Cond.methodLink "RecordBridge$Draft" (29 : Nat) ({ cls := "RecordBridge$Tray", name := "faultFor", desc := "(II)I" } : Jvm.MethodName) ∈ gTbl := tb3 149 rfl rfl
theorem c_3_150 : Jvm.Cond.instanceMethod ({ cls := "RecordBridge$Tray", name := "faultFor", desc := "(II)I" } : Jvm.MethodName) ∈ gTbl := tb3 150 rfl rfl
theorem c_3_151 : Jvm.Cond.selects "RecordBridge$Tray" ({ cls := "RecordBridge$Tray", name := "faultFor", desc := "(II)I" } : Jvm.MethodName) ({ cls := "RecordBridge$Tray", name := "faultFor", desc := "(II)I" } : Jvm.MethodName) ∈ gTbl := tb3 151 rfl rfl
theorem c_3_152 : Jvm.Cond.code ({ cls := "RecordBridge$Tray", name := "faultFor", desc := "(II)I" } : Jvm.MethodName) prog_11_method_5_code (3 : Nat) (Option.some Jvm.ClassFile.FieldType.int) ∈ gTbl := tb3 152 rfl rfl
theorem c_3_153 : Jvm.Cond.methodLink "RecordBridge$Tray" (19 : Nat) ({ cls := "RecordBridge$Lanes", name := "isNumber", desc := "(I)Z" } : Jvm.MethodName) ∈ gTbl := tb3 153 rfl rfl
theorem c_3_154 : Jvm.Cond.methodLink "RecordBridge$Tray" (25 : Nat) ({ cls := "RecordBridge$Lanes", name := "isWidened", desc := "(II)Z" } : Jvm.MethodName) ∈ gTbl := tb3 154 rfl rfl
theorem c_3_155 : Jvm.Cond.methodLink "RecordBridge$Draft" (35 : Nat) ({ cls := "RecordBridge$Tray", name := "widenedTo", desc := "(II)J" } : Jvm.MethodName) ∈ gTbl := tb3 155 rfl rfl
theorem c_3_156 : Jvm.Cond.instanceMethod ({ cls := "RecordBridge$Tray", name := "widenedTo", desc := "(II)J" } : Jvm.MethodName) ∈ gTbl := tb3 156 rfl rfl
theorem c_3_157 : Jvm.Cond.selects "RecordBridge$Tray" ({ cls := "RecordBridge$Tray", name := "widenedTo", desc := "(II)J" } : Jvm.MethodName) ({ cls := "RecordBridge$Tray", name := "widenedTo", desc := "(II)J" } : Jvm.MethodName) ∈ gTbl := tb3 157 rfl rfl
theorem c_3_158 : Jvm.Cond.code ({ cls := "RecordBridge$Tray", name := "widenedTo", desc := "(II)J" } : Jvm.MethodName) prog_11_method_6_code (3 : Nat) (Option.some Jvm.ClassFile.FieldType.long) ∈ gTbl := tb3 158 rfl rfl
theorem c_3_159 : Jvm.Cond.constantLong "RecordBridge$Tray" (29 : Nat) (-1 : Int64) ∈ gTbl := tb3 159 rfl rfl
theorem c_3_160 : Jvm.Cond.methodLink "RecordBridge$Tray" (31 : Nat) ({ cls := "RecordBridge$Lanes", name := "widen", desc := "(IIJ)J" } : Jvm.MethodName) ∈ gTbl := tb3 160 rfl rfl
theorem c_3_161 : Jvm.Cond.methodLink "RecordBridge" (242 : Nat) ({ cls := "RecordBridge", name := "finish", desc := "(LRecordBridge$Kind;)I" } : Jvm.MethodName) ∈ gTbl := tb3 161 rfl rfl
theorem c_3_163 : Jvm.Cond.instanceMethod ({ cls := "RecordBridge", name := "finish", desc := "(LRecordBridge$Kind;)I" } : Jvm.MethodName) ∈ gTbl := tb3 163 rfl rfl
theorem c_3_164 : Jvm.Cond.code ({ cls := "RecordBridge", name := "finish", desc := "(LRecordBridge$Kind;)I" } : Jvm.MethodName) prog_1_method_52_code (4 : Nat) (Option.some Jvm.ClassFile.FieldType.int) ∈ gTbl := tb3 164 rfl rfl
theorem c_3_165 : Jvm.Cond.methodLink "RecordBridge" (381 : Nat) ({ cls := "RecordBridge$Draft", name := "countTwins", desc := "(LRecordBridge$Edition;I)I" } : Jvm.MethodName) ∈ gTbl := tb3 165 rfl rfl
theorem c_3_166 : Jvm.Cond.instanceMethod ({ cls := "RecordBridge$Draft", name := "countTwins", desc := "(LRecordBridge$Edition;I)I" } : Jvm.MethodName) ∈ gTbl := tb3 166 rfl rfl
theorem c_3_167 : Jvm.Cond.selects "RecordBridge$Draft" ({ cls := "RecordBridge$Draft", name := "countTwins", desc := "(LRecordBridge$Edition;I)I" } : Jvm.MethodName) ({ cls := "RecordBridge$Draft", name := "countTwins", desc := "(LRecordBridge$Edition;I)I" } : Jvm.MethodName) ∈ gTbl := tb3 167 rfl rfl
theorem c_3_168 : Jvm.Cond.code ({ cls := "RecordBridge$Draft", name := "countTwins", desc := "(LRecordBridge$Edition;I)I" } : Jvm.MethodName) prog_3_method_4_code (5 : Nat) (Option.some Jvm.ClassFile.FieldType.int) ∈ gTbl := tb3 168 rfl rfl
theorem c_3_169 : Jvm.Cond.methodLink "RecordBridge$Draft" (69 : Nat) ({ cls := "RecordBridge$Draft", name := "rowOf", desc := "(LRecordBridge$Edition;I)LRecordBridge$Row;" } : Jvm.MethodName) ∈ gTbl := tb3 169 rfl rfl
theorem c_3_171 : Jvm.Cond.instanceMethod ({ cls := "RecordBridge$Draft", name := "rowOf", desc := "(LRecordBridge$Edition;I)LRecordBridge$Row;" } : Jvm.MethodName) ∈ gTbl := tb3 171 rfl rfl
theorem c_3_172 : Jvm.Cond.code ({ cls := "RecordBridge$Draft", name := "rowOf", desc := "(LRecordBridge$Edition;I)LRecordBridge$Row;" } : Jvm.MethodName) prog_3_method_8_code (3 : Nat) (Option.some (Jvm.ClassFile.FieldType.object "RecordBridge$Row")) ∈ gTbl := tb3 172 rfl rfl
theorem c_3_173 : Jvm.Cond.methodLink "RecordBridge$Draft" (115 : Nat) ({ cls := "RecordBridge$Store", name := "findRow", desc := "(J)LRecordBridge$Row;" } : Jvm.MethodName) ∈ gTbl := tb3 173 rfl rfl
theorem c_3_174 : Jvm.Cond.methodLink "RecordBridge$Draft" (73 : Nat) ({ cls := "RecordBridge$Draft", name := "needsTwin", desc := "(LRecordBridge$Row;I)Z" } : Jvm.MethodName) ∈ gTbl := tb3 174 rfl rfl
theorem c_3_175 : Jvm.Cond.static ({ cls := "RecordBridge$Draft", name := "needsTwin", desc := "(LRecordBridge$Row;I)Z" } : Jvm.MethodName) ∈ gTbl := tb3 175 rfl rfl
theorem c_3_176 : Jvm.Cond.code ({ cls := "RecordBridge$Draft", name := "needsTwin", desc := "(LRecordBridge$Row;I)Z" } : Jvm.MethodName) prog_3_method_9_code (2 : Nat) (Option.some Jvm.ClassFile.FieldType.boolean) ∈ gTbl := tb3 176 rfl rfl
theorem c_3_177 : Jvm.Cond.methodLink "RecordBridge" (385 : Nat) ({ cls := "RecordBridge$Draft", name := "obeys", desc := "(LRecordBridge$Edition;I)Z" } : Jvm.MethodName) ∈ gTbl := tb3 177 rfl rfl
theorem c_3_178 : Jvm.Cond.instanceMethod ({ cls := "RecordBridge$Draft", name := "obeys", desc := "(LRecordBridge$Edition;I)Z" } : Jvm.MethodName) ∈ gTbl := tb3 178 rfl rfl
theorem c_3_179 : Jvm.Cond.selects "RecordBridge$Draft" ({ cls := "RecordBridge$Draft", name := "obeys", desc := "(LRecordBridge$Edition;I)Z" } : Jvm.MethodName) ({ cls := "RecordBridge$Draft", name := "obeys", desc := "(LRecordBridge$Edition;I)Z" } : Jvm.MethodName) ∈ gTbl := tb3 179 rfl rfl
theorem c_3_180 : Jvm.Cond.code ({ cls := "RecordBridge$Draft", name := "obeys", desc := "(LRecordBridge$Edition;I)Z" } : Jvm.MethodName) prog_3_method_5_code (3 : Nat) (Option.some Jvm.ClassFile.FieldType.boolean) ∈ gTbl := tb3 180 rfl rfl
theorem c_3_181 : Jvm.Cond.methodLink "RecordBridge$Draft" (77 : Nat) ({ cls := "RecordBridge$Draft", name := "isFalling", desc := "(LRecordBridge$Edition;)Z" } : Jvm.MethodName) ∈ gTbl := tb3 181 rfl rfl
theorem c_3_183 : Jvm.Cond.instanceMethod ({ cls := "RecordBridge$Draft", name := "isFalling", desc := "(LRecordBridge$Edition;)Z" } : Jvm.MethodName) ∈ gTbl := tb3 183 rfl rfl
theorem c_3_184 : Jvm.Cond.code ({ cls := "RecordBridge$Draft", name := "isFalling", desc := "(LRecordBridge$Edition;)Z" } : Jvm.MethodName) prog_3_method_10_code (3 : Nat) (Option.some Jvm.ClassFile.FieldType.boolean) ∈ gTbl := tb3 184 rfl rfl
theorem c_3_185 : Jvm.Cond.methodLink "RecordBridge$Draft" (123 : Nat) ({ cls := "RecordBridge$Lanes", name := "isWhole", desc := "(I)Z" } : Jvm.MethodName) ∈ gTbl := tb3 185 rfl rfl
theorem c_3_186 : Jvm.Cond.static ({ cls := "RecordBridge$Lanes", name := "isWhole", desc := "(I)Z" } : Jvm.MethodName) ∈ gTbl := tb3 186 rfl rfl
theorem c_3_187 : Jvm.Cond.code ({ cls := "RecordBridge$Lanes", name := "isWhole", desc := "(I)Z" } : Jvm.MethodName) prog_6_method_4_code (1 : Nat) (Option.some Jvm.ClassFile.FieldType.boolean) ∈ gTbl := tb3 187 rfl rfl
theorem c_3_188 : Jvm.Cond.methodLink "RecordBridge$Draft" (81 : Nat) ({ cls := "RecordBridge$Draft", name := "exchange", desc := "(LRecordBridge$Edition;)V" } : Jvm.MethodName) ∈ gTbl := tb3 188 rfl rfl
theorem c_3_190 : Jvm.Cond.instanceMethod ({ cls := "RecordBridge$Draft", name := "exchange", desc := "(LRecordBridge$Edition;)V" } : Jvm.MethodName) ∈ gTbl := tb3 190 rfl rfl
theorem c_3_191 : Jvm.Cond.code ({ cls := "RecordBridge$Draft", name := "exchange", desc := "(LRecordBridge$Edition;)V" } : Jvm.MethodName) prog_3_method_11_code (4 : Nat) (Option.none : Option Jvm.ClassFile.FieldType) ∈ gTbl := tb3 191 rfl rfl
theorem c_3_192 : Jvm.Cond.methodLink "RecordBridge$Draft" (126 : Nat) ({ cls := "RecordBridge$Lanes", name := "come", desc := "(IJ)J" } : Jvm.MethodName) ∈ gTbl := tb3 192 rfl rfl
theorem c_3_193 : Jvm.Cond.methodLink "RecordBridge$Draft" (85 : Nat) ({ cls := "RecordBridge$Draft", name := "hasEveryPart", desc := "(LRecordBridge$Edition;)Z" } : Jvm.MethodName) ∈ gTbl := tb3 193 rfl rfl
theorem c_3_195 : Jvm.Cond.instanceMethod ({ cls := "RecordBridge$Draft", name := "hasEveryPart", desc := "(LRecordBridge$Edition;)Z" } : Jvm.MethodName) ∈ gTbl := tb3 195 rfl rfl
theorem c_3_196 : Jvm.Cond.code ({ cls := "RecordBridge$Draft", name := "hasEveryPart", desc := "(LRecordBridge$Edition;)Z" } : Jvm.MethodName) prog_3_method_12_code (3 : Nat) (Option.some Jvm.ClassFile.FieldType.boolean) ∈ gTbl := tb3 196 rfl rfl
theorem c_3_197 : Jvm.Cond.methodLink "RecordBridge$Draft" (52 : Nat) ({ cls := "RecordBridge$Lanes", name := "isNumber", desc := "(I)Z" } : Jvm.MethodName) ∈ gTbl := tb3 197 rfl rfl
theorem c_3_198 : Jvm.Cond.constantLong "RecordBridge$Draft" (58 : Nat) (-1 : Int64) ∈ gTbl := tb3 198 rfl rfl
theorem c_3_199 : Jvm.Cond.methodLink "RecordBridge" (389 : Nat) ({ cls := "RecordBridge$Draft", name := "measure", desc := "(LRecordBridge$Edition;)V" } : Jvm.MethodName) ∈ gTbl := tb3 199 rfl rfl
theorem c_3_200 : Jvm.Cond.instanceMethod ({ cls := "RecordBridge$Draft", name := "measure", desc := "(LRecordBridge$Edition;)V" } : Jvm.MethodName) ∈ gTbl := tb3 200 rfl rfl
theorem c_3_201 : Jvm.Cond.selects "RecordBridge$Draft" ({ cls := "RecordBridge$Draft", name := "measure", desc := "(LRecordBridge$Edition;)V" } : Jvm.MethodName) ({ cls := "RecordBridge$Draft", name := "measure", desc := "(LRecordBridge$Edition;)V" } : Jvm.MethodName) ∈ gTbl := tb3 201 rfl rfl
theorem c_3_202 : Jvm.Cond.code ({ cls := "RecordBridge$Draft", name := "measure", desc := "(LRecordBridge$Edition;)V" } : Jvm.MethodName) prog_3_method_6_code (5 : Nat) (Option.none : Option Jvm.ClassFile.FieldType) ∈ gTbl := tb3 202 rfl rfl
theorem c_3_203 : Jvm.Cond.methodLink "RecordBridge$Draft" (94 : Nat) ({ cls := "RecordBridge$Draft", name := "measureThing", desc := "(J)V" } : Jvm.MethodName) ∈ gTbl := tb3 203 rfl rfl
theorem c_3_205 : Jvm.Cond.instanceMethod ({ cls := "RecordBridge$Draft", name := "measureThing", desc := "(J)V" } : Jvm.MethodName) ∈ gTbl := tb3 205 rfl rfl
theorem c_3_206 : Jvm.Cond.code ({ cls := "RecordBridge$Draft", name := "measureThing", desc := "(J)V" } : Jvm.MethodName) prog_3_method_13_code (4 : Nat) (Option.none : Option Jvm.ClassFile.FieldType) ∈ gTbl := tb3 206 rfl rfl
theorem c_3_207 : Jvm.Cond.methodLink "RecordBridge$Draft" (130 : Nat) ({ cls := "RecordBridge$Store", name := "findValue", desc := "(J)LRecordBridge$Value;" } : Jvm.MethodName) ∈ gTbl := tb3 207 rfl rfl
theorem c_3_208 : Jvm.Cond.methodLink "RecordBridge$Draft" (136 : Nat) ({ cls := "java/lang/Math", name := "max", desc := "(II)I" } : Jvm.MethodName) ∈ gTbl := tb3 208 rfl rfl
theorem c_3_209 : Jvm.Cond.static ({ cls := "java/lang/Math", name := "max", desc := "(II)I" } : Jvm.MethodName) ∈ gTbl := tb3 209 rfl rfl
theorem c_3_210 : Jvm.Cond.code ({ cls := "java/lang/Math", name := "max", desc := "(II)I" } : Jvm.MethodName) prog_19_method_65_code (2 : Nat) (Option.some Jvm.ClassFile.FieldType.int) ∈ gTbl := tb3 210 rfl rfl
theorem c_3_211 : Jvm.Cond.methodLink "RecordBridge" (395 : Nat) ({ cls := "RecordBridge$Draft", name := "settle", desc := "(LRecordBridge$Edition;I)[J" } : Jvm.MethodName) ∈ gTbl := tb3 211 rfl rfl
theorem c_3_212 : Jvm.Cond.instanceMethod ({ cls := "RecordBridge$Draft", name := "settle", desc := "(LRecordBridge$Edition;I)[J" } : Jvm.MethodName) ∈ gTbl := tb3 212 rfl rfl
theorem c_3_213 : Jvm.Cond.selects "RecordBridge$Draft" ({ cls := "RecordBridge$Draft", name := "settle", desc := "(LRecordBridge$Edition;I)[J" } : Jvm.MethodName) ({ cls := "RecordBridge$Draft", name := "settle", desc := "(LRecordBridge$Edition;I)[J" } : Jvm.MethodName) ∈ gTbl := tb3 213 rfl rfl
theorem c_3_214 : Jvm.Cond.code ({ cls := "RecordBridge$Draft", name := "settle", desc := "(LRecordBridge$Edition;I)[J" } : Jvm.MethodName) prog_3_method_7_code (6 : Nat) (Option.some (Jvm.ClassFile.FieldType.array Jvm.ClassFile.FieldType.long)) ∈ gTbl := tb3 214 rfl rfl
theorem c_3_215 : Jvm.Cond.methodLink "RecordBridge$Draft" (106 : Nat) ({ cls := "RecordBridge$Store", name := "addTwin", desc := "(LRecordBridge$Row;Z)LRecordBridge$Row;" } : Jvm.MethodName) ∈ gTbl := tb3 215 rfl rfl
theorem c_3_216 : Jvm.Cond.methodLink "RecordBridge" (246 : Nat) ({ cls := "RecordBridge$Tray", name := "emptyAll", desc := "()V" } : Jvm.MethodName) ∈ gTbl := tb3 216 rfl rfl
theorem c_3_217 : Jvm.Cond.instanceMethod ({ cls := "RecordBridge$Tray", name := "emptyAll", desc := "()V" } : Jvm.MethodName) ∈ gTbl := tb3 217 rfl rfl
theorem c_3_218 : Jvm.Cond.selects "RecordBridge$Tray" ({ cls := "RecordBridge$Tray", name := "emptyAll", desc := "()V" } : Jvm.MethodName) ({ cls := "RecordBridge$Tray", name := "emptyAll", desc := "()V" } : Jvm.MethodName) ∈ gTbl := tb3 218 rfl rfl
theorem c_3_219 : Jvm.Cond.code ({ cls := "RecordBridge$Tray", name := "emptyAll", desc := "()V" } : Jvm.MethodName) prog_11_method_4_code (2 : Nat) (Option.none : Option Jvm.ClassFile.FieldType) ∈ gTbl := tb3 219 rfl rfl
theorem c_3_220 : Jvm.Cond.methodLink "RecordBridgeLaw" (93 : Nat) ({ cls := "RecordBridge", name := "named", desc := "(II)I" } : Jvm.MethodName) ∈ gTbl := tb3 220 rfl rfl
theorem c_3_221 : Jvm.Cond.instanceMethod ({ cls := "RecordBridge", name := "named", desc := "(II)I" } : Jvm.MethodName) ∈ gTbl := tb3 221 rfl rfl
theorem c_3_222 : Jvm.Cond.selects "RecordBridge" ({ cls := "RecordBridge", name := "named", desc := "(II)I" } : Jvm.MethodName) ({ cls := "RecordBridge", name := "named", desc := "(II)I" } : Jvm.MethodName) ∈ gTbl := tb3 222 rfl rfl
theorem c_3_223 : Jvm.Cond.code ({ cls := "RecordBridge", name := "named", desc := "(II)I" } : Jvm.MethodName) prog_1_method_19_code (6 : Nat) (Option.some Jvm.ClassFile.FieldType.int) ∈ gTbl := tb3 223 rfl rfl
theorem c_3_224 : Jvm.Cond.methodLink "RecordBridgeLaw" (97 : Nat) ({ cls := "RecordBridge", name := "part", desc := "(II)J" } : Jvm.MethodName) ∈ gTbl := tb3 224 rfl rfl
theorem c_3_225 : Jvm.Cond.instanceMethod ({ cls := "RecordBridge", name := "part", desc := "(II)J" } : Jvm.MethodName) ∈ gTbl := tb3 225 rfl rfl
theorem c_3_226 : Jvm.Cond.selects "RecordBridge" ({ cls := "RecordBridge", name := "part", desc := "(II)J" } : Jvm.MethodName) ({ cls := "RecordBridge", name := "part", desc := "(II)J" } : Jvm.MethodName) ∈ gTbl := tb3 226 rfl rfl
theorem c_3_227 : Jvm.Cond.code ({ cls := "RecordBridge", name := "part", desc := "(II)J" } : Jvm.MethodName) prog_1_method_20_code (4 : Nat) (Option.some Jvm.ClassFile.FieldType.long) ∈ gTbl := tb3 227 rfl rfl
theorem c_3_228 : Jvm.Cond.methodLink "RecordBridge" (258 : Nat) ({ cls := "RecordBridge$Value", name := "hasPart", desc := "(I)Z" } : Jvm.MethodName) ∈ gTbl := tb3 228 rfl rfl
theorem c_3_229 : Jvm.Cond.instanceMethod ({ cls := "RecordBridge$Value", name := "hasPart", desc := "(I)Z" } : Jvm.MethodName) ∈ gTbl := tb3 229 rfl rfl
theorem c_3_230 : Jvm.Cond.selects "RecordBridge$Value" ({ cls := "RecordBridge$Value", name := "hasPart", desc := "(I)Z" } : Jvm.MethodName) ({ cls := "RecordBridge$Value", name := "hasPart", desc := "(I)Z" } : Jvm.MethodName) ∈ gTbl := tb3 230 rfl rfl
theorem c_3_231 : Jvm.Cond.code ({ cls := "RecordBridge$Value", name := "hasPart", desc := "(I)Z" } : Jvm.MethodName) prog_12_method_2_code (2 : Nat) (Option.some Jvm.ClassFile.FieldType.boolean) ∈ gTbl := tb3 231 rfl rfl
theorem c_3_232 : Jvm.Cond.methodLink "RecordBridge" (261 : Nat) ({ cls := "RecordBridge$Value", name := "tellPart", desc := "(I)J" } : Jvm.MethodName) ∈ gTbl := tb3 232 rfl rfl
theorem c_3_233 : Jvm.Cond.instanceMethod ({ cls := "RecordBridge$Value", name := "tellPart", desc := "(I)J" } : Jvm.MethodName) ∈ gTbl := tb3 233 rfl rfl
theorem c_3_234 : Jvm.Cond.selects "RecordBridge$Value" ({ cls := "RecordBridge$Value", name := "tellPart", desc := "(I)J" } : Jvm.MethodName) ({ cls := "RecordBridge$Value", name := "tellPart", desc := "(I)J" } : Jvm.MethodName) ∈ gTbl := tb3 234 rfl rfl
theorem c_3_235 : Jvm.Cond.code ({ cls := "RecordBridge$Value", name := "tellPart", desc := "(I)J" } : Jvm.MethodName) prog_12_method_3_code (2 : Nat) (Option.some Jvm.ClassFile.FieldType.long) ∈ gTbl := tb3 235 rfl rfl
theorem c_3_236 : Jvm.Cond.methodLink "RecordBridge$Value" (52 : Nat) ({ cls := "RecordBridge$Lanes", name := "tell", desc := "(IJ)J" } : Jvm.MethodName) ∈ gTbl := tb3 236 rfl rfl
theorem c_3_237 : Jvm.Cond.methodLink "RecordBridgeLaw" (102 : Nat) ({ cls := "RecordBridge", name := "accessor", desc := "(II)J" } : Jvm.MethodName) ∈ gTbl := tb3 237 rfl rfl
theorem c_3_238 : Jvm.Cond.instanceMethod ({ cls := "RecordBridge", name := "accessor", desc := "(II)J" } : Jvm.MethodName) ∈ gTbl := tb3 238 rfl rfl
theorem c_3_239 : Jvm.Cond.selects "RecordBridge" ({ cls := "RecordBridge", name := "accessor", desc := "(II)J" } : Jvm.MethodName) ({ cls := "RecordBridge", name := "accessor", desc := "(II)J" } : Jvm.MethodName) ∈ gTbl := tb3 239 rfl rfl
theorem c_4_0 : Jvm.Cond.code ({ cls := "RecordBridge", name := "accessor", desc := "(II)J" } : Jvm.MethodName) prog_1_method_21_code (5 : Nat) (Option.some Jvm.ClassFile.FieldType.long) ∈ gTbl := tb4 0 rfl rfl
theorem c_4_1 : Jvm.Cond.methodLink "RecordBridgeLaw" (106 : Nat) ({ cls := "RecordBridge", name := "of", desc := "(II)I" } : Jvm.MethodName) ∈ gTbl := tb4 1 rfl rfl
theorem c_4_2 : Jvm.Cond.instanceMethod ({ cls := "RecordBridge", name := "of", desc := "(II)I" } : Jvm.MethodName) ∈ gTbl := tb4 2 rfl rfl
theorem c_4_3 : Jvm.Cond.selects "RecordBridge" ({ cls := "RecordBridge", name := "of", desc := "(II)I" } : Jvm.MethodName) ({ cls := "RecordBridge", name := "of", desc := "(II)I" } : Jvm.MethodName) ∈ gTbl := tb4 3 rfl rfl
theorem c_4_4 : Jvm.Cond.code ({ cls := "RecordBridge", name := "of", desc := "(II)I" } : Jvm.MethodName) prog_1_method_22_code (4 : Nat) (Option.some Jvm.ClassFile.FieldType.int) ∈ gTbl := tb4 4 rfl rfl
theorem c_4_5 : Jvm.Cond.methodLink "RecordBridgeLaw" (110 : Nat) ({ cls := "RecordBridge", name := "array", desc := "(IIZ)I" } : Jvm.MethodName) ∈ gTbl := tb4 5 rfl rfl
theorem c_4_6 : Jvm.Cond.instanceMethod ({ cls := "RecordBridge", name := "array", desc := "(IIZ)I" } : Jvm.MethodName) ∈ gTbl := tb4 6 rfl rfl
theorem c_4_7 : Jvm.Cond.selects "RecordBridge" ({ cls := "RecordBridge", name := "array", desc := "(IIZ)I" } : Jvm.MethodName) ({ cls := "RecordBridge", name := "array", desc := "(IIZ)I" } : Jvm.MethodName) ∈ gTbl := tb4 7 rfl rfl
theorem c_4_8 : Jvm.Cond.code ({ cls := "RecordBridge", name := "array", desc := "(IIZ)I" } : Jvm.MethodName) prog_1_method_23_code (6 : Nat) (Option.some Jvm.ClassFile.FieldType.int) ∈ gTbl := tb4 8 rfl rfl
theorem c_4_9 : Jvm.Cond.methodLink "RecordBridgeLaw" (114 : Nat) ({ cls := "RecordBridge", name := "match", desc := "(II)I" } : Jvm.MethodName) ∈ gTbl := tb4 9 rfl rfl
theorem c_4_10 : Jvm.Cond.instanceMethod ({ cls := "RecordBridge", name := "match", desc := "(II)I" } : Jvm.MethodName) ∈ gTbl := tb4 10 rfl rfl
theorem c_4_11 : Jvm.Cond.selects "RecordBridge" ({ cls := "RecordBridge", name := "match", desc := "(II)I" } : Jvm.MethodName) ({ cls := "RecordBridge", name := "match", desc := "(II)I" } : Jvm.MethodName) ∈ gTbl := tb4 11 rfl rfl
theorem c_4_12 : Jvm.Cond.code ({ cls := "RecordBridge", name := "match", desc := "(II)I" } : Jvm.MethodName) prog_1_method_24_code (5 : Nat) (Option.some Jvm.ClassFile.FieldType.int) ∈ gTbl := tb4 12 rfl rfl
theorem c_4_13 : Jvm.Cond.methodLink "RecordBridge" (287 : Nat) ({ cls := "java/lang/Integer", name := "bitCount", desc := "(I)I" } : Jvm.MethodName) ∈ gTbl := tb4 13 rfl rfl
theorem c_4_14 : Jvm.Cond.static ({ cls := "java/lang/Integer", name := "bitCount", desc := "(I)I" } : Jvm.MethodName) ∈ gTbl := tb4 14 rfl rfl
theorem c_4_15 : Jvm.Cond.code ({ cls := "java/lang/Integer", name := "bitCount", desc := "(I)I" } : Jvm.MethodName) prog_18_method_49_code (1 : Nat) (Option.some Jvm.ClassFile.FieldType.int) ∈ gTbl := tb4 15 rfl rfl
theorem c_4_16 : Jvm.Cond.constant "java/lang/Integer" (265 : Nat) (1431655765 : Int32) ∈ gTbl := tb4 16 rfl rfl
theorem c_4_17 : Jvm.Cond.constant "java/lang/Integer" (266 : Nat) (858993459 : Int32) ∈ gTbl := tb4 17 rfl rfl
theorem c_4_18 : Jvm.Cond.constant "java/lang/Integer" (267 : Nat) (252645135 : Int32) ∈ gTbl := tb4 18 rfl rfl
theorem c_4_19 : Jvm.Cond.methodLink "RecordBridgeLaw" (118 : Nat) ({ cls := "RecordBridge", name := "equal", desc := "(II)I" } : Jvm.MethodName) ∈ gTbl := tb4 19 rfl rfl
theorem c_4_20 : Jvm.Cond.instanceMethod ({ cls := "RecordBridge", name := "equal", desc := "(II)I" } : Jvm.MethodName) ∈ gTbl := tb4 20 rfl rfl
theorem c_4_21 : Jvm.Cond.selects "RecordBridge" ({ cls := "RecordBridge", name := "equal", desc := "(II)I" } : Jvm.MethodName) ({ cls := "RecordBridge", name := "equal", desc := "(II)I" } : Jvm.MethodName) ∈ gTbl := tb4 21 rfl rfl
theorem c_4_22 : Jvm.Cond.code ({ cls := "RecordBridge", name := "equal", desc := "(II)I" } : Jvm.MethodName) prog_1_method_25_code (5 : Nat) (Option.some Jvm.ClassFile.FieldType.int) ∈ gTbl := tb4 22 rfl rfl
theorem c_4_23 : Jvm.Cond.methodLink "RecordBridge" (292 : Nat) ({ cls := "RecordBridge$Comparer", name := "compareValues", desc := "(LRecordBridge$Value;LRecordBridge$Value;)I" } : Jvm.MethodName) ∈ gTbl := tb4 23 rfl rfl
theorem c_4_24 : Jvm.Cond.instanceMethod ({ cls := "RecordBridge$Comparer", name := "compareValues", desc := "(LRecordBridge$Value;LRecordBridge$Value;)I" } : Jvm.MethodName) ∈ gTbl := tb4 24 rfl rfl
theorem c_4_25 : Jvm.Cond.selects "RecordBridge$Comparer" ({ cls := "RecordBridge$Comparer", name := "compareValues", desc := "(LRecordBridge$Value;LRecordBridge$Value;)I" } : Jvm.MethodName) ({ cls := "RecordBridge$Comparer", name := "compareValues", desc := "(LRecordBridge$Value;LRecordBridge$Value;)I" } : Jvm.MethodName) ∈ gTbl := tb4 25 rfl rfl
theorem c_4_26 : Jvm.Cond.code ({ cls := "RecordBridge$Comparer", name := "compareValues", desc := "(LRecordBridge$Value;LRecordBridge$Value;)I" } : Jvm.MethodName) prog_2_method_2_code (5 : Nat) (Option.some Jvm.ClassFile.FieldType.int) ∈ gTbl := tb4 26 rfl rfl
theorem c_4_27 : Jvm.Cond.methodLink "RecordBridge$Comparer" (13 : Nat) ({ cls := "RecordBridge$Comparer", name := "nothingFirst", desc := "(ZZ)I" } : Jvm.MethodName) ∈ gTbl := tb4 27 rfl rfl
theorem c_4_28 : Jvm.Cond.static ({ cls := "RecordBridge$Comparer", name := "nothingFirst", desc := "(ZZ)I" } : Jvm.MethodName) ∈ gTbl := tb4 28 rfl rfl
theorem c_4_29 : Jvm.Cond.code ({ cls := "RecordBridge$Comparer", name := "nothingFirst", desc := "(ZZ)I" } : Jvm.MethodName) prog_2_method_10_code (2 : Nat) (Option.some Jvm.ClassFile.FieldType.int) ∈ gTbl := tb4 29 rfl rfl
theorem c_4_31 : Jvm.Cond.methodLink "RecordBridge$Comparer" (29 : Nat) ({ cls := "RecordBridge$Comparer", name := "lesserFirst", desc := "(JJ)I" } : Jvm.MethodName) ∈ gTbl := tb4 31 rfl rfl
theorem c_4_32 : Jvm.Cond.static ({ cls := "RecordBridge$Comparer", name := "lesserFirst", desc := "(JJ)I" } : Jvm.MethodName) ∈ gTbl := tb4 32 rfl rfl
theorem c_4_33 : Jvm.Cond.code ({ cls := "RecordBridge$Comparer", name := "lesserFirst", desc := "(JJ)I" } : Jvm.MethodName) prog_2_method_9_code (4 : Nat) (Option.some Jvm.ClassFile.FieldType.int) ∈ gTbl := tb4 33 rfl rfl
theorem c_4_34 : Jvm.Cond.methodLink "RecordBridge$Comparer" (47 : Nat) ({ cls := "RecordBridge$Comparer", name := "compareParts", desc := "(LRecordBridge$Value;LRecordBridge$Value;)I" } : Jvm.MethodName) ∈ gTbl := tb4 34 rfl rfl
theorem c_4_36 : Jvm.Cond.instanceMethod ({ cls := "RecordBridge$Comparer", name := "compareParts", desc := "(LRecordBridge$Value;LRecordBridge$Value;)I" } : Jvm.MethodName) ∈ gTbl := tb4 36 rfl rfl
theorem c_4_37 : Jvm.Cond.code ({ cls := "RecordBridge$Comparer", name := "compareParts", desc := "(LRecordBridge$Value;LRecordBridge$Value;)I" } : Jvm.MethodName) prog_2_method_4_code (5 : Nat) (Option.some Jvm.ClassFile.FieldType.int) ∈ gTbl := tb4 37 rfl rfl
theorem c_4_38 : Jvm.Cond.methodLink "RecordBridge$Comparer" (63 : Nat) ({ cls := "RecordBridge$Comparer", name := "compareAny", desc := "(IJJ)I" } : Jvm.MethodName) ∈ gTbl := tb4 38 rfl rfl
theorem c_4_40 : Jvm.Cond.instanceMethod ({ cls := "RecordBridge$Comparer", name := "compareAny", desc := "(IJJ)I" } : Jvm.MethodName) ∈ gTbl := tb4 40 rfl rfl
theorem c_4_41 : Jvm.Cond.code ({ cls := "RecordBridge$Comparer", name := "compareAny", desc := "(IJJ)I" } : Jvm.MethodName) prog_2_method_5_code (6 : Nat) (Option.some Jvm.ClassFile.FieldType.int) ∈ gTbl := tb4 41 rfl rfl
theorem c_4_42 : Jvm.Cond.methodLink "RecordBridge$Comparer" (69 : Nat) ({ cls := "RecordBridge$Store", name := "findValue", desc := "(J)LRecordBridge$Value;" } : Jvm.MethodName) ∈ gTbl := tb4 42 rfl rfl
theorem c_4_43 : Jvm.Cond.methodLink "RecordBridge$Comparer" (75 : Nat) ({ cls := "RecordBridge$Comparer", name := "compareValues", desc := "(LRecordBridge$Value;LRecordBridge$Value;)I" } : Jvm.MethodName) ∈ gTbl := tb4 43 rfl rfl
theorem c_4_44 : Jvm.Cond.methodLink "RecordBridge$Comparer" (78 : Nat) ({ cls := "RecordBridge$Store", name := "findRow", desc := "(J)LRecordBridge$Row;" } : Jvm.MethodName) ∈ gTbl := tb4 44 rfl rfl
theorem c_4_45 : Jvm.Cond.methodLink "RecordBridge$Comparer" (82 : Nat) ({ cls := "RecordBridge$Comparer", name := "compareRows", desc := "(LRecordBridge$Row;LRecordBridge$Row;)I" } : Jvm.MethodName) ∈ gTbl := tb4 45 rfl rfl
theorem c_4_47 : Jvm.Cond.instanceMethod ({ cls := "RecordBridge$Comparer", name := "compareRows", desc := "(LRecordBridge$Row;LRecordBridge$Row;)I" } : Jvm.MethodName) ∈ gTbl := tb4 47 rfl rfl
theorem c_4_48 : Jvm.Cond.code ({ cls := "RecordBridge$Comparer", name := "compareRows", desc := "(LRecordBridge$Row;LRecordBridge$Row;)I" } : Jvm.MethodName) prog_2_method_6_code (6 : Nat) (Option.some Jvm.ClassFile.FieldType.int) ∈ gTbl := tb4 48 rfl rfl
theorem c_4_49 : Jvm.Cond.methodLink "RecordBridge$Comparer" (86 : Nat) ({ cls := "RecordBridge$Lanes", name := "rank", desc := "(IJ)J" } : Jvm.MethodName) ∈ gTbl := tb4 49 rfl rfl
theorem c_4_50 : Jvm.Cond.static ({ cls := "RecordBridge$Lanes", name := "rank", desc := "(IJ)J" } : Jvm.MethodName) ∈ gTbl := tb4 50 rfl rfl
theorem c_4_51 : Jvm.Cond.code ({ cls := "RecordBridge$Lanes", name := "rank", desc := "(IJ)J" } : Jvm.MethodName) prog_6_method_9_code (4 : Nat) (Option.some Jvm.ClassFile.FieldType.long) ∈ gTbl := tb4 51 rfl rfl
theorem c_4_52 : Jvm.Cond.constantLong "RecordBridge$Lanes" (33 : Nat) (9223372036854775807 : Int64) ∈ gTbl := tb4 52 rfl rfl
theorem c_4_53 : Jvm.Cond.methodLink "RecordBridgeLaw" (122 : Nat) ({ cls := "RecordBridge", name := "order", desc := "(II)I" } : Jvm.MethodName) ∈ gTbl := tb4 53 rfl rfl
theorem c_4_54 : Jvm.Cond.instanceMethod ({ cls := "RecordBridge", name := "order", desc := "(II)I" } : Jvm.MethodName) ∈ gTbl := tb4 54 rfl rfl
theorem c_4_55 : Jvm.Cond.selects "RecordBridge" ({ cls := "RecordBridge", name := "order", desc := "(II)I" } : Jvm.MethodName) ({ cls := "RecordBridge", name := "order", desc := "(II)I" } : Jvm.MethodName) ∈ gTbl := tb4 55 rfl rfl
theorem c_4_56 : Jvm.Cond.code ({ cls := "RecordBridge", name := "order", desc := "(II)I" } : Jvm.MethodName) prog_1_method_26_code (5 : Nat) (Option.some Jvm.ClassFile.FieldType.int) ∈ gTbl := tb4 56 rfl rfl
theorem c_4_57 : Jvm.Cond.methodLink "RecordBridgeLaw" (126 : Nat) ({ cls := "RecordBridge", name := "hash", desc := "(I)J" } : Jvm.MethodName) ∈ gTbl := tb4 57 rfl rfl
theorem c_4_58 : Jvm.Cond.instanceMethod ({ cls := "RecordBridge", name := "hash", desc := "(I)J" } : Jvm.MethodName) ∈ gTbl := tb4 58 rfl rfl
theorem c_4_59 : Jvm.Cond.selects "RecordBridge" ({ cls := "RecordBridge", name := "hash", desc := "(I)J" } : Jvm.MethodName) ({ cls := "RecordBridge", name := "hash", desc := "(I)J" } : Jvm.MethodName) ∈ gTbl := tb4 59 rfl rfl
theorem c_4_60 : Jvm.Cond.code ({ cls := "RecordBridge", name := "hash", desc := "(I)J" } : Jvm.MethodName) prog_1_method_27_code (3 : Nat) (Option.some Jvm.ClassFile.FieldType.long) ∈ gTbl := tb4 60 rfl rfl
theorem c_4_61 : Jvm.Cond.methodLink "RecordBridge" (296 : Nat) ({ cls := "RecordBridge$Comparer", name := "hashValue", desc := "(LRecordBridge$Value;)I" } : Jvm.MethodName) ∈ gTbl := tb4 61 rfl rfl
theorem c_4_62 : Jvm.Cond.instanceMethod ({ cls := "RecordBridge$Comparer", name := "hashValue", desc := "(LRecordBridge$Value;)I" } : Jvm.MethodName) ∈ gTbl := tb4 62 rfl rfl
theorem c_4_63 : Jvm.Cond.selects "RecordBridge$Comparer" ({ cls := "RecordBridge$Comparer", name := "hashValue", desc := "(LRecordBridge$Value;)I" } : Jvm.MethodName) ({ cls := "RecordBridge$Comparer", name := "hashValue", desc := "(LRecordBridge$Value;)I" } : Jvm.MethodName) ∈ gTbl := tb4 63 rfl rfl
theorem c_4_64 : Jvm.Cond.code ({ cls := "RecordBridge$Comparer", name := "hashValue", desc := "(LRecordBridge$Value;)I" } : Jvm.MethodName) prog_2_method_3_code (4 : Nat) (Option.some Jvm.ClassFile.FieldType.int) ∈ gTbl := tb4 64 rfl rfl
theorem c_4_65 : Jvm.Cond.methodLink "RecordBridge$Comparer" (59 : Nat) ({ cls := "RecordBridge$Comparer", name := "hashAny", desc := "(IJ)I" } : Jvm.MethodName) ∈ gTbl := tb4 65 rfl rfl
theorem c_4_67 : Jvm.Cond.instanceMethod ({ cls := "RecordBridge$Comparer", name := "hashAny", desc := "(IJ)I" } : Jvm.MethodName) ∈ gTbl := tb4 67 rfl rfl
theorem c_4_68 : Jvm.Cond.code ({ cls := "RecordBridge$Comparer", name := "hashAny", desc := "(IJ)I" } : Jvm.MethodName) prog_2_method_7_code (4 : Nat) (Option.some Jvm.ClassFile.FieldType.int) ∈ gTbl := tb4 68 rfl rfl
theorem c_4_69 : Jvm.Cond.methodLink "RecordBridge$Comparer" (98 : Nat) ({ cls := "RecordBridge$Comparer", name := "hashValue", desc := "(LRecordBridge$Value;)I" } : Jvm.MethodName) ∈ gTbl := tb4 69 rfl rfl
theorem c_4_70 : Jvm.Cond.methodLink "RecordBridge$Comparer" (102 : Nat) ({ cls := "RecordBridge$Comparer", name := "hashRow", desc := "(LRecordBridge$Row;)I" } : Jvm.MethodName) ∈ gTbl := tb4 70 rfl rfl
theorem c_4_72 : Jvm.Cond.instanceMethod ({ cls := "RecordBridge$Comparer", name := "hashRow", desc := "(LRecordBridge$Row;)I" } : Jvm.MethodName) ∈ gTbl := tb4 72 rfl rfl
theorem c_4_73 : Jvm.Cond.code ({ cls := "RecordBridge$Comparer", name := "hashRow", desc := "(LRecordBridge$Row;)I" } : Jvm.MethodName) prog_2_method_8_code (4 : Nat) (Option.some Jvm.ClassFile.FieldType.int) ∈ gTbl := tb4 73 rfl rfl
theorem c_4_74 : Jvm.Cond.methodLink "RecordBridge$Comparer" (106 : Nat) ({ cls := "RecordBridge$Lanes", name := "hashNumber", desc := "(IJ)I" } : Jvm.MethodName) ∈ gTbl := tb4 74 rfl rfl
theorem c_4_75 : Jvm.Cond.static ({ cls := "RecordBridge$Lanes", name := "hashNumber", desc := "(IJ)I" } : Jvm.MethodName) ∈ gTbl := tb4 75 rfl rfl
theorem c_4_76 : Jvm.Cond.code ({ cls := "RecordBridge$Lanes", name := "hashNumber", desc := "(IJ)I" } : Jvm.MethodName) prog_6_method_10_code (3 : Nat) (Option.some Jvm.ClassFile.FieldType.int) ∈ gTbl := tb4 76 rfl rfl
theorem c_4_77 : Jvm.Cond.methodLink "RecordBridgeLaw" (131 : Nat) ({ cls := "RecordBridge", name := "weight", desc := "(I)I" } : Jvm.MethodName) ∈ gTbl := tb4 77 rfl rfl
theorem c_4_78 : Jvm.Cond.instanceMethod ({ cls := "RecordBridge", name := "weight", desc := "(I)I" } : Jvm.MethodName) ∈ gTbl := tb4 78 rfl rfl
theorem c_4_79 : Jvm.Cond.selects "RecordBridge" ({ cls := "RecordBridge", name := "weight", desc := "(I)I" } : Jvm.MethodName) ({ cls := "RecordBridge", name := "weight", desc := "(I)I" } : Jvm.MethodName) ∈ gTbl := tb4 79 rfl rfl
theorem c_4_80 : Jvm.Cond.code ({ cls := "RecordBridge", name := "weight", desc := "(I)I" } : Jvm.MethodName) prog_1_method_28_code (3 : Nat) (Option.some Jvm.ClassFile.FieldType.int) ∈ gTbl := tb4 80 rfl rfl
theorem c_4_81 : Jvm.Cond.methodLink "RecordBridge" (300 : Nat) ({ cls := "RecordBridge", name := "weigh", desc := "(LRecordBridge$Value;)I" } : Jvm.MethodName) ∈ gTbl := tb4 81 rfl rfl
theorem c_4_83 : Jvm.Cond.instanceMethod ({ cls := "RecordBridge", name := "weigh", desc := "(LRecordBridge$Value;)I" } : Jvm.MethodName) ∈ gTbl := tb4 83 rfl rfl
theorem c_4_84 : Jvm.Cond.code ({ cls := "RecordBridge", name := "weigh", desc := "(LRecordBridge$Value;)I" } : Jvm.MethodName) prog_1_method_53_code (2 : Nat) (Option.some Jvm.ClassFile.FieldType.int) ∈ gTbl := tb4 84 rfl rfl
theorem c_4_85 : Jvm.Cond.methodLink "RecordBridge" (399 : Nat) ({ cls := "RecordBridge", name := "weighConstant", desc := "(LRecordBridge$Value;)I" } : Jvm.MethodName) ∈ gTbl := tb4 85 rfl rfl
theorem c_4_87 : Jvm.Cond.instanceMethod ({ cls := "RecordBridge", name := "weighConstant", desc := "(LRecordBridge$Value;)I" } : Jvm.MethodName) ∈ gTbl := tb4 87 rfl rfl
theorem c_4_88 : Jvm.Cond.code ({ cls := "RecordBridge", name := "weighConstant", desc := "(LRecordBridge$Value;)I" } : Jvm.MethodName) prog_1_method_56_code (2 : Nat) (Option.some Jvm.ClassFile.FieldType.int) ∈ gTbl := tb4 88 rfl rfl
theorem c_4_89 : Jvm.Cond.methodLink "RecordBridge" (409 : Nat) ({ cls := "RecordBridge", name := "weighFirstBody", desc := "(LRecordBridge$Value;)I" } : Jvm.MethodName) ∈ gTbl := tb4 89 rfl rfl
theorem c_4_91 : Jvm.Cond.instanceMethod ({ cls := "RecordBridge", name := "weighFirstBody", desc := "(LRecordBridge$Value;)I" } : Jvm.MethodName) ∈ gTbl := tb4 91 rfl rfl
theorem c_4_92 : Jvm.Cond.code ({ cls := "RecordBridge", name := "weighFirstBody", desc := "(LRecordBridge$Value;)I" } : Jvm.MethodName) prog_1_method_57_code (2 : Nat) (Option.some Jvm.ClassFile.FieldType.int) ∈ gTbl := tb4 92 rfl rfl
theorem c_4_93 : Jvm.Cond.methodLink "RecordBridge" (412 : Nat) ({ cls := "RecordBridge", name := "weighSecondBody", desc := "(LRecordBridge$Value;)I" } : Jvm.MethodName) ∈ gTbl := tb4 93 rfl rfl
theorem c_4_95 : Jvm.Cond.instanceMethod ({ cls := "RecordBridge", name := "weighSecondBody", desc := "(LRecordBridge$Value;)I" } : Jvm.MethodName) ∈ gTbl := tb4 95 rfl rfl
theorem c_4_96 : Jvm.Cond.code ({ cls := "RecordBridge", name := "weighSecondBody", desc := "(LRecordBridge$Value;)I" } : Jvm.MethodName) prog_1_method_58_code (2 : Nat) (Option.some Jvm.ClassFile.FieldType.int) ∈ gTbl := tb4 96 rfl rfl
theorem c_4_97 : Jvm.Cond.methodLink "RecordBridge" (415 : Nat) ({ cls := "RecordBridge", name := "weighLastBody", desc := "(LRecordBridge$Value;)I" } : Jvm.MethodName) ∈ gTbl := tb4 97 rfl rfl
theorem c_4_99 : Jvm.Cond.instanceMethod ({ cls := "RecordBridge", name := "weighLastBody", desc := "(LRecordBridge$Value;)I" } : Jvm.MethodName) ∈ gTbl := tb4 99 rfl rfl
theorem c_4_100 : Jvm.Cond.code ({ cls := "RecordBridge", name := "weighLastBody", desc := "(LRecordBridge$Value;)I" } : Jvm.MethodName) prog_1_method_59_code (2 : Nat) (Option.some Jvm.ClassFile.FieldType.int) ∈ gTbl := tb4 100 rfl rfl
theorem c_4_101 : Jvm.Cond.methodLink "RecordBridge" (402 : Nat) ({ cls := "RecordBridge", name := "weighRecord", desc := "(LRecordBridge$Value;)I" } : Jvm.MethodName) ∈ gTbl := tb4 101 rfl rfl
theorem c_4_103 : Jvm.Cond.instanceMethod ({ cls := "RecordBridge", name := "weighRecord", desc := "(LRecordBridge$Value;)I" } : Jvm.MethodName) ∈ gTbl := tb4 103 rfl rfl
theorem c_4_104 : Jvm.Cond.code ({ cls := "RecordBridge", name := "weighRecord", desc := "(LRecordBridge$Value;)I" } : Jvm.MethodName) prog_1_method_54_code (5 : Nat) (Option.some Jvm.ClassFile.FieldType.int) ∈ gTbl := tb4 104 rfl rfl
theorem c_4_105 : Jvm.Cond.methodLink "RecordBridge" (405 : Nat) ({ cls := "RecordBridge", name := "weighLent", desc := "()I" } : Jvm.MethodName) ∈ gTbl := tb4 105 rfl rfl
theorem c_4_107 : Jvm.Cond.instanceMethod ({ cls := "RecordBridge", name := "weighLent", desc := "()I" } : Jvm.MethodName) ∈ gTbl := tb4 107 rfl rfl
theorem c_4_108 : Jvm.Cond.code ({ cls := "RecordBridge", name := "weighLent", desc := "()I" } : Jvm.MethodName) prog_1_method_55_code (1 : Nat) (Option.some Jvm.ClassFile.FieldType.int) ∈ gTbl := tb4 108 rfl rfl
theorem c_4_109 : Jvm.Cond.methodLink "RecordBridgeLaw" (135 : Nat) ({ cls := "RecordBridge", name := "show", desc := "(I)I" } : Jvm.MethodName) ∈ gTbl := tb4 109 rfl rfl
theorem c_4_110 : Jvm.Cond.instanceMethod ({ cls := "RecordBridge", name := "show", desc := "(I)I" } : Jvm.MethodName) ∈ gTbl := tb4 110 rfl rfl
theorem c_4_111 : Jvm.Cond.selects "RecordBridge" ({ cls := "RecordBridge", name := "show", desc := "(I)I" } : Jvm.MethodName) ({ cls := "RecordBridge", name := "show", desc := "(I)I" } : Jvm.MethodName) ∈ gTbl := tb4 111 rfl rfl
theorem c_4_112 : Jvm.Cond.code ({ cls := "RecordBridge", name := "show", desc := "(I)I" } : Jvm.MethodName) prog_1_method_29_code (3 : Nat) (Option.some Jvm.ClassFile.FieldType.int) ∈ gTbl := tb4 112 rfl rfl
theorem c_4_113 : Jvm.Cond.methodLink "RecordBridge" (303 : Nat) ({ cls := "RecordBridge$Scribe", name := "writes", desc := "(LRecordBridge$Value;)Z" } : Jvm.MethodName) ∈ gTbl := tb4 113 rfl rfl
theorem c_4_114 : Jvm.Cond.instanceMethod ({ cls := "RecordBridge$Scribe", name := "writes", desc := "(LRecordBridge$Value;)Z" } : Jvm.MethodName) ∈ gTbl := tb4 114 rfl rfl
theorem c_4_115 : Jvm.Cond.selects "RecordBridge$Scribe" ({ cls := "RecordBridge$Scribe", name := "writes", desc := "(LRecordBridge$Value;)Z" } : Jvm.MethodName) ({ cls := "RecordBridge$Scribe", name := "writes", desc := "(LRecordBridge$Value;)Z" } : Jvm.MethodName) ∈ gTbl := tb4 115 rfl rfl
theorem c_4_116 : Jvm.Cond.code ({ cls := "RecordBridge$Scribe", name := "writes", desc := "(LRecordBridge$Value;)Z" } : Jvm.MethodName) prog_8_method_2_code (3 : Nat) (Option.some Jvm.ClassFile.FieldType.boolean) ∈ gTbl := tb4 116 rfl rfl
theorem c_4_117 : Jvm.Cond.methodLink "RecordBridge$Scribe" (23 : Nat) ({ cls := "RecordBridge$Text", name := "clear", desc := "()V" } : Jvm.MethodName) ∈ gTbl := tb4 117 rfl rfl
theorem c_4_118 : Jvm.Cond.instanceMethod ({ cls := "RecordBridge$Text", name := "clear", desc := "()V" } : Jvm.MethodName) ∈ gTbl := tb4 118 rfl rfl
theorem c_4_119 : Jvm.Cond.selects "RecordBridge$Text" ({ cls := "RecordBridge$Text", name := "clear", desc := "()V" } : Jvm.MethodName) ({ cls := "RecordBridge$Text", name := "clear", desc := "()V" } : Jvm.MethodName) ∈ gTbl := tb4 119 rfl rfl
theorem c_4_120 : Jvm.Cond.code ({ cls := "RecordBridge$Text", name := "clear", desc := "()V" } : Jvm.MethodName) prog_10_method_2_code (1 : Nat) (Option.none : Option Jvm.ClassFile.FieldType) ∈ gTbl := tb4 120 rfl rfl
theorem c_4_121 : Jvm.Cond.methodLink "RecordBridge$Scribe" (26 : Nat) ({ cls := "RecordBridge$Scribe", name := "writeValue", desc := "(LRecordBridge$Value;)V" } : Jvm.MethodName) ∈ gTbl := tb4 121 rfl rfl
theorem c_4_123 : Jvm.Cond.instanceMethod ({ cls := "RecordBridge$Scribe", name := "writeValue", desc := "(LRecordBridge$Value;)V" } : Jvm.MethodName) ∈ gTbl := tb4 123 rfl rfl
theorem c_4_124 : Jvm.Cond.code ({ cls := "RecordBridge$Scribe", name := "writeValue", desc := "(LRecordBridge$Value;)V" } : Jvm.MethodName) prog_8_method_3_code (2 : Nat) (Option.none : Option Jvm.ClassFile.FieldType) ∈ gTbl := tb4 124 rfl rfl
theorem c_4_125 : Jvm.Cond.methodLink "RecordBridge$Scribe" (34 : Nat) ({ cls := "RecordBridge$Text", name := "addSign", desc := "(C)V" } : Jvm.MethodName) ∈ gTbl := tb4 125 rfl rfl
theorem c_4_126 : Jvm.Cond.instanceMethod ({ cls := "RecordBridge$Text", name := "addSign", desc := "(C)V" } : Jvm.MethodName) ∈ gTbl := tb4 126 rfl rfl
theorem c_4_127 : Jvm.Cond.selects "RecordBridge$Text" ({ cls := "RecordBridge$Text", name := "addSign", desc := "(C)V" } : Jvm.MethodName) ({ cls := "RecordBridge$Text", name := "addSign", desc := "(C)V" } : Jvm.MethodName) ∈ gTbl := tb4 127 rfl rfl
theorem c_4_128 : Jvm.Cond.code ({ cls := "RecordBridge$Text", name := "addSign", desc := "(C)V" } : Jvm.MethodName) prog_10_method_3_code (2 : Nat) (Option.none : Option Jvm.ClassFile.FieldType) ∈ gTbl := tb4 128 rfl rfl
theorem c_4_129 : Jvm.Cond.methodLink "RecordBridge$Scribe" (53 : Nat) ({ cls := "RecordBridge$Text", name := "addNumber", desc := "(J)V" } : Jvm.MethodName) ∈ gTbl := tb4 129 rfl rfl
theorem c_4_130 : Jvm.Cond.instanceMethod ({ cls := "RecordBridge$Text", name := "addNumber", desc := "(J)V" } : Jvm.MethodName) ∈ gTbl := tb4 130 rfl rfl
theorem c_4_131 : Jvm.Cond.selects "RecordBridge$Text" ({ cls := "RecordBridge$Text", name := "addNumber", desc := "(J)V" } : Jvm.MethodName) ({ cls := "RecordBridge$Text", name := "addNumber", desc := "(J)V" } : Jvm.MethodName) ∈ gTbl := tb4 131 rfl rfl
theorem c_4_132 : Jvm.Cond.code ({ cls := "RecordBridge$Text", name := "addNumber", desc := "(J)V" } : Jvm.MethodName) prog_10_method_4_code (7 : Nat) (Option.none : Option Jvm.ClassFile.FieldType) ∈ gTbl := tb4 132 rfl rfl
theorem c_4_133 : Jvm.Cond.methodLink "RecordBridge$Text" (27 : Nat) ({ cls := "RecordBridge$Text", name := "addSign", desc := "(C)V" } : Jvm.MethodName) ∈ gTbl := tb4 133 rfl rfl
theorem c_4_134 : Jvm.Cond.constantLong "RecordBridge$Text" (31 : Nat) (48 : Int64) ∈ gTbl := tb4 134 rfl rfl
theorem c_4_135 : Jvm.Cond.constantLong "RecordBridge$Text" (33 : Nat) (10 : Int64) ∈ gTbl := tb4 135 rfl rfl
theorem c_4_136 : Jvm.Cond.methodLink "RecordBridge$Scribe" (57 : Nat) ({ cls := "RecordBridge$Scribe", name := "writeRecord", desc := "(LRecordBridge$Value;)V" } : Jvm.MethodName) ∈ gTbl := tb4 136 rfl rfl
theorem c_4_138 : Jvm.Cond.instanceMethod ({ cls := "RecordBridge$Scribe", name := "writeRecord", desc := "(LRecordBridge$Value;)V" } : Jvm.MethodName) ∈ gTbl := tb4 138 rfl rfl
theorem c_4_139 : Jvm.Cond.code ({ cls := "RecordBridge$Scribe", name := "writeRecord", desc := "(LRecordBridge$Value;)V" } : Jvm.MethodName) prog_8_method_4_code (3 : Nat) (Option.none : Option Jvm.ClassFile.FieldType) ∈ gTbl := tb4 139 rfl rfl
theorem c_4_140 : Jvm.Cond.methodLink "RecordBridge$Scribe" (80 : Nat) ({ cls := "RecordBridge$Scribe", name := "writeAny", desc := "(IJ)V" } : Jvm.MethodName) ∈ gTbl := tb4 140 rfl rfl
theorem c_4_142 : Jvm.Cond.instanceMethod ({ cls := "RecordBridge$Scribe", name := "writeAny", desc := "(IJ)V" } : Jvm.MethodName) ∈ gTbl := tb4 142 rfl rfl
theorem c_4_143 : Jvm.Cond.code ({ cls := "RecordBridge$Scribe", name := "writeAny", desc := "(IJ)V" } : Jvm.MethodName) prog_8_method_5_code (4 : Nat) (Option.none : Option Jvm.ClassFile.FieldType) ∈ gTbl := tb4 143 rfl rfl
theorem c_4_144 : Jvm.Cond.methodLink "RecordBridge$Scribe" (84 : Nat) ({ cls := "RecordBridge$Store", name := "findValue", desc := "(J)LRecordBridge$Value;" } : Jvm.MethodName) ∈ gTbl := tb4 144 rfl rfl
theorem c_4_145 : Jvm.Cond.methodLink "RecordBridge$Scribe" (90 : Nat) ({ cls := "RecordBridge$Store", name := "findRow", desc := "(J)LRecordBridge$Row;" } : Jvm.MethodName) ∈ gTbl := tb4 145 rfl rfl
theorem c_4_146 : Jvm.Cond.methodLink "RecordBridge$Scribe" (94 : Nat) ({ cls := "RecordBridge$Scribe", name := "writeRow", desc := "(LRecordBridge$Row;)V" } : Jvm.MethodName) ∈ gTbl := tb4 146 rfl rfl
theorem c_4_148 : Jvm.Cond.instanceMethod ({ cls := "RecordBridge$Scribe", name := "writeRow", desc := "(LRecordBridge$Row;)V" } : Jvm.MethodName) ∈ gTbl := tb4 148 rfl rfl
theorem c_4_149 : Jvm.Cond.code ({ cls := "RecordBridge$Scribe", name := "writeRow", desc := "(LRecordBridge$Row;)V" } : Jvm.MethodName) prog_8_method_6_code (3 : Nat) (Option.none : Option Jvm.ClassFile.FieldType) ∈ gTbl := tb4 149 rfl rfl
theorem c_4_150 : Jvm.Cond.methodLink "RecordBridgeLaw" (139 : Nat) ({ cls := "RecordBridge", name := "byteAt", desc := "(I)I" } : Jvm.MethodName) ∈ gTbl := tb4 150 rfl rfl
theorem c_4_151 : Jvm.Cond.instanceMethod ({ cls := "RecordBridge", name := "byteAt", desc := "(I)I" } : Jvm.MethodName) ∈ gTbl := tb4 151 rfl rfl
theorem c_4_152 : Jvm.Cond.selects "RecordBridge" ({ cls := "RecordBridge", name := "byteAt", desc := "(I)I" } : Jvm.MethodName) ({ cls := "RecordBridge", name := "byteAt", desc := "(I)I" } : Jvm.MethodName) ∈ gTbl := tb4 152 rfl rfl
theorem c_4_153 : Jvm.Cond.code ({ cls := "RecordBridge", name := "byteAt", desc := "(I)I" } : Jvm.MethodName) prog_1_method_30_code (3 : Nat) (Option.some Jvm.ClassFile.FieldType.int) ∈ gTbl := tb4 153 rfl rfl
theorem c_4_154 : Jvm.Cond.methodLink "RecordBridgeLaw" (143 : Nat) ({ cls := "RecordBridge", name := "carry", desc := "(I)I" } : Jvm.MethodName) ∈ gTbl := tb4 154 rfl rfl
theorem c_4_155 : Jvm.Cond.instanceMethod ({ cls := "RecordBridge", name := "carry", desc := "(I)I" } : Jvm.MethodName) ∈ gTbl := tb4 155 rfl rfl
theorem c_4_156 : Jvm.Cond.selects "RecordBridge" ({ cls := "RecordBridge", name := "carry", desc := "(I)I" } : Jvm.MethodName) ({ cls := "RecordBridge", name := "carry", desc := "(I)I" } : Jvm.MethodName) ∈ gTbl := tb4 156 rfl rfl
theorem c_4_157 : Jvm.Cond.code ({ cls := "RecordBridge", name := "carry", desc := "(I)I" } : Jvm.MethodName) prog_1_method_31_code (5 : Nat) (Option.some Jvm.ClassFile.FieldType.int) ∈ gTbl := tb4 157 rfl rfl
theorem c_4_158 : Jvm.Cond.methodLink "RecordBridge" (319 : Nat) ({ cls := "RecordBridge$Draft", name := "takeValue", desc := "(LRecordBridge$Value;LRecordBridge$Edition;)I" } : Jvm.MethodName) ∈ gTbl := tb4 158 rfl rfl
theorem c_4_159 : Jvm.Cond.instanceMethod ({ cls := "RecordBridge$Draft", name := "takeValue", desc := "(LRecordBridge$Value;LRecordBridge$Edition;)I" } : Jvm.MethodName) ∈ gTbl := tb4 159 rfl rfl
theorem c_4_160 : Jvm.Cond.selects "RecordBridge$Draft" ({ cls := "RecordBridge$Draft", name := "takeValue", desc := "(LRecordBridge$Value;LRecordBridge$Edition;)I" } : Jvm.MethodName) ({ cls := "RecordBridge$Draft", name := "takeValue", desc := "(LRecordBridge$Value;LRecordBridge$Edition;)I" } : Jvm.MethodName) ∈ gTbl := tb4 160 rfl rfl
theorem c_4_161 : Jvm.Cond.code ({ cls := "RecordBridge$Draft", name := "takeValue", desc := "(LRecordBridge$Value;LRecordBridge$Edition;)I" } : Jvm.MethodName) prog_3_method_3_code (6 : Nat) (Option.some Jvm.ClassFile.FieldType.int) ∈ gTbl := tb4 161 rfl rfl
theorem c_4_162 : Jvm.Cond.methodLink "RecordBridge$Draft" (48 : Nat) ({ cls := "RecordBridge$Edition", name := "find", desc := "(I)I" } : Jvm.MethodName) ∈ gTbl := tb4 162 rfl rfl
theorem c_4_163 : Jvm.Cond.methodLink "RecordBridge$Draft" (60 : Nat) ({ cls := "RecordBridge$Lanes", name := "isWidened", desc := "(II)Z" } : Jvm.MethodName) ∈ gTbl := tb4 163 rfl rfl
theorem c_4_164 : Jvm.Cond.methodLink "RecordBridge$Draft" (65 : Nat) ({ cls := "RecordBridge$Lanes", name := "widen", desc := "(IIJ)J" } : Jvm.MethodName) ∈ gTbl := tb4 164 rfl rfl
theorem c_4_165 : Jvm.Cond.methodLink "RecordBridgeLaw" (147 : Nat) ({ cls := "RecordBridge", name := "trace", desc := "()I" } : Jvm.MethodName) ∈ gTbl := tb4 165 rfl rfl
theorem c_4_166 : Jvm.Cond.instanceMethod ({ cls := "RecordBridge", name := "trace", desc := "()I" } : Jvm.MethodName) ∈ gTbl := tb4 166 rfl rfl
theorem c_4_167 : Jvm.Cond.selects "RecordBridge" ({ cls := "RecordBridge", name := "trace", desc := "()I" } : Jvm.MethodName) ({ cls := "RecordBridge", name := "trace", desc := "()I" } : Jvm.MethodName) ∈ gTbl := tb4 167 rfl rfl
theorem c_4_168 : Jvm.Cond.code ({ cls := "RecordBridge", name := "trace", desc := "()I" } : Jvm.MethodName) prog_1_method_32_code (1 : Nat) (Option.some Jvm.ClassFile.FieldType.int) ∈ gTbl := tb4 168 rfl rfl
theorem c_4_169 : Jvm.Cond.methodLink "RecordBridgeLaw" (152 : Nat) ({ cls := "RecordBridge", name := "fault", desc := "()I" } : Jvm.MethodName) ∈ gTbl := tb4 169 rfl rfl
theorem c_4_170 : Jvm.Cond.instanceMethod ({ cls := "RecordBridge", name := "fault", desc := "()I" } : Jvm.MethodName) ∈ gTbl := tb4 170 rfl rfl
theorem c_4_171 : Jvm.Cond.selects "RecordBridge" ({ cls := "RecordBridge", name := "fault", desc := "()I" } : Jvm.MethodName) ({ cls := "RecordBridge", name := "fault", desc := "()I" } : Jvm.MethodName) ∈ gTbl := tb4 171 rfl rfl
theorem c_4_172 : Jvm.Cond.code ({ cls := "RecordBridge", name := "fault", desc := "()I" } : Jvm.MethodName) prog_1_method_33_code (1 : Nat) (Option.some Jvm.ClassFile.FieldType.int) ∈ gTbl := tb4 172 rfl rfl
theorem c_4_173 : Jvm.Cond.methodLink "RecordBridgeLaw" (156 : Nat) ({ cls := "RecordBridge", name := "told", desc := "(I)I" } : Jvm.MethodName) ∈ gTbl := tb4 173 rfl rfl
theorem c_4_174 : Jvm.Cond.instanceMethod ({ cls := "RecordBridge", name := "told", desc := "(I)I" } : Jvm.MethodName) ∈ gTbl := tb4 174 rfl rfl
theorem c_4_175 : Jvm.Cond.selects "RecordBridge" ({ cls := "RecordBridge", name := "told", desc := "(I)I" } : Jvm.MethodName) ({ cls := "RecordBridge", name := "told", desc := "(I)I" } : Jvm.MethodName) ∈ gTbl := tb4 175 rfl rfl
theorem c_4_176 : Jvm.Cond.code ({ cls := "RecordBridge", name := "told", desc := "(I)I" } : Jvm.MethodName) prog_1_method_34_code (2 : Nat) (Option.some Jvm.ClassFile.FieldType.int) ∈ gTbl := tb4 176 rfl rfl
theorem c_4_177 : Jvm.Cond.classLink "RecordBridgeLaw" (10 : Nat) "RecordBridgeModel" ∈ gTbl := tb4 177 rfl rfl
theorem c_4_178 : Jvm.Cond.instantiable "RecordBridgeModel" (46 : Nat) ∈ gTbl := tb4 178 rfl rfl
theorem c_4_179 : Jvm.Cond.methodLink "RecordBridgeLaw" (12 : Nat) ({ cls := "RecordBridgeModel", name := "<init>", desc := "()V" } : Jvm.MethodName) ∈ gTbl := tb4 179 rfl rfl
theorem c_4_180 : Jvm.Cond.instanceMethod ({ cls := "RecordBridgeModel", name := "<init>", desc := "()V" } : Jvm.MethodName) ∈ gTbl := tb4 180 rfl rfl
theorem c_4_181 : Jvm.Cond.code ({ cls := "RecordBridgeModel", name := "<init>", desc := "()V" } : Jvm.MethodName) prog_14_method_1_code (2 : Nat) (Option.none : Option Jvm.ClassFile.FieldType) ∈ gTbl := tb4 181 rfl rfl
theorem c_4_182 : Jvm.Cond.methodLink "RecordBridgeModel" (1 : Nat) ({ cls := "java/lang/Object", name := "<init>", desc := "()V" } : Jvm.MethodName) ∈ gTbl := tb4 182 rfl rfl
theorem c_4_183 : Jvm.Cond.fieldLink "RecordBridgeModel" (117 : Nat) "RecordBridgeModel" "fault" "I" ∈ gTbl := tb4 183 rfl rfl
theorem c_4_184 : Jvm.Cond.fieldLink "RecordBridgeModel" (121 : Nat) "RecordBridgeModel" "faults" "I" ∈ gTbl := tb4 184 rfl rfl
theorem c_4_185 : Jvm.Cond.fieldLink "RecordBridgeModel" (128 : Nat) "RecordBridgeModel" "trace" "I" ∈ gTbl := tb4 185 rfl rfl
theorem c_4_186 : Jvm.Cond.fieldLink "RecordBridgeModel" (153 : Nat) "RecordBridgeModel" "rows" "I" ∈ gTbl := tb4 186 rfl rfl
theorem c_4_187 : Jvm.Cond.fieldLink "RecordBridgeModel" (7 : Nat) "RecordBridgeModel" "rowLane" "[I" ∈ gTbl := tb4 187 rfl rfl
theorem c_4_188 : Jvm.Cond.fieldLink "RecordBridgeModel" (13 : Nat) "RecordBridgeModel" "rowSize" "[I" ∈ gTbl := tb4 188 rfl rfl
theorem c_4_189 : Jvm.Cond.fieldLink "RecordBridgeModel" (16 : Nat) "RecordBridgeModel" "rowKept" "[Z" ∈ gTbl := tb4 189 rfl rfl
theorem c_4_190 : Jvm.Cond.fieldLink "RecordBridgeModel" (20 : Nat) "RecordBridgeModel" "cell" "[J" ∈ gTbl := tb4 190 rfl rfl
theorem c_4_191 : Jvm.Cond.fieldLink "RecordBridgeModel" (24 : Nat) "RecordBridgeModel" "hands" "[J" ∈ gTbl := tb4 191 rfl rfl
theorem c_4_192 : Jvm.Cond.fieldLink "RecordBridgeModel" (199 : Nat) "RecordBridgeModel" "kinds" "I" ∈ gTbl := tb4 192 rfl rfl
theorem c_4_193 : Jvm.Cond.fieldLink "RecordBridgeModel" (27 : Nat) "RecordBridgeModel" "isConstants" "[Z" ∈ gTbl := tb4 193 rfl rfl
theorem c_4_194 : Jvm.Cond.fieldLink "RecordBridgeModel" (30 : Nat) "RecordBridgeModel" "ruleOf" "[I" ∈ gTbl := tb4 194 rfl rfl
theorem c_4_195 : Jvm.Cond.fieldLink "RecordBridgeModel" (33 : Nat) "RecordBridgeModel" "isStarted" "[Z" ∈ gTbl := tb4 195 rfl rfl
theorem c_4_196 : Jvm.Cond.fieldLink "RecordBridgeModel" (36 : Nat) "RecordBridgeModel" "newest" "[I" ∈ gTbl := tb4 196 rfl rfl
theorem c_4_197 : Jvm.Cond.fieldLink "RecordBridgeModel" (39 : Nat) "RecordBridgeModel" "madeOf" "[I" ∈ gTbl := tb4 197 rfl rfl
theorem c_4_198 : Jvm.Cond.fieldLink "RecordBridgeModel" (42 : Nat) "RecordBridgeModel" "many" "[I" ∈ gTbl := tb4 198 rfl rfl
theorem c_4_199 : Jvm.Cond.fieldLink "RecordBridgeModel" (45 : Nat) "RecordBridgeModel" "word" "[I" ∈ gTbl := tb4 199 rfl rfl
theorem c_4_200 : Jvm.Cond.fieldLink "RecordBridgeModel" (48 : Nat) "RecordBridgeModel" "lane" "[I" ∈ gTbl := tb4 200 rfl rfl
theorem c_4_201 : Jvm.Cond.fieldLink "RecordBridgeModel" (51 : Nat) "RecordBridgeModel" "constant" "[I" ∈ gTbl := tb4 201 rfl rfl
theorem c_4_202 : Jvm.Cond.fieldLink "RecordBridgeModel" (228 : Nat) "RecordBridgeModel" "families" "I" ∈ gTbl := tb4 202 rfl rfl
theorem c_4_203 : Jvm.Cond.fieldLink "RecordBridgeModel" (54 : Nat) "RecordBridgeModel" "familyOf" "[I" ∈ gTbl := tb4 203 rfl rfl
theorem c_4_204 : Jvm.Cond.fieldLink "RecordBridgeModel" (57 : Nat) "RecordBridgeModel" "sealed" "[Z" ∈ gTbl := tb4 204 rfl rfl
theorem c_4_205 : Jvm.Cond.fieldLink "RecordBridgeModel" (60 : Nat) "RecordBridgeModel" "trayLane" "[I" ∈ gTbl := tb4 205 rfl rfl
theorem c_4_206 : Jvm.Cond.fieldLink "RecordBridgeModel" (63 : Nat) "RecordBridgeModel" "tray" "[J" ∈ gTbl := tb4 206 rfl rfl
theorem c_4_207 : Jvm.Cond.fieldLink "RecordBridgeModel" (215 : Nat) "RecordBridgeModel" "values" "I" ∈ gTbl := tb4 207 rfl rfl
theorem c_4_208 : Jvm.Cond.fieldLink "RecordBridgeModel" (66 : Nat) "RecordBridgeModel" "valueKind" "[I" ∈ gTbl := tb4 208 rfl rfl
theorem c_4_209 : Jvm.Cond.fieldLink "RecordBridgeModel" (69 : Nat) "RecordBridgeModel" "valueEdition" "[I" ∈ gTbl := tb4 209 rfl rfl
theorem c_4_210 : Jvm.Cond.fieldLink "RecordBridgeModel" (72 : Nat) "RecordBridgeModel" "manieth" "[I" ∈ gTbl := tb4 210 rfl rfl
theorem c_4_211 : Jvm.Cond.fieldLink "RecordBridgeModel" (75 : Nat) "RecordBridgeModel" "size" "[I" ∈ gTbl := tb4 211 rfl rfl
theorem c_4_212 : Jvm.Cond.fieldLink "RecordBridgeModel" (78 : Nat) "RecordBridgeModel" "deep" "[I" ∈ gTbl := tb4 212 rfl rfl
theorem c_4_213 : Jvm.Cond.fieldLink "RecordBridgeModel" (81 : Nat) "RecordBridgeModel" "valueWord" "[I" ∈ gTbl := tb4 213 rfl rfl
theorem c_4_214 : Jvm.Cond.fieldLink "RecordBridgeModel" (84 : Nat) "RecordBridgeModel" "parts" "[J" ∈ gTbl := tb4 214 rfl rfl
theorem c_4_215 : Jvm.Cond.fieldLink "RecordBridgeModel" (87 : Nat) "RecordBridgeModel" "part" "[J" ∈ gTbl := tb4 215 rfl rfl
theorem c_4_216 : Jvm.Cond.fieldLink "RecordBridgeModel" (234 : Nat) "RecordBridgeModel" "sum" "I" ∈ gTbl := tb4 216 rfl rfl
theorem c_4_217 : Jvm.Cond.fieldLink "RecordBridgeModel" (237 : Nat) "RecordBridgeModel" "most" "I" ∈ gTbl := tb4 217 rfl rfl
theorem c_4_218 : Jvm.Cond.fieldLink "RecordBridgeModel" (271 : Nat) "RecordBridgeModel" "pile" "I" ∈ gTbl := tb4 218 rfl rfl
theorem c_4_219 : Jvm.Cond.fieldLink "RecordBridgeModel" (90 : Nat) "RecordBridgeModel" "goA" "[I" ∈ gTbl := tb4 219 rfl rfl
theorem c_4_220 : Jvm.Cond.fieldLink "RecordBridgeModel" (93 : Nat) "RecordBridgeModel" "goB" "[I" ∈ gTbl := tb4 220 rfl rfl
theorem c_4_221 : Jvm.Cond.fieldLink "RecordBridgeModel" (96 : Nat) "RecordBridgeModel" "goPart" "[I" ∈ gTbl := tb4 221 rfl rfl
theorem c_4_222 : Jvm.Cond.fieldLink "RecordBridgeModel" (99 : Nat) "RecordBridgeModel" "goCell" "[I" ∈ gTbl := tb4 222 rfl rfl
theorem c_4_223 : Jvm.Cond.fieldLink "RecordBridgeModel" (102 : Nat) "RecordBridgeModel" "goSum" "[I" ∈ gTbl := tb4 223 rfl rfl
theorem c_4_224 : Jvm.Cond.fieldLink "RecordBridgeModel" (105 : Nat) "RecordBridgeModel" "goRow" "[I" ∈ gTbl := tb4 224 rfl rfl
theorem c_4_225 : Jvm.Cond.fieldLink "RecordBridgeModel" (108 : Nat) "RecordBridgeModel" "draft" "[B" ∈ gTbl := tb4 225 rfl rfl
theorem c_4_226 : Jvm.Cond.fieldLink "RecordBridgeModel" (323 : Nat) "RecordBridgeModel" "drafted" "I" ∈ gTbl := tb4 226 rfl rfl
theorem c_4_227 : Jvm.Cond.fieldLink "RecordBridgeModel" (112 : Nat) "RecordBridgeModel" "text" "[B" ∈ gTbl := tb4 227 rfl rfl
theorem c_4_228 : Jvm.Cond.fieldLink "RecordBridgeModel" (349 : Nat) "RecordBridgeModel" "shown" "I" ∈ gTbl := tb4 228 rfl rfl
theorem c_5_82 : Jvm.Cond.methodLink "RecordBridgeLaw" (17 : Nat) ({ cls := "RecordBridgeModel", name := "row", desc := "(II)I" } : Jvm.MethodName) ∈ gTbl := tb5 82 rfl rfl
theorem c_5_83 : Jvm.Cond.instanceMethod ({ cls := "RecordBridgeModel", name := "row", desc := "(II)I" } : Jvm.MethodName) ∈ gTbl := tb5 83 rfl rfl
theorem c_5_84 : Jvm.Cond.selects "RecordBridgeModel" ({ cls := "RecordBridgeModel", name := "row", desc := "(II)I" } : Jvm.MethodName) ({ cls := "RecordBridgeModel", name := "row", desc := "(II)I" } : Jvm.MethodName) ∈ gTbl := tb5 84 rfl rfl
theorem c_5_85 : Jvm.Cond.code ({ cls := "RecordBridgeModel", name := "row", desc := "(II)I" } : Jvm.MethodName) prog_14_method_14_code (3 : Nat) (Option.some Jvm.ClassFile.FieldType.int) ∈ gTbl := tb5 85 rfl rfl
theorem c_5_86 : Jvm.Cond.methodLink "RecordBridgeModel" (156 : Nat) ({ cls := "RecordBridgeModel", name := "in", desc := "(III)Z" } : Jvm.MethodName) ∈ gTbl := tb5 86 rfl rfl
theorem c_5_87 : Jvm.Cond.static ({ cls := "RecordBridgeModel", name := "in", desc := "(III)Z" } : Jvm.MethodName) ∈ gTbl := tb5 87 rfl rfl
theorem c_5_88 : Jvm.Cond.code ({ cls := "RecordBridgeModel", name := "in", desc := "(III)Z" } : Jvm.MethodName) prog_14_method_2_code (3 : Nat) (Option.some Jvm.ClassFile.FieldType.boolean) ∈ gTbl := tb5 88 rfl rfl
theorem c_5_89 : Jvm.Cond.methodLink "RecordBridgeModel" (166 : Nat) ({ cls := "RecordBridgeModel", name := "fails", desc := "(I)I" } : Jvm.MethodName) ∈ gTbl := tb5 89 rfl rfl
theorem c_5_91 : Jvm.Cond.instanceMethod ({ cls := "RecordBridgeModel", name := "fails", desc := "(I)I" } : Jvm.MethodName) ∈ gTbl := tb5 91 rfl rfl
theorem c_5_92 : Jvm.Cond.code ({ cls := "RecordBridgeModel", name := "fails", desc := "(I)I" } : Jvm.MethodName) prog_14_method_4_code (2 : Nat) (Option.some Jvm.ClassFile.FieldType.int) ∈ gTbl := tb5 92 rfl rfl
theorem c_5_93 : Jvm.Cond.methodLink "RecordBridgeModel" (162 : Nat) ({ cls := "RecordBridgeModel", name := "newRow", desc := "(II)I" } : Jvm.MethodName) ∈ gTbl := tb5 93 rfl rfl
theorem c_5_95 : Jvm.Cond.instanceMethod ({ cls := "RecordBridgeModel", name := "newRow", desc := "(II)I" } : Jvm.MethodName) ∈ gTbl := tb5 95 rfl rfl
theorem c_5_96 : Jvm.Cond.code ({ cls := "RecordBridgeModel", name := "newRow", desc := "(II)I" } : Jvm.MethodName) prog_14_method_12_code (4 : Nat) (Option.some Jvm.ClassFile.FieldType.int) ∈ gTbl := tb5 96 rfl rfl
theorem c_5_97 : Jvm.Cond.constantLong "RecordBridgeModel" (160 : Nat) (-1 : Int64) ∈ gTbl := tb5 97 rfl rfl
theorem c_5_98 : Jvm.Cond.methodLink "RecordBridgeLaw" (24 : Nat) ({ cls := "RecordBridgeModel", name := "put", desc := "(IIIJ)I" } : Jvm.MethodName) ∈ gTbl := tb5 98 rfl rfl
theorem c_5_99 : Jvm.Cond.instanceMethod ({ cls := "RecordBridgeModel", name := "put", desc := "(IIIJ)I" } : Jvm.MethodName) ∈ gTbl := tb5 99 rfl rfl
theorem c_5_100 : Jvm.Cond.selects "RecordBridgeModel" ({ cls := "RecordBridgeModel", name := "put", desc := "(IIIJ)I" } : Jvm.MethodName) ({ cls := "RecordBridgeModel", name := "put", desc := "(IIIJ)I" } : Jvm.MethodName) ∈ gTbl := tb5 100 rfl rfl
theorem c_5_101 : Jvm.Cond.code ({ cls := "RecordBridgeModel", name := "put", desc := "(IIIJ)I" } : Jvm.MethodName) prog_14_method_15_code (6 : Nat) (Option.some Jvm.ClassFile.FieldType.int) ∈ gTbl := tb5 101 rfl rfl
theorem c_5_102 : Jvm.Cond.methodLink "RecordBridgeModel" (170 : Nat) ({ cls := "RecordBridgeModel", name := "isRow", desc := "(I)Z" } : Jvm.MethodName) ∈ gTbl := tb5 102 rfl rfl
theorem c_5_104 : Jvm.Cond.instanceMethod ({ cls := "RecordBridgeModel", name := "isRow", desc := "(I)Z" } : Jvm.MethodName) ∈ gTbl := tb5 104 rfl rfl
theorem c_5_105 : Jvm.Cond.code ({ cls := "RecordBridgeModel", name := "isRow", desc := "(I)Z" } : Jvm.MethodName) prog_14_method_11_code (2 : Nat) (Option.some Jvm.ClassFile.FieldType.boolean) ∈ gTbl := tb5 105 rfl rfl
theorem c_5_106 : Jvm.Cond.methodLink "RecordBridgeModel" (174 : Nat) ({ cls := "RecordBridgeModel", name := "isWidened", desc := "(II)Z" } : Jvm.MethodName) ∈ gTbl := tb5 106 rfl rfl
theorem c_5_107 : Jvm.Cond.static ({ cls := "RecordBridgeModel", name := "isWidened", desc := "(II)Z" } : Jvm.MethodName) ∈ gTbl := tb5 107 rfl rfl
theorem c_5_108 : Jvm.Cond.code ({ cls := "RecordBridgeModel", name := "isWidened", desc := "(II)Z" } : Jvm.MethodName) prog_14_method_8_code (2 : Nat) (Option.some Jvm.ClassFile.FieldType.boolean) ∈ gTbl := tb5 108 rfl rfl
theorem c_5_109 : Jvm.Cond.methodLink "RecordBridgeModel" (178 : Nat) ({ cls := "RecordBridgeModel", name := "comes", desc := "(IJ)J" } : Jvm.MethodName) ∈ gTbl := tb5 109 rfl rfl
theorem c_5_110 : Jvm.Cond.static ({ cls := "RecordBridgeModel", name := "comes", desc := "(IJ)J" } : Jvm.MethodName) ∈ gTbl := tb5 110 rfl rfl
theorem c_5_111 : Jvm.Cond.code ({ cls := "RecordBridgeModel", name := "comes", desc := "(IJ)J" } : Jvm.MethodName) prog_14_method_7_code (3 : Nat) (Option.some Jvm.ClassFile.FieldType.long) ∈ gTbl := tb5 111 rfl rfl
theorem c_5_112 : Jvm.Cond.constantLong "RecordBridgeModel" (131 : Nat) (65535 : Int64) ∈ gTbl := tb5 112 rfl rfl
theorem c_5_113 : Jvm.Cond.methodLink "RecordBridgeModel" (133 : Nat) ({ cls := "java/lang/Float", name := "floatToIntBits", desc := "(F)I" } : Jvm.MethodName) ∈ gTbl := tb5 113 rfl rfl
theorem c_5_114 : Jvm.Cond.static ({ cls := "java/lang/Float", name := "floatToIntBits", desc := "(F)I" } : Jvm.MethodName) ∈ gTbl := tb5 114 rfl rfl
theorem c_5_115 : Jvm.Cond.code ({ cls := "java/lang/Float", name := "floatToIntBits", desc := "(F)I" } : Jvm.MethodName) prog_17_method_24_code (1 : Nat) (Option.some Jvm.ClassFile.FieldType.int) ∈ gTbl := tb5 115 rfl rfl
theorem c_5_116 : Jvm.Cond.methodLink "java/lang/Float" (59 : Nat) ({ cls := "java/lang/Float", name := "isNaN", desc := "(F)Z" } : Jvm.MethodName) ∈ gTbl := tb5 116 rfl rfl
theorem c_5_117 : Jvm.Cond.static ({ cls := "java/lang/Float", name := "isNaN", desc := "(F)Z" } : Jvm.MethodName) ∈ gTbl := tb5 117 rfl rfl
theorem c_5_118 : Jvm.Cond.code ({ cls := "java/lang/Float", name := "isNaN", desc := "(F)Z" } : Jvm.MethodName) prog_17_method_6_code (1 : Nat) (Option.some Jvm.ClassFile.FieldType.boolean) ∈ gTbl := tb5 118 rfl rfl
theorem c_5_119 : Jvm.Cond.methodLink "java/lang/Float" (74 : Nat) ({ cls := "java/lang/Float", name := "floatToRawIntBits", desc := "(F)I" } : Jvm.MethodName) ∈ gTbl := tb5 119 rfl rfl
theorem c_5_120 : Jvm.Cond.static ({ cls := "java/lang/Float", name := "floatToRawIntBits", desc := "(F)I" } : Jvm.MethodName) ∈ gTbl := tb5 120 rfl rfl
theorem c_5_121 : Jvm.Cond.native ({ cls := "java/lang/Float", name := "floatToRawIntBits", desc := "(F)I" } : Jvm.MethodName) ∈ gTbl := tb5 121 rfl rfl
theorem c_5_122 : Jvm.Cond.constant "java/lang/Float" (77 : Nat) (2143289344 : Int32) ∈ gTbl := tb5 122 rfl rfl
theorem c_5_123 : Jvm.Cond.methodLink "RecordBridgeModel" (139 : Nat) ({ cls := "java/lang/Double", name := "doubleToLongBits", desc := "(D)J" } : Jvm.MethodName) ∈ gTbl := tb5 123 rfl rfl
theorem c_5_124 : Jvm.Cond.static ({ cls := "java/lang/Double", name := "doubleToLongBits", desc := "(D)J" } : Jvm.MethodName) ∈ gTbl := tb5 124 rfl rfl
theorem c_5_125 : Jvm.Cond.code ({ cls := "java/lang/Double", name := "doubleToLongBits", desc := "(D)J" } : Jvm.MethodName) prog_16_method_23_code (2 : Nat) (Option.some Jvm.ClassFile.FieldType.long) ∈ gTbl := tb5 125 rfl rfl
theorem c_5_126 : Jvm.Cond.methodLink "java/lang/Double" (122 : Nat) ({ cls := "java/lang/Double", name := "isNaN", desc := "(D)Z" } : Jvm.MethodName) ∈ gTbl := tb5 126 rfl rfl
theorem c_5_127 : Jvm.Cond.static ({ cls := "java/lang/Double", name := "isNaN", desc := "(D)Z" } : Jvm.MethodName) ∈ gTbl := tb5 127 rfl rfl
theorem c_5_128 : Jvm.Cond.code ({ cls := "java/lang/Double", name := "isNaN", desc := "(D)Z" } : Jvm.MethodName) prog_16_method_6_code (2 : Nat) (Option.some Jvm.ClassFile.FieldType.boolean) ∈ gTbl := tb5 128 rfl rfl
theorem c_5_129 : Jvm.Cond.methodLink "java/lang/Double" (134 : Nat) ({ cls := "java/lang/Double", name := "doubleToRawLongBits", desc := "(D)J" } : Jvm.MethodName) ∈ gTbl := tb5 129 rfl rfl
theorem c_5_130 : Jvm.Cond.static ({ cls := "java/lang/Double", name := "doubleToRawLongBits", desc := "(D)J" } : Jvm.MethodName) ∈ gTbl := tb5 130 rfl rfl
theorem c_5_131 : Jvm.Cond.native ({ cls := "java/lang/Double", name := "doubleToRawLongBits", desc := "(D)J" } : Jvm.MethodName) ∈ gTbl := tb5 131 rfl rfl
theorem c_5_132 : Jvm.Cond.constantLong "java/lang/Double" (137 : Nat) (9221120237041090560 : Int64) ∈ gTbl := tb5 132 rfl rfl
theorem c_5_133 : Jvm.Cond.methodLink "RecordBridgeModel" (182 : Nat) ({ cls := "RecordBridgeModel", name := "widened", desc := "(IIJ)J" } : Jvm.MethodName) ∈ gTbl := tb5 133 rfl rfl
theorem c_5_134 : Jvm.Cond.static ({ cls := "RecordBridgeModel", name := "widened", desc := "(IIJ)J" } : Jvm.MethodName) ∈ gTbl := tb5 134 rfl rfl
theorem c_5_135 : Jvm.Cond.code ({ cls := "RecordBridgeModel", name := "widened", desc := "(IIJ)J" } : Jvm.MethodName) prog_14_method_9_code (4 : Nat) (Option.some Jvm.ClassFile.FieldType.long) ∈ gTbl := tb5 135 rfl rfl
theorem c_5_136 : Jvm.Cond.methodLink "RecordBridgeModel" (145 : Nat) ({ cls := "java/lang/Float", name := "intBitsToFloat", desc := "(I)F" } : Jvm.MethodName) ∈ gTbl := tb5 136 rfl rfl
theorem c_5_137 : Jvm.Cond.static ({ cls := "java/lang/Float", name := "intBitsToFloat", desc := "(I)F" } : Jvm.MethodName) ∈ gTbl := tb5 137 rfl rfl
theorem c_5_138 : Jvm.Cond.native ({ cls := "java/lang/Float", name := "intBitsToFloat", desc := "(I)F" } : Jvm.MethodName) ∈ gTbl := tb5 138 rfl rfl
theorem c_5_139 : Jvm.Cond.methodLink "RecordBridgeLaw" (29 : Nat) ({ cls := "RecordBridgeModel", name := "get", desc := "(III)J" } : Jvm.MethodName) ∈ gTbl := tb5 139 rfl rfl
theorem c_5_140 : Jvm.Cond.instanceMethod ({ cls := "RecordBridgeModel", name := "get", desc := "(III)J" } : Jvm.MethodName) ∈ gTbl := tb5 140 rfl rfl
theorem c_5_141 : Jvm.Cond.selects "RecordBridgeModel" ({ cls := "RecordBridgeModel", name := "get", desc := "(III)J" } : Jvm.MethodName) ({ cls := "RecordBridgeModel", name := "get", desc := "(III)J" } : Jvm.MethodName) ∈ gTbl := tb5 141 rfl rfl
theorem c_5_142 : Jvm.Cond.code ({ cls := "RecordBridgeModel", name := "get", desc := "(III)J" } : Jvm.MethodName) prog_14_method_16_code (4 : Nat) (Option.some Jvm.ClassFile.FieldType.long) ∈ gTbl := tb5 142 rfl rfl
theorem c_5_143 : Jvm.Cond.methodLink "RecordBridgeModel" (124 : Nat) ({ cls := "RecordBridgeModel", name := "lost", desc := "()J" } : Jvm.MethodName) ∈ gTbl := tb5 143 rfl rfl
theorem c_5_144 : Jvm.Cond.static ({ cls := "RecordBridgeModel", name := "lost", desc := "()J" } : Jvm.MethodName) ∈ gTbl := tb5 144 rfl rfl
theorem c_5_145 : Jvm.Cond.code ({ cls := "RecordBridgeModel", name := "lost", desc := "()J" } : Jvm.MethodName) prog_14_method_3_code (0 : Nat) (Option.some Jvm.ClassFile.FieldType.long) ∈ gTbl := tb5 145 rfl rfl
theorem c_5_146 : Jvm.Cond.constantLong "RecordBridgeModel" (115 : Nat) (-9223372036854775808 : Int64) ∈ gTbl := tb5 146 rfl rfl
theorem c_5_147 : Jvm.Cond.methodLink "RecordBridgeModel" (186 : Nat) ({ cls := "RecordBridgeModel", name := "failsLong", desc := "(I)J" } : Jvm.MethodName) ∈ gTbl := tb5 147 rfl rfl
theorem c_5_149 : Jvm.Cond.instanceMethod ({ cls := "RecordBridgeModel", name := "failsLong", desc := "(I)J" } : Jvm.MethodName) ∈ gTbl := tb5 149 rfl rfl
theorem c_5_150 : Jvm.Cond.code ({ cls := "RecordBridgeModel", name := "failsLong", desc := "(I)J" } : Jvm.MethodName) prog_14_method_5_code (2 : Nat) (Option.some Jvm.ClassFile.FieldType.long) ∈ gTbl := tb5 150 rfl rfl
theorem c_5_151 : Jvm.Cond.methodLink "RecordBridgeLaw" (34 : Nat) ({ cls := "RecordBridgeModel", name := "lay", desc := "(III)I" } : Jvm.MethodName) ∈ gTbl := tb5 151 rfl rfl
theorem c_5_152 : Jvm.Cond.instanceMethod ({ cls := "RecordBridgeModel", name := "lay", desc := "(III)I" } : Jvm.MethodName) ∈ gTbl := tb5 152 rfl rfl
theorem c_5_153 : Jvm.Cond.selects "RecordBridgeModel" ({ cls := "RecordBridgeModel", name := "lay", desc := "(III)I" } : Jvm.MethodName) ({ cls := "RecordBridgeModel", name := "lay", desc := "(III)I" } : Jvm.MethodName) ∈ gTbl := tb5 153 rfl rfl
theorem c_5_154 : Jvm.Cond.code ({ cls := "RecordBridgeModel", name := "lay", desc := "(III)I" } : Jvm.MethodName) prog_14_method_17_code (4 : Nat) (Option.some Jvm.ClassFile.FieldType.int) ∈ gTbl := tb5 154 rfl rfl
theorem c_5_155 : Jvm.Cond.methodLink "RecordBridgeModel" (190 : Nat) ({ cls := "RecordBridgeModel", name := "isValue", desc := "(I)Z" } : Jvm.MethodName) ∈ gTbl := tb5 155 rfl rfl
theorem c_5_157 : Jvm.Cond.instanceMethod ({ cls := "RecordBridgeModel", name := "isValue", desc := "(I)Z" } : Jvm.MethodName) ∈ gTbl := tb5 157 rfl rfl
theorem c_5_158 : Jvm.Cond.code ({ cls := "RecordBridgeModel", name := "isValue", desc := "(I)Z" } : Jvm.MethodName) prog_14_method_37_code (2 : Nat) (Option.some Jvm.ClassFile.FieldType.boolean) ∈ gTbl := tb5 158 rfl rfl
theorem c_5_159 : Jvm.Cond.methodLink "RecordBridgeLaw" (38 : Nat) ({ cls := "RecordBridgeModel", name := "at", desc := "(II)I" } : Jvm.MethodName) ∈ gTbl := tb5 159 rfl rfl
theorem c_5_160 : Jvm.Cond.instanceMethod ({ cls := "RecordBridgeModel", name := "at", desc := "(II)I" } : Jvm.MethodName) ∈ gTbl := tb5 160 rfl rfl
theorem c_5_161 : Jvm.Cond.selects "RecordBridgeModel" ({ cls := "RecordBridgeModel", name := "at", desc := "(II)I" } : Jvm.MethodName) ({ cls := "RecordBridgeModel", name := "at", desc := "(II)I" } : Jvm.MethodName) ∈ gTbl := tb5 161 rfl rfl
theorem c_5_162 : Jvm.Cond.code ({ cls := "RecordBridgeModel", name := "at", desc := "(II)I" } : Jvm.MethodName) prog_14_method_18_code (3 : Nat) (Option.some Jvm.ClassFile.FieldType.int) ∈ gTbl := tb5 162 rfl rfl
theorem c_5_163 : Jvm.Cond.methodLink "RecordBridgeLaw" (42 : Nat) ({ cls := "RecordBridgeModel", name := "length", desc := "(II)I" } : Jvm.MethodName) ∈ gTbl := tb5 163 rfl rfl
theorem c_5_164 : Jvm.Cond.instanceMethod ({ cls := "RecordBridgeModel", name := "length", desc := "(II)I" } : Jvm.MethodName) ∈ gTbl := tb5 164 rfl rfl
theorem c_5_165 : Jvm.Cond.selects "RecordBridgeModel" ({ cls := "RecordBridgeModel", name := "length", desc := "(II)I" } : Jvm.MethodName) ({ cls := "RecordBridgeModel", name := "length", desc := "(II)I" } : Jvm.MethodName) ∈ gTbl := tb5 165 rfl rfl
theorem c_5_166 : Jvm.Cond.code ({ cls := "RecordBridgeModel", name := "length", desc := "(II)I" } : Jvm.MethodName) prog_14_method_19_code (3 : Nat) (Option.some Jvm.ClassFile.FieldType.int) ∈ gTbl := tb5 166 rfl rfl
theorem c_5_167 : Jvm.Cond.methodLink "RecordBridgeLaw" (47 : Nat) ({ cls := "RecordBridgeModel", name := "copy", desc := "(IIIII)I" } : Jvm.MethodName) ∈ gTbl := tb5 167 rfl rfl
theorem c_5_168 : Jvm.Cond.instanceMethod ({ cls := "RecordBridgeModel", name := "copy", desc := "(IIIII)I" } : Jvm.MethodName) ∈ gTbl := tb5 168 rfl rfl
theorem c_5_169 : Jvm.Cond.selects "RecordBridgeModel" ({ cls := "RecordBridgeModel", name := "copy", desc := "(IIIII)I" } : Jvm.MethodName) ({ cls := "RecordBridgeModel", name := "copy", desc := "(IIIII)I" } : Jvm.MethodName) ∈ gTbl := tb5 169 rfl rfl
theorem c_5_170 : Jvm.Cond.code ({ cls := "RecordBridgeModel", name := "copy", desc := "(IIIII)I" } : Jvm.MethodName) prog_14_method_21_code (7 : Nat) (Option.some Jvm.ClassFile.FieldType.int) ∈ gTbl := tb5 170 rfl rfl
theorem c_5_171 : Jvm.Cond.methodLink "RecordBridgeModel" (193 : Nat) ({ cls := "RecordBridgeModel", name := "isBeyond", desc := "(III)Z" } : Jvm.MethodName) ∈ gTbl := tb5 171 rfl rfl
theorem c_5_172 : Jvm.Cond.static ({ cls := "RecordBridgeModel", name := "isBeyond", desc := "(III)Z" } : Jvm.MethodName) ∈ gTbl := tb5 172 rfl rfl
theorem c_5_173 : Jvm.Cond.code ({ cls := "RecordBridgeModel", name := "isBeyond", desc := "(III)Z" } : Jvm.MethodName) prog_14_method_20_code (3 : Nat) (Option.some Jvm.ClassFile.FieldType.boolean) ∈ gTbl := tb5 173 rfl rfl
theorem c_5_174 : Jvm.Cond.methodLink "RecordBridgeLaw" (52 : Nat) ({ cls := "RecordBridgeModel", name := "twin", desc := "(I)I" } : Jvm.MethodName) ∈ gTbl := tb5 174 rfl rfl
theorem c_5_175 : Jvm.Cond.instanceMethod ({ cls := "RecordBridgeModel", name := "twin", desc := "(I)I" } : Jvm.MethodName) ∈ gTbl := tb5 175 rfl rfl
theorem c_5_176 : Jvm.Cond.selects "RecordBridgeModel" ({ cls := "RecordBridgeModel", name := "twin", desc := "(I)I" } : Jvm.MethodName) ({ cls := "RecordBridgeModel", name := "twin", desc := "(I)I" } : Jvm.MethodName) ∈ gTbl := tb5 176 rfl rfl
theorem c_5_177 : Jvm.Cond.code ({ cls := "RecordBridgeModel", name := "twin", desc := "(I)I" } : Jvm.MethodName) prog_14_method_22_code (2 : Nat) (Option.some Jvm.ClassFile.FieldType.int) ∈ gTbl := tb5 177 rfl rfl
theorem c_5_178 : Jvm.Cond.methodLink "RecordBridgeModel" (196 : Nat) ({ cls := "RecordBridgeModel", name := "twinOf", desc := "(I)I" } : Jvm.MethodName) ∈ gTbl := tb5 178 rfl rfl
theorem c_5_180 : Jvm.Cond.instanceMethod ({ cls := "RecordBridgeModel", name := "twinOf", desc := "(I)I" } : Jvm.MethodName) ∈ gTbl := tb5 180 rfl rfl
theorem c_5_181 : Jvm.Cond.code ({ cls := "RecordBridgeModel", name := "twinOf", desc := "(I)I" } : Jvm.MethodName) prog_14_method_13_code (4 : Nat) (Option.some Jvm.ClassFile.FieldType.int) ∈ gTbl := tb5 181 rfl rfl
theorem c_5_182 : Jvm.Cond.methodLink "RecordBridgeLaw" (56 : Nat) ({ cls := "RecordBridgeModel", name := "record", desc := "(I)I" } : Jvm.MethodName) ∈ gTbl := tb5 182 rfl rfl
theorem c_5_183 : Jvm.Cond.instanceMethod ({ cls := "RecordBridgeModel", name := "record", desc := "(I)I" } : Jvm.MethodName) ∈ gTbl := tb5 183 rfl rfl
theorem c_5_184 : Jvm.Cond.selects "RecordBridgeModel" ({ cls := "RecordBridgeModel", name := "record", desc := "(I)I" } : Jvm.MethodName) ({ cls := "RecordBridgeModel", name := "record", desc := "(I)I" } : Jvm.MethodName) ∈ gTbl := tb5 184 rfl rfl
theorem c_5_185 : Jvm.Cond.code ({ cls := "RecordBridgeModel", name := "record", desc := "(I)I" } : Jvm.MethodName) prog_14_method_25_code (2 : Nat) (Option.some Jvm.ClassFile.FieldType.int) ∈ gTbl := tb5 185 rfl rfl
theorem c_5_186 : Jvm.Cond.methodLink "RecordBridgeModel" (202 : Nat) ({ cls := "RecordBridgeModel", name := "newKind", desc := "(ZI)I" } : Jvm.MethodName) ∈ gTbl := tb5 186 rfl rfl
theorem c_5_188 : Jvm.Cond.instanceMethod ({ cls := "RecordBridgeModel", name := "newKind", desc := "(ZI)I" } : Jvm.MethodName) ∈ gTbl := tb5 188 rfl rfl
theorem c_5_189 : Jvm.Cond.code ({ cls := "RecordBridgeModel", name := "newKind", desc := "(ZI)I" } : Jvm.MethodName) prog_14_method_24_code (3 : Nat) (Option.some Jvm.ClassFile.FieldType.int) ∈ gTbl := tb5 189 rfl rfl
theorem c_5_190 : Jvm.Cond.methodLink "RecordBridgeLaw" (60 : Nat) ({ cls := "RecordBridgeModel", name := "constants", desc := "(I)I" } : Jvm.MethodName) ∈ gTbl := tb5 190 rfl rfl
theorem c_5_191 : Jvm.Cond.instanceMethod ({ cls := "RecordBridgeModel", name := "constants", desc := "(I)I" } : Jvm.MethodName) ∈ gTbl := tb5 191 rfl rfl
theorem c_5_192 : Jvm.Cond.selects "RecordBridgeModel" ({ cls := "RecordBridgeModel", name := "constants", desc := "(I)I" } : Jvm.MethodName) ({ cls := "RecordBridgeModel", name := "constants", desc := "(I)I" } : Jvm.MethodName) ∈ gTbl := tb5 192 rfl rfl
theorem c_5_193 : Jvm.Cond.code ({ cls := "RecordBridgeModel", name := "constants", desc := "(I)I" } : Jvm.MethodName) prog_14_method_26_code (2 : Nat) (Option.some Jvm.ClassFile.FieldType.int) ∈ gTbl := tb5 193 rfl rfl
theorem c_5_194 : Jvm.Cond.methodLink "RecordBridgeLaw" (64 : Nat) ({ cls := "RecordBridgeModel", name := "more", desc := "(III)I" } : Jvm.MethodName) ∈ gTbl := tb5 194 rfl rfl
theorem c_5_195 : Jvm.Cond.instanceMethod ({ cls := "RecordBridgeModel", name := "more", desc := "(III)I" } : Jvm.MethodName) ∈ gTbl := tb5 195 rfl rfl
theorem c_5_196 : Jvm.Cond.selects "RecordBridgeModel" ({ cls := "RecordBridgeModel", name := "more", desc := "(III)I" } : Jvm.MethodName) ({ cls := "RecordBridgeModel", name := "more", desc := "(III)I" } : Jvm.MethodName) ∈ gTbl := tb5 196 rfl rfl
theorem c_5_197 : Jvm.Cond.code ({ cls := "RecordBridgeModel", name := "more", desc := "(III)I" } : Jvm.MethodName) prog_14_method_29_code (5 : Nat) (Option.some Jvm.ClassFile.FieldType.int) ∈ gTbl := tb5 197 rfl rfl
theorem c_5_198 : Jvm.Cond.methodLink "RecordBridgeModel" (206 : Nat) ({ cls := "RecordBridgeModel", name := "isKind", desc := "(I)Z" } : Jvm.MethodName) ∈ gTbl := tb5 198 rfl rfl
theorem c_5_200 : Jvm.Cond.instanceMethod ({ cls := "RecordBridgeModel", name := "isKind", desc := "(I)Z" } : Jvm.MethodName) ∈ gTbl := tb5 200 rfl rfl
theorem c_5_201 : Jvm.Cond.code ({ cls := "RecordBridgeModel", name := "isKind", desc := "(I)Z" } : Jvm.MethodName) prog_14_method_23_code (2 : Nat) (Option.some Jvm.ClassFile.FieldType.boolean) ∈ gTbl := tb5 201 rfl rfl
theorem c_5_202 : Jvm.Cond.methodLink "RecordBridgeModel" (209 : Nat) ({ cls := "RecordBridgeModel", name := "placeOf", desc := "(II)I" } : Jvm.MethodName) ∈ gTbl := tb5 202 rfl rfl
theorem c_5_204 : Jvm.Cond.instanceMethod ({ cls := "RecordBridgeModel", name := "placeOf", desc := "(II)I" } : Jvm.MethodName) ∈ gTbl := tb5 204 rfl rfl
theorem c_5_205 : Jvm.Cond.code ({ cls := "RecordBridgeModel", name := "placeOf", desc := "(II)I" } : Jvm.MethodName) prog_14_method_27_code (5 : Nat) (Option.some Jvm.ClassFile.FieldType.int) ∈ gTbl := tb5 205 rfl rfl
theorem c_5_206 : Jvm.Cond.methodLink "RecordBridgeLaw" (69 : Nat) ({ cls := "RecordBridgeModel", name := "edition", desc := "(IIII)I" } : Jvm.MethodName) ∈ gTbl := tb5 206 rfl rfl
theorem c_5_207 : Jvm.Cond.instanceMethod ({ cls := "RecordBridgeModel", name := "edition", desc := "(IIII)I" } : Jvm.MethodName) ∈ gTbl := tb5 207 rfl rfl
theorem c_5_208 : Jvm.Cond.selects "RecordBridgeModel" ({ cls := "RecordBridgeModel", name := "edition", desc := "(IIII)I" } : Jvm.MethodName) ({ cls := "RecordBridgeModel", name := "edition", desc := "(IIII)I" } : Jvm.MethodName) ∈ gTbl := tb5 208 rfl rfl
theorem c_5_209 : Jvm.Cond.code ({ cls := "RecordBridgeModel", name := "edition", desc := "(IIII)I" } : Jvm.MethodName) prog_14_method_32_code (12 : Nat) (Option.some Jvm.ClassFile.FieldType.int) ∈ gTbl := tb5 209 rfl rfl
theorem c_5_210 : Jvm.Cond.methodLink "RecordBridgeModel" (225 : Nat) ({ cls := "RecordBridgeModel", name := "newestOf", desc := "(I)I" } : Jvm.MethodName) ∈ gTbl := tb5 210 rfl rfl
theorem c_5_212 : Jvm.Cond.instanceMethod ({ cls := "RecordBridgeModel", name := "newestOf", desc := "(I)I" } : Jvm.MethodName) ∈ gTbl := tb5 212 rfl rfl
theorem c_5_213 : Jvm.Cond.code ({ cls := "RecordBridgeModel", name := "newestOf", desc := "(I)I" } : Jvm.MethodName) prog_14_method_28_code (2 : Nat) (Option.some Jvm.ClassFile.FieldType.int) ∈ gTbl := tb5 213 rfl rfl
theorem c_5_214 : Jvm.Cond.methodLink "RecordBridgeModel" (222 : Nat) ({ cls := "RecordBridgeModel", name := "newConstant", desc := "(II)I" } : Jvm.MethodName) ∈ gTbl := tb5 214 rfl rfl
theorem c_5_216 : Jvm.Cond.instanceMethod ({ cls := "RecordBridgeModel", name := "newConstant", desc := "(II)I" } : Jvm.MethodName) ∈ gTbl := tb5 216 rfl rfl
theorem c_5_217 : Jvm.Cond.code ({ cls := "RecordBridgeModel", name := "newConstant", desc := "(II)I" } : Jvm.MethodName) prog_14_method_30_code (4 : Nat) (Option.some Jvm.ClassFile.FieldType.int) ∈ gTbl := tb5 217 rfl rfl
theorem c_5_218 : Jvm.Cond.methodLink "RecordBridgeModel" (212 : Nat) ({ cls := "RecordBridgeModel", name := "newValue", desc := "(I)I" } : Jvm.MethodName) ∈ gTbl := tb5 218 rfl rfl
theorem c_5_220 : Jvm.Cond.instanceMethod ({ cls := "RecordBridgeModel", name := "newValue", desc := "(I)I" } : Jvm.MethodName) ∈ gTbl := tb5 220 rfl rfl
theorem c_5_221 : Jvm.Cond.code ({ cls := "RecordBridgeModel", name := "newValue", desc := "(I)I" } : Jvm.MethodName) prog_14_method_42_code (2 : Nat) (Option.some Jvm.ClassFile.FieldType.int) ∈ gTbl := tb5 221 rfl rfl
theorem c_5_222 : Jvm.Cond.methodLink "RecordBridgeLaw" (74 : Nat) ({ cls := "RecordBridgeModel", name := "family", desc := "(IZ)I" } : Jvm.MethodName) ∈ gTbl := tb5 222 rfl rfl
theorem c_5_223 : Jvm.Cond.instanceMethod ({ cls := "RecordBridgeModel", name := "family", desc := "(IZ)I" } : Jvm.MethodName) ∈ gTbl := tb5 223 rfl rfl
theorem c_5_224 : Jvm.Cond.selects "RecordBridgeModel" ({ cls := "RecordBridgeModel", name := "family", desc := "(IZ)I" } : Jvm.MethodName) ({ cls := "RecordBridgeModel", name := "family", desc := "(IZ)I" } : Jvm.MethodName) ∈ gTbl := tb5 224 rfl rfl
theorem c_5_225 : Jvm.Cond.code ({ cls := "RecordBridgeModel", name := "family", desc := "(IZ)I" } : Jvm.MethodName) prog_14_method_33_code (3 : Nat) (Option.some Jvm.ClassFile.FieldType.int) ∈ gTbl := tb5 225 rfl rfl
theorem c_5_226 : Jvm.Cond.methodLink "RecordBridgeLaw" (78 : Nat) ({ cls := "RecordBridgeModel", name := "info", desc := "(II)I" } : Jvm.MethodName) ∈ gTbl := tb5 226 rfl rfl
theorem c_5_227 : Jvm.Cond.instanceMethod ({ cls := "RecordBridgeModel", name := "info", desc := "(II)I" } : Jvm.MethodName) ∈ gTbl := tb5 227 rfl rfl
theorem c_5_228 : Jvm.Cond.selects "RecordBridgeModel" ({ cls := "RecordBridgeModel", name := "info", desc := "(II)I" } : Jvm.MethodName) ({ cls := "RecordBridgeModel", name := "info", desc := "(II)I" } : Jvm.MethodName) ∈ gTbl := tb5 228 rfl rfl
theorem c_5_229 : Jvm.Cond.code ({ cls := "RecordBridgeModel", name := "info", desc := "(II)I" } : Jvm.MethodName) prog_14_method_34_code (3 : Nat) (Option.some Jvm.ClassFile.FieldType.int) ∈ gTbl := tb5 229 rfl rfl
theorem c_5_230 : Jvm.Cond.methodLink "RecordBridgeLaw" (83 : Nat) ({ cls := "RecordBridgeModel", name := "give", desc := "(IIJ)I" } : Jvm.MethodName) ∈ gTbl := tb5 230 rfl rfl
theorem c_5_231 : Jvm.Cond.instanceMethod ({ cls := "RecordBridgeModel", name := "give", desc := "(IIJ)I" } : Jvm.MethodName) ∈ gTbl := tb5 231 rfl rfl
theorem c_5_232 : Jvm.Cond.selects "RecordBridgeModel" ({ cls := "RecordBridgeModel", name := "give", desc := "(IIJ)I" } : Jvm.MethodName) ({ cls := "RecordBridgeModel", name := "give", desc := "(IIJ)I" } : Jvm.MethodName) ∈ gTbl := tb5 232 rfl rfl
theorem c_5_233 : Jvm.Cond.code ({ cls := "RecordBridgeModel", name := "give", desc := "(IIJ)I" } : Jvm.MethodName) prog_14_method_35_code (5 : Nat) (Option.some Jvm.ClassFile.FieldType.int) ∈ gTbl := tb5 233 rfl rfl
theorem c_5_234 : Jvm.Cond.methodLink "RecordBridgeLaw" (88 : Nat) ({ cls := "RecordBridgeModel", name := "hand", desc := "(IIZ)I" } : Jvm.MethodName) ∈ gTbl := tb5 234 rfl rfl
theorem c_5_235 : Jvm.Cond.instanceMethod ({ cls := "RecordBridgeModel", name := "hand", desc := "(IIZ)I" } : Jvm.MethodName) ∈ gTbl := tb5 235 rfl rfl
theorem c_5_236 : Jvm.Cond.selects "RecordBridgeModel" ({ cls := "RecordBridgeModel", name := "hand", desc := "(IIZ)I" } : Jvm.MethodName) ({ cls := "RecordBridgeModel", name := "hand", desc := "(IIZ)I" } : Jvm.MethodName) ∈ gTbl := tb5 236 rfl rfl
theorem c_5_237 : Jvm.Cond.code ({ cls := "RecordBridgeModel", name := "hand", desc := "(IIZ)I" } : Jvm.MethodName) prog_14_method_36_code (4 : Nat) (Option.some Jvm.ClassFile.FieldType.int) ∈ gTbl := tb5 237 rfl rfl
theorem c_5_238 : Jvm.Cond.methodLink "RecordBridgeLaw" (92 : Nat) ({ cls := "RecordBridgeModel", name := "make", desc := "(I)I" } : Jvm.MethodName) ∈ gTbl := tb5 238 rfl rfl
theorem c_5_239 : Jvm.Cond.instanceMethod ({ cls := "RecordBridgeModel", name := "make", desc := "(I)I" } : Jvm.MethodName) ∈ gTbl := tb5 239 rfl rfl
theorem c_6_0 : Jvm.Cond.selects "RecordBridgeModel" ({ cls := "RecordBridgeModel", name := "make", desc := "(I)I" } : Jvm.MethodName) ({ cls := "RecordBridgeModel", name := "make", desc := "(I)I" } : Jvm.MethodName) ∈ gTbl := tb6 0 rfl rfl
theorem c_6_1 : Jvm.Cond.code ({ cls := "RecordBridgeModel", name := "make", desc := "(I)I" } : Jvm.MethodName) prog_14_method_47_code (6 : Nat) (Option.some Jvm.ClassFile.FieldType.int) ∈ gTbl := tb6 1 rfl rfl
theorem c_6_2 : Jvm.Cond.methodLink "RecordBridgeModel" (250 : Nat) ({ cls := "RecordBridgeModel", name := "starts", desc := "(I)Z" } : Jvm.MethodName) ∈ gTbl := tb6 2 rfl rfl
theorem c_6_4 : Jvm.Cond.instanceMethod ({ cls := "RecordBridgeModel", name := "starts", desc := "(I)Z" } : Jvm.MethodName) ∈ gTbl := tb6 4 rfl rfl
theorem c_6_5 : Jvm.Cond.code ({ cls := "RecordBridgeModel", name := "starts", desc := "(I)Z" } : Jvm.MethodName) prog_14_method_31_code (4 : Nat) (Option.some Jvm.ClassFile.FieldType.boolean) ∈ gTbl := tb6 5 rfl rfl
theorem c_6_6 : Jvm.Cond.methodLink "RecordBridgeModel" (218 : Nat) ({ cls := "RecordBridgeModel", name := "traced", desc := "(I)V" } : Jvm.MethodName) ∈ gTbl := tb6 6 rfl rfl
theorem c_6_8 : Jvm.Cond.instanceMethod ({ cls := "RecordBridgeModel", name := "traced", desc := "(I)V" } : Jvm.MethodName) ∈ gTbl := tb6 8 rfl rfl
theorem c_6_9 : Jvm.Cond.code ({ cls := "RecordBridgeModel", name := "traced", desc := "(I)V" } : Jvm.MethodName) prog_14_method_6_code (2 : Nat) (Option.none : Option Jvm.ClassFile.FieldType) ∈ gTbl := tb6 9 rfl rfl
theorem c_6_10 : Jvm.Cond.methodLink "RecordBridgeModel" (253 : Nat) ({ cls := "RecordBridgeModel", name := "finish", desc := "(I)I" } : Jvm.MethodName) ∈ gTbl := tb6 10 rfl rfl
theorem c_6_12 : Jvm.Cond.instanceMethod ({ cls := "RecordBridgeModel", name := "finish", desc := "(I)I" } : Jvm.MethodName) ∈ gTbl := tb6 12 rfl rfl
theorem c_6_13 : Jvm.Cond.code ({ cls := "RecordBridgeModel", name := "finish", desc := "(I)I" } : Jvm.MethodName) prog_14_method_46_code (7 : Nat) (Option.some Jvm.ClassFile.FieldType.int) ∈ gTbl := tb6 13 rfl rfl
theorem c_6_14 : Jvm.Cond.methodLink "RecordBridgeModel" (240 : Nat) ({ cls := "RecordBridgeModel", name := "isTwinned", desc := "(II)Z" } : Jvm.MethodName) ∈ gTbl := tb6 14 rfl rfl
theorem c_6_16 : Jvm.Cond.instanceMethod ({ cls := "RecordBridgeModel", name := "isTwinned", desc := "(II)Z" } : Jvm.MethodName) ∈ gTbl := tb6 16 rfl rfl
theorem c_6_17 : Jvm.Cond.code ({ cls := "RecordBridgeModel", name := "isTwinned", desc := "(II)Z" } : Jvm.MethodName) prog_14_method_43_code (3 : Nat) (Option.some Jvm.ClassFile.FieldType.boolean) ∈ gTbl := tb6 17 rfl rfl
theorem c_6_18 : Jvm.Cond.methodLink "RecordBridgeModel" (243 : Nat) ({ cls := "RecordBridgeModel", name := "breaks", desc := "(II)Z" } : Jvm.MethodName) ∈ gTbl := tb6 18 rfl rfl
theorem c_6_20 : Jvm.Cond.instanceMethod ({ cls := "RecordBridgeModel", name := "breaks", desc := "(II)Z" } : Jvm.MethodName) ∈ gTbl := tb6 20 rfl rfl
theorem c_6_21 : Jvm.Cond.code ({ cls := "RecordBridgeModel", name := "breaks", desc := "(II)Z" } : Jvm.MethodName) prog_14_method_44_code (6 : Nat) (Option.some Jvm.ClassFile.FieldType.boolean) ∈ gTbl := tb6 21 rfl rfl
theorem c_6_22 : Jvm.Cond.methodLink "RecordBridgeModel" (246 : Nat) ({ cls := "RecordBridgeModel", name := "counts", desc := "(J)V" } : Jvm.MethodName) ∈ gTbl := tb6 22 rfl rfl
theorem c_6_24 : Jvm.Cond.instanceMethod ({ cls := "RecordBridgeModel", name := "counts", desc := "(J)V" } : Jvm.MethodName) ∈ gTbl := tb6 24 rfl rfl
theorem c_6_25 : Jvm.Cond.code ({ cls := "RecordBridgeModel", name := "counts", desc := "(J)V" } : Jvm.MethodName) prog_14_method_45_code (3 : Nat) (Option.none : Option Jvm.ClassFile.FieldType) ∈ gTbl := tb6 25 rfl rfl
theorem c_6_26 : Jvm.Cond.methodLink "RecordBridgeLaw" (96 : Nat) ({ cls := "RecordBridgeModel", name := "named", desc := "(II)I" } : Jvm.MethodName) ∈ gTbl := tb6 26 rfl rfl
theorem c_6_27 : Jvm.Cond.instanceMethod ({ cls := "RecordBridgeModel", name := "named", desc := "(II)I" } : Jvm.MethodName) ∈ gTbl := tb6 27 rfl rfl
theorem c_6_28 : Jvm.Cond.selects "RecordBridgeModel" ({ cls := "RecordBridgeModel", name := "named", desc := "(II)I" } : Jvm.MethodName) ({ cls := "RecordBridgeModel", name := "named", desc := "(II)I" } : Jvm.MethodName) ∈ gTbl := tb6 28 rfl rfl
theorem c_6_29 : Jvm.Cond.code ({ cls := "RecordBridgeModel", name := "named", desc := "(II)I" } : Jvm.MethodName) prog_14_method_48_code (4 : Nat) (Option.some Jvm.ClassFile.FieldType.int) ∈ gTbl := tb6 29 rfl rfl
theorem c_6_30 : Jvm.Cond.methodLink "RecordBridgeLaw" (101 : Nat) ({ cls := "RecordBridgeModel", name := "part", desc := "(II)J" } : Jvm.MethodName) ∈ gTbl := tb6 30 rfl rfl
theorem c_6_31 : Jvm.Cond.instanceMethod ({ cls := "RecordBridgeModel", name := "part", desc := "(II)J" } : Jvm.MethodName) ∈ gTbl := tb6 31 rfl rfl
theorem c_6_32 : Jvm.Cond.selects "RecordBridgeModel" ({ cls := "RecordBridgeModel", name := "part", desc := "(II)J" } : Jvm.MethodName) ({ cls := "RecordBridgeModel", name := "part", desc := "(II)J" } : Jvm.MethodName) ∈ gTbl := tb6 32 rfl rfl
theorem c_6_33 : Jvm.Cond.code ({ cls := "RecordBridgeModel", name := "part", desc := "(II)J" } : Jvm.MethodName) prog_14_method_50_code (3 : Nat) (Option.some Jvm.ClassFile.FieldType.long) ∈ gTbl := tb6 33 rfl rfl
theorem c_6_34 : Jvm.Cond.methodLink "RecordBridgeModel" (261 : Nat) ({ cls := "RecordBridgeModel", name := "isConstant", desc := "(I)Z" } : Jvm.MethodName) ∈ gTbl := tb6 34 rfl rfl
theorem c_6_36 : Jvm.Cond.instanceMethod ({ cls := "RecordBridgeModel", name := "isConstant", desc := "(I)Z" } : Jvm.MethodName) ∈ gTbl := tb6 36 rfl rfl
theorem c_6_37 : Jvm.Cond.code ({ cls := "RecordBridgeModel", name := "isConstant", desc := "(I)Z" } : Jvm.MethodName) prog_14_method_38_code (2 : Nat) (Option.some Jvm.ClassFile.FieldType.boolean) ∈ gTbl := tb6 37 rfl rfl
theorem c_6_38 : Jvm.Cond.methodLink "RecordBridgeModel" (264 : Nat) ({ cls := "RecordBridgeModel", name := "partsOf", desc := "(I)I" } : Jvm.MethodName) ∈ gTbl := tb6 38 rfl rfl
theorem c_6_40 : Jvm.Cond.instanceMethod ({ cls := "RecordBridgeModel", name := "partsOf", desc := "(I)I" } : Jvm.MethodName) ∈ gTbl := tb6 40 rfl rfl
theorem c_6_41 : Jvm.Cond.code ({ cls := "RecordBridgeModel", name := "partsOf", desc := "(I)I" } : Jvm.MethodName) prog_14_method_41_code (2 : Nat) (Option.some Jvm.ClassFile.FieldType.int) ∈ gTbl := tb6 41 rfl rfl
theorem c_6_42 : Jvm.Cond.methodLink "RecordBridgeModel" (231 : Nat) ({ cls := "RecordBridgeModel", name := "editionOf", desc := "(I)I" } : Jvm.MethodName) ∈ gTbl := tb6 42 rfl rfl
theorem c_6_44 : Jvm.Cond.instanceMethod ({ cls := "RecordBridgeModel", name := "editionOf", desc := "(I)I" } : Jvm.MethodName) ∈ gTbl := tb6 44 rfl rfl
theorem c_6_45 : Jvm.Cond.code ({ cls := "RecordBridgeModel", name := "editionOf", desc := "(I)I" } : Jvm.MethodName) prog_14_method_39_code (2 : Nat) (Option.some Jvm.ClassFile.FieldType.int) ∈ gTbl := tb6 45 rfl rfl
theorem c_6_46 : Jvm.Cond.methodLink "RecordBridgeModel" (267 : Nat) ({ cls := "RecordBridgeModel", name := "toldPart", desc := "(II)J" } : Jvm.MethodName) ∈ gTbl := tb6 46 rfl rfl
theorem c_6_48 : Jvm.Cond.instanceMethod ({ cls := "RecordBridgeModel", name := "toldPart", desc := "(II)J" } : Jvm.MethodName) ∈ gTbl := tb6 48 rfl rfl
theorem c_6_49 : Jvm.Cond.code ({ cls := "RecordBridgeModel", name := "toldPart", desc := "(II)J" } : Jvm.MethodName) prog_14_method_49_code (3 : Nat) (Option.some Jvm.ClassFile.FieldType.long) ∈ gTbl := tb6 49 rfl rfl
theorem c_6_50 : Jvm.Cond.methodLink "RecordBridgeModel" (256 : Nat) ({ cls := "RecordBridgeModel", name := "laneOf", desc := "(II)I" } : Jvm.MethodName) ∈ gTbl := tb6 50 rfl rfl
theorem c_6_52 : Jvm.Cond.instanceMethod ({ cls := "RecordBridgeModel", name := "laneOf", desc := "(II)I" } : Jvm.MethodName) ∈ gTbl := tb6 52 rfl rfl
theorem c_6_53 : Jvm.Cond.code ({ cls := "RecordBridgeModel", name := "laneOf", desc := "(II)I" } : Jvm.MethodName) prog_14_method_40_code (3 : Nat) (Option.some Jvm.ClassFile.FieldType.int) ∈ gTbl := tb6 53 rfl rfl
theorem c_6_54 : Jvm.Cond.constantLong "RecordBridgeModel" (259 : Nat) (-5 : Int64) ∈ gTbl := tb6 54 rfl rfl
theorem c_6_55 : Jvm.Cond.methodLink "RecordBridgeLaw" (105 : Nat) ({ cls := "RecordBridgeModel", name := "accessor", desc := "(II)J" } : Jvm.MethodName) ∈ gTbl := tb6 55 rfl rfl
theorem c_6_56 : Jvm.Cond.instanceMethod ({ cls := "RecordBridgeModel", name := "accessor", desc := "(II)J" } : Jvm.MethodName) ∈ gTbl := tb6 56 rfl rfl
theorem c_6_57 : Jvm.Cond.selects "RecordBridgeModel" ({ cls := "RecordBridgeModel", name := "accessor", desc := "(II)J" } : Jvm.MethodName) ({ cls := "RecordBridgeModel", name := "accessor", desc := "(II)J" } : Jvm.MethodName) ∈ gTbl := tb6 57 rfl rfl
theorem c_6_58 : Jvm.Cond.code ({ cls := "RecordBridgeModel", name := "accessor", desc := "(II)J" } : Jvm.MethodName) prog_14_method_51_code (4 : Nat) (Option.some Jvm.ClassFile.FieldType.long) ∈ gTbl := tb6 58 rfl rfl
theorem c_6_59 : Jvm.Cond.methodLink "RecordBridgeLaw" (109 : Nat) ({ cls := "RecordBridgeModel", name := "of", desc := "(II)I" } : Jvm.MethodName) ∈ gTbl := tb6 59 rfl rfl
theorem c_6_60 : Jvm.Cond.instanceMethod ({ cls := "RecordBridgeModel", name := "of", desc := "(II)I" } : Jvm.MethodName) ∈ gTbl := tb6 60 rfl rfl
theorem c_6_61 : Jvm.Cond.selects "RecordBridgeModel" ({ cls := "RecordBridgeModel", name := "of", desc := "(II)I" } : Jvm.MethodName) ({ cls := "RecordBridgeModel", name := "of", desc := "(II)I" } : Jvm.MethodName) ∈ gTbl := tb6 61 rfl rfl
theorem c_6_62 : Jvm.Cond.code ({ cls := "RecordBridgeModel", name := "of", desc := "(II)I" } : Jvm.MethodName) prog_14_method_52_code (3 : Nat) (Option.some Jvm.ClassFile.FieldType.int) ∈ gTbl := tb6 62 rfl rfl
theorem c_6_63 : Jvm.Cond.methodLink "RecordBridgeLaw" (113 : Nat) ({ cls := "RecordBridgeModel", name := "array", desc := "(IIZ)I" } : Jvm.MethodName) ∈ gTbl := tb6 63 rfl rfl
theorem c_6_64 : Jvm.Cond.instanceMethod ({ cls := "RecordBridgeModel", name := "array", desc := "(IIZ)I" } : Jvm.MethodName) ∈ gTbl := tb6 64 rfl rfl
theorem c_6_65 : Jvm.Cond.selects "RecordBridgeModel" ({ cls := "RecordBridgeModel", name := "array", desc := "(IIZ)I" } : Jvm.MethodName) ({ cls := "RecordBridgeModel", name := "array", desc := "(IIZ)I" } : Jvm.MethodName) ∈ gTbl := tb6 65 rfl rfl
theorem c_6_66 : Jvm.Cond.code ({ cls := "RecordBridgeModel", name := "array", desc := "(IIZ)I" } : Jvm.MethodName) prog_14_method_53_code (5 : Nat) (Option.some Jvm.ClassFile.FieldType.int) ∈ gTbl := tb6 66 rfl rfl
theorem c_6_67 : Jvm.Cond.methodLink "RecordBridgeLaw" (117 : Nat) ({ cls := "RecordBridgeModel", name := "match", desc := "(II)I" } : Jvm.MethodName) ∈ gTbl := tb6 67 rfl rfl
theorem c_6_68 : Jvm.Cond.instanceMethod ({ cls := "RecordBridgeModel", name := "match", desc := "(II)I" } : Jvm.MethodName) ∈ gTbl := tb6 68 rfl rfl
theorem c_6_69 : Jvm.Cond.selects "RecordBridgeModel" ({ cls := "RecordBridgeModel", name := "match", desc := "(II)I" } : Jvm.MethodName) ({ cls := "RecordBridgeModel", name := "match", desc := "(II)I" } : Jvm.MethodName) ∈ gTbl := tb6 69 rfl rfl
theorem c_6_70 : Jvm.Cond.code ({ cls := "RecordBridgeModel", name := "match", desc := "(II)I" } : Jvm.MethodName) prog_14_method_54_code (5 : Nat) (Option.some Jvm.ClassFile.FieldType.int) ∈ gTbl := tb6 70 rfl rfl
theorem c_6_71 : Jvm.Cond.methodLink "RecordBridgeLaw" (121 : Nat) ({ cls := "RecordBridgeModel", name := "equal", desc := "(II)I" } : Jvm.MethodName) ∈ gTbl := tb6 71 rfl rfl
theorem c_6_72 : Jvm.Cond.instanceMethod ({ cls := "RecordBridgeModel", name := "equal", desc := "(II)I" } : Jvm.MethodName) ∈ gTbl := tb6 72 rfl rfl
theorem c_6_73 : Jvm.Cond.selects "RecordBridgeModel" ({ cls := "RecordBridgeModel", name := "equal", desc := "(II)I" } : Jvm.MethodName) ({ cls := "RecordBridgeModel", name := "equal", desc := "(II)I" } : Jvm.MethodName) ∈ gTbl := tb6 73 rfl rfl
theorem c_6_74 : Jvm.Cond.code ({ cls := "RecordBridgeModel", name := "equal", desc := "(II)I" } : Jvm.MethodName) prog_14_method_61_code (3 : Nat) (Option.some Jvm.ClassFile.FieldType.int) ∈ gTbl := tb6 74 rfl rfl
theorem c_6_75 : Jvm.Cond.methodLink "RecordBridgeModel" (295 : Nat) ({ cls := "RecordBridgeModel", name := "ordered", desc := "(II)I" } : Jvm.MethodName) ∈ gTbl := tb6 75 rfl rfl
theorem c_6_77 : Jvm.Cond.instanceMethod ({ cls := "RecordBridgeModel", name := "ordered", desc := "(II)I" } : Jvm.MethodName) ∈ gTbl := tb6 77 rfl rfl
theorem c_6_78 : Jvm.Cond.code ({ cls := "RecordBridgeModel", name := "ordered", desc := "(II)I" } : Jvm.MethodName) prog_14_method_60_code (4 : Nat) (Option.some Jvm.ClassFile.FieldType.int) ∈ gTbl := tb6 78 rfl rfl
theorem c_6_79 : Jvm.Cond.methodLink "RecordBridgeModel" (285 : Nat) ({ cls := "RecordBridgeModel", name := "meet", desc := "(II)I" } : Jvm.MethodName) ∈ gTbl := tb6 79 rfl rfl
theorem c_6_81 : Jvm.Cond.instanceMethod ({ cls := "RecordBridgeModel", name := "meet", desc := "(II)I" } : Jvm.MethodName) ∈ gTbl := tb6 81 rfl rfl
theorem c_6_82 : Jvm.Cond.code ({ cls := "RecordBridgeModel", name := "meet", desc := "(II)I" } : Jvm.MethodName) prog_14_method_57_code (4 : Nat) (Option.some Jvm.ClassFile.FieldType.int) ∈ gTbl := tb6 82 rfl rfl
theorem c_6_83 : Jvm.Cond.methodLink "RecordBridgeModel" (274 : Nat) ({ cls := "RecordBridgeModel", name := "sign", desc := "(II)I" } : Jvm.MethodName) ∈ gTbl := tb6 83 rfl rfl
theorem c_6_84 : Jvm.Cond.static ({ cls := "RecordBridgeModel", name := "sign", desc := "(II)I" } : Jvm.MethodName) ∈ gTbl := tb6 84 rfl rfl
theorem c_6_85 : Jvm.Cond.code ({ cls := "RecordBridgeModel", name := "sign", desc := "(II)I" } : Jvm.MethodName) prog_14_method_56_code (2 : Nat) (Option.some Jvm.ClassFile.FieldType.int) ∈ gTbl := tb6 85 rfl rfl
theorem c_6_86 : Jvm.Cond.methodLink "RecordBridgeModel" (277 : Nat) ({ cls := "RecordBridgeModel", name := "push", desc := "(II)V" } : Jvm.MethodName) ∈ gTbl := tb6 86 rfl rfl
theorem c_6_88 : Jvm.Cond.instanceMethod ({ cls := "RecordBridgeModel", name := "push", desc := "(II)V" } : Jvm.MethodName) ∈ gTbl := tb6 88 rfl rfl
theorem c_6_89 : Jvm.Cond.code ({ cls := "RecordBridgeModel", name := "push", desc := "(II)V" } : Jvm.MethodName) prog_14_method_55_code (3 : Nat) (Option.none : Option Jvm.ClassFile.FieldType) ∈ gTbl := tb6 89 rfl rfl
theorem c_6_90 : Jvm.Cond.methodLink "RecordBridgeModel" (291 : Nat) ({ cls := "RecordBridgeModel", name := "step", desc := "()I" } : Jvm.MethodName) ∈ gTbl := tb6 90 rfl rfl
theorem c_6_92 : Jvm.Cond.instanceMethod ({ cls := "RecordBridgeModel", name := "step", desc := "()I" } : Jvm.MethodName) ∈ gTbl := tb6 92 rfl rfl
theorem c_6_93 : Jvm.Cond.code ({ cls := "RecordBridgeModel", name := "step", desc := "()I" } : Jvm.MethodName) prog_14_method_59_code (11 : Nat) (Option.some Jvm.ClassFile.FieldType.int) ∈ gTbl := tb6 93 rfl rfl
theorem c_6_94 : Jvm.Cond.methodLink "RecordBridgeModel" (281 : Nat) ({ cls := "RecordBridgeModel", name := "compared", desc := "(IJJ)I" } : Jvm.MethodName) ∈ gTbl := tb6 94 rfl rfl
theorem c_6_95 : Jvm.Cond.static ({ cls := "RecordBridgeModel", name := "compared", desc := "(IJJ)I" } : Jvm.MethodName) ∈ gTbl := tb6 95 rfl rfl
theorem c_6_96 : Jvm.Cond.code ({ cls := "RecordBridgeModel", name := "compared", desc := "(IJJ)I" } : Jvm.MethodName) prog_14_method_10_code (9 : Nat) (Option.some Jvm.ClassFile.FieldType.int) ∈ gTbl := tb6 96 rfl rfl
theorem c_6_97 : Jvm.Cond.methodLink "RecordBridgeModel" (149 : Nat) ({ cls := "java/lang/Double", name := "longBitsToDouble", desc := "(J)D" } : Jvm.MethodName) ∈ gTbl := tb6 97 rfl rfl
theorem c_6_98 : Jvm.Cond.static ({ cls := "java/lang/Double", name := "longBitsToDouble", desc := "(J)D" } : Jvm.MethodName) ∈ gTbl := tb6 98 rfl rfl
theorem c_6_99 : Jvm.Cond.native ({ cls := "java/lang/Double", name := "longBitsToDouble", desc := "(J)D" } : Jvm.MethodName) ∈ gTbl := tb6 99 rfl rfl
theorem c_6_100 : Jvm.Cond.methodLink "RecordBridgeModel" (288 : Nat) ({ cls := "RecordBridgeModel", name := "numbers", desc := "(II)I" } : Jvm.MethodName) ∈ gTbl := tb6 100 rfl rfl
theorem c_6_102 : Jvm.Cond.instanceMethod ({ cls := "RecordBridgeModel", name := "numbers", desc := "(II)I" } : Jvm.MethodName) ∈ gTbl := tb6 102 rfl rfl
theorem c_6_103 : Jvm.Cond.code ({ cls := "RecordBridgeModel", name := "numbers", desc := "(II)I" } : Jvm.MethodName) prog_14_method_58_code (5 : Nat) (Option.some Jvm.ClassFile.FieldType.int) ∈ gTbl := tb6 103 rfl rfl
theorem c_6_104 : Jvm.Cond.methodLink "RecordBridgeLaw" (125 : Nat) ({ cls := "RecordBridgeModel", name := "order", desc := "(II)I" } : Jvm.MethodName) ∈ gTbl := tb6 104 rfl rfl
theorem c_6_105 : Jvm.Cond.instanceMethod ({ cls := "RecordBridgeModel", name := "order", desc := "(II)I" } : Jvm.MethodName) ∈ gTbl := tb6 105 rfl rfl
theorem c_6_106 : Jvm.Cond.selects "RecordBridgeModel" ({ cls := "RecordBridgeModel", name := "order", desc := "(II)I" } : Jvm.MethodName) ({ cls := "RecordBridgeModel", name := "order", desc := "(II)I" } : Jvm.MethodName) ∈ gTbl := tb6 106 rfl rfl
theorem c_6_107 : Jvm.Cond.code ({ cls := "RecordBridgeModel", name := "order", desc := "(II)I" } : Jvm.MethodName) prog_14_method_62_code (3 : Nat) (Option.some Jvm.ClassFile.FieldType.int) ∈ gTbl := tb6 107 rfl rfl
theorem c_6_108 : Jvm.Cond.methodLink "RecordBridgeLaw" (130 : Nat) ({ cls := "RecordBridgeModel", name := "hash", desc := "(I)J" } : Jvm.MethodName) ∈ gTbl := tb6 108 rfl rfl
theorem c_6_109 : Jvm.Cond.instanceMethod ({ cls := "RecordBridgeModel", name := "hash", desc := "(I)J" } : Jvm.MethodName) ∈ gTbl := tb6 109 rfl rfl
theorem c_6_110 : Jvm.Cond.selects "RecordBridgeModel" ({ cls := "RecordBridgeModel", name := "hash", desc := "(I)J" } : Jvm.MethodName) ({ cls := "RecordBridgeModel", name := "hash", desc := "(I)J" } : Jvm.MethodName) ∈ gTbl := tb6 110 rfl rfl
theorem c_6_111 : Jvm.Cond.code ({ cls := "RecordBridgeModel", name := "hash", desc := "(I)J" } : Jvm.MethodName) prog_14_method_69_code (4 : Nat) (Option.some Jvm.ClassFile.FieldType.long) ∈ gTbl := tb6 111 rfl rfl
theorem c_6_112 : Jvm.Cond.methodLink "RecordBridgeModel" (305 : Nat) ({ cls := "RecordBridgeModel", name := "constantHash", desc := "(I)I" } : Jvm.MethodName) ∈ gTbl := tb6 112 rfl rfl
theorem c_6_114 : Jvm.Cond.instanceMethod ({ cls := "RecordBridgeModel", name := "constantHash", desc := "(I)I" } : Jvm.MethodName) ∈ gTbl := tb6 114 rfl rfl
theorem c_6_115 : Jvm.Cond.code ({ cls := "RecordBridgeModel", name := "constantHash", desc := "(I)I" } : Jvm.MethodName) prog_14_method_64_code (2 : Nat) (Option.some Jvm.ClassFile.FieldType.int) ∈ gTbl := tb6 115 rfl rfl
theorem c_6_116 : Jvm.Cond.methodLink "RecordBridgeModel" (314 : Nat) ({ cls := "RecordBridgeModel", name := "hashPart", desc := "(I)V" } : Jvm.MethodName) ∈ gTbl := tb6 116 rfl rfl
theorem c_6_118 : Jvm.Cond.instanceMethod ({ cls := "RecordBridgeModel", name := "hashPart", desc := "(I)V" } : Jvm.MethodName) ∈ gTbl := tb6 118 rfl rfl
theorem c_6_119 : Jvm.Cond.code ({ cls := "RecordBridgeModel", name := "hashPart", desc := "(I)V" } : Jvm.MethodName) prog_14_method_68_code (6 : Nat) (Option.none : Option Jvm.ClassFile.FieldType) ∈ gTbl := tb6 119 rfl rfl
theorem c_6_120 : Jvm.Cond.methodLink "RecordBridgeModel" (298 : Nat) ({ cls := "RecordBridgeModel", name := "numberHash", desc := "(IJ)I" } : Jvm.MethodName) ∈ gTbl := tb6 120 rfl rfl
theorem c_6_121 : Jvm.Cond.static ({ cls := "RecordBridgeModel", name := "numberHash", desc := "(IJ)I" } : Jvm.MethodName) ∈ gTbl := tb6 121 rfl rfl
theorem c_6_122 : Jvm.Cond.code ({ cls := "RecordBridgeModel", name := "numberHash", desc := "(IJ)I" } : Jvm.MethodName) prog_14_method_63_code (3 : Nat) (Option.some Jvm.ClassFile.FieldType.int) ∈ gTbl := tb6 122 rfl rfl
theorem c_6_123 : Jvm.Cond.methodLink "RecordBridgeModel" (302 : Nat) ({ cls := "RecordBridgeModel", name := "adds", desc := "(I)V" } : Jvm.MethodName) ∈ gTbl := tb6 123 rfl rfl
theorem c_6_125 : Jvm.Cond.instanceMethod ({ cls := "RecordBridgeModel", name := "adds", desc := "(I)V" } : Jvm.MethodName) ∈ gTbl := tb6 125 rfl rfl
theorem c_6_126 : Jvm.Cond.code ({ cls := "RecordBridgeModel", name := "adds", desc := "(I)V" } : Jvm.MethodName) prog_14_method_66_code (3 : Nat) (Option.none : Option Jvm.ClassFile.FieldType) ∈ gTbl := tb6 126 rfl rfl
theorem c_6_127 : Jvm.Cond.methodLink "RecordBridgeModel" (308 : Nat) ({ cls := "RecordBridgeModel", name := "addsThing", desc := "(I)V" } : Jvm.MethodName) ∈ gTbl := tb6 127 rfl rfl
theorem c_6_129 : Jvm.Cond.instanceMethod ({ cls := "RecordBridgeModel", name := "addsThing", desc := "(I)V" } : Jvm.MethodName) ∈ gTbl := tb6 129 rfl rfl
theorem c_6_130 : Jvm.Cond.code ({ cls := "RecordBridgeModel", name := "addsThing", desc := "(I)V" } : Jvm.MethodName) prog_14_method_67_code (2 : Nat) (Option.none : Option Jvm.ClassFile.FieldType) ∈ gTbl := tb6 130 rfl rfl
theorem c_6_131 : Jvm.Cond.methodLink "RecordBridgeModel" (311 : Nat) ({ cls := "RecordBridgeModel", name := "rowHash", desc := "(I)I" } : Jvm.MethodName) ∈ gTbl := tb6 131 rfl rfl
theorem c_6_133 : Jvm.Cond.instanceMethod ({ cls := "RecordBridgeModel", name := "rowHash", desc := "(I)I" } : Jvm.MethodName) ∈ gTbl := tb6 133 rfl rfl
theorem c_6_134 : Jvm.Cond.code ({ cls := "RecordBridgeModel", name := "rowHash", desc := "(I)I" } : Jvm.MethodName) prog_14_method_65_code (4 : Nat) (Option.some Jvm.ClassFile.FieldType.int) ∈ gTbl := tb6 134 rfl rfl
theorem c_6_135 : Jvm.Cond.methodLink "RecordBridgeLaw" (134 : Nat) ({ cls := "RecordBridgeModel", name := "weight", desc := "(I)I" } : Jvm.MethodName) ∈ gTbl := tb6 135 rfl rfl
theorem c_6_136 : Jvm.Cond.instanceMethod ({ cls := "RecordBridgeModel", name := "weight", desc := "(I)I" } : Jvm.MethodName) ∈ gTbl := tb6 136 rfl rfl
theorem c_6_137 : Jvm.Cond.selects "RecordBridgeModel" ({ cls := "RecordBridgeModel", name := "weight", desc := "(I)I" } : Jvm.MethodName) ({ cls := "RecordBridgeModel", name := "weight", desc := "(I)I" } : Jvm.MethodName) ∈ gTbl := tb6 137 rfl rfl
theorem c_6_138 : Jvm.Cond.code ({ cls := "RecordBridgeModel", name := "weight", desc := "(I)I" } : Jvm.MethodName) prog_14_method_72_code (7 : Nat) (Option.some Jvm.ClassFile.FieldType.int) ∈ gTbl := tb6 138 rfl rfl
theorem c_6_139 : Jvm.Cond.methodLink "RecordBridgeModel" (317 : Nat) ({ cls := "RecordBridgeModel", name := "constantWeight", desc := "(I)I" } : Jvm.MethodName) ∈ gTbl := tb6 139 rfl rfl
theorem c_6_141 : Jvm.Cond.instanceMethod ({ cls := "RecordBridgeModel", name := "constantWeight", desc := "(I)I" } : Jvm.MethodName) ∈ gTbl := tb6 141 rfl rfl
theorem c_6_142 : Jvm.Cond.code ({ cls := "RecordBridgeModel", name := "constantWeight", desc := "(I)I" } : Jvm.MethodName) prog_14_method_70_code (4 : Nat) (Option.some Jvm.ClassFile.FieldType.int) ∈ gTbl := tb6 142 rfl rfl
theorem c_6_143 : Jvm.Cond.methodLink "RecordBridgeModel" (320 : Nat) ({ cls := "RecordBridgeModel", name := "recordWeight", desc := "(I)I" } : Jvm.MethodName) ∈ gTbl := tb6 143 rfl rfl
theorem c_6_145 : Jvm.Cond.instanceMethod ({ cls := "RecordBridgeModel", name := "recordWeight", desc := "(I)I" } : Jvm.MethodName) ∈ gTbl := tb6 145 rfl rfl
theorem c_6_146 : Jvm.Cond.code ({ cls := "RecordBridgeModel", name := "recordWeight", desc := "(I)I" } : Jvm.MethodName) prog_14_method_71_code (2 : Nat) (Option.some Jvm.ClassFile.FieldType.int) ∈ gTbl := tb6 146 rfl rfl
theorem c_6_147 : Jvm.Cond.methodLink "RecordBridgeLaw" (138 : Nat) ({ cls := "RecordBridgeModel", name := "show", desc := "(I)I" } : Jvm.MethodName) ∈ gTbl := tb6 147 rfl rfl
theorem c_6_148 : Jvm.Cond.instanceMethod ({ cls := "RecordBridgeModel", name := "show", desc := "(I)I" } : Jvm.MethodName) ∈ gTbl := tb6 148 rfl rfl
theorem c_6_149 : Jvm.Cond.selects "RecordBridgeModel" ({ cls := "RecordBridgeModel", name := "show", desc := "(I)I" } : Jvm.MethodName) ({ cls := "RecordBridgeModel", name := "show", desc := "(I)I" } : Jvm.MethodName) ∈ gTbl := tb6 149 rfl rfl
theorem c_6_150 : Jvm.Cond.code ({ cls := "RecordBridgeModel", name := "show", desc := "(I)I" } : Jvm.MethodName) prog_14_method_79_code (3 : Nat) (Option.some Jvm.ClassFile.FieldType.int) ∈ gTbl := tb6 150 rfl rfl
theorem c_6_151 : Jvm.Cond.methodLink "RecordBridgeModel" (340 : Nat) ({ cls := "RecordBridgeModel", name := "saysThing", desc := "(I)V" } : Jvm.MethodName) ∈ gTbl := tb6 151 rfl rfl
theorem c_6_153 : Jvm.Cond.instanceMethod ({ cls := "RecordBridgeModel", name := "saysThing", desc := "(I)V" } : Jvm.MethodName) ∈ gTbl := tb6 153 rfl rfl
theorem c_6_154 : Jvm.Cond.code ({ cls := "RecordBridgeModel", name := "saysThing", desc := "(I)V" } : Jvm.MethodName) prog_14_method_76_code (2 : Nat) (Option.none : Option Jvm.ClassFile.FieldType) ∈ gTbl := tb6 154 rfl rfl
theorem c_6_155 : Jvm.Cond.methodLink "RecordBridgeModel" (326 : Nat) ({ cls := "RecordBridgeModel", name := "says", desc := "(I)V" } : Jvm.MethodName) ∈ gTbl := tb6 155 rfl rfl
theorem c_6_157 : Jvm.Cond.instanceMethod ({ cls := "RecordBridgeModel", name := "says", desc := "(I)V" } : Jvm.MethodName) ∈ gTbl := tb6 157 rfl rfl
theorem c_6_158 : Jvm.Cond.code ({ cls := "RecordBridgeModel", name := "says", desc := "(I)V" } : Jvm.MethodName) prog_14_method_73_code (2 : Nat) (Option.none : Option Jvm.ClassFile.FieldType) ∈ gTbl := tb6 158 rfl rfl
theorem c_6_159 : Jvm.Cond.methodLink "RecordBridgeModel" (333 : Nat) ({ cls := "RecordBridgeModel", name := "saysNumber", desc := "(J)V" } : Jvm.MethodName) ∈ gTbl := tb6 159 rfl rfl
theorem c_6_161 : Jvm.Cond.instanceMethod ({ cls := "RecordBridgeModel", name := "saysNumber", desc := "(J)V" } : Jvm.MethodName) ∈ gTbl := tb6 161 rfl rfl
theorem c_6_162 : Jvm.Cond.code ({ cls := "RecordBridgeModel", name := "saysNumber", desc := "(J)V" } : Jvm.MethodName) prog_14_method_74_code (7 : Nat) (Option.none : Option Jvm.ClassFile.FieldType) ∈ gTbl := tb6 162 rfl rfl
theorem c_6_163 : Jvm.Cond.constantLong "RecordBridgeModel" (329 : Nat) (10 : Int64) ∈ gTbl := tb6 163 rfl rfl
theorem c_6_164 : Jvm.Cond.constantLong "RecordBridgeModel" (331 : Nat) (48 : Int64) ∈ gTbl := tb6 164 rfl rfl
theorem c_6_165 : Jvm.Cond.methodLink "RecordBridgeModel" (346 : Nat) ({ cls := "RecordBridgeModel", name := "saysNext", desc := "(I)V" } : Jvm.MethodName) ∈ gTbl := tb6 165 rfl rfl
theorem c_6_167 : Jvm.Cond.instanceMethod ({ cls := "RecordBridgeModel", name := "saysNext", desc := "(I)V" } : Jvm.MethodName) ∈ gTbl := tb6 167 rfl rfl
theorem c_6_168 : Jvm.Cond.code ({ cls := "RecordBridgeModel", name := "saysNext", desc := "(I)V" } : Jvm.MethodName) prog_14_method_78_code (7 : Nat) (Option.none : Option Jvm.ClassFile.FieldType) ∈ gTbl := tb6 168 rfl rfl
theorem c_6_169 : Jvm.Cond.methodLink "RecordBridgeModel" (336 : Nat) ({ cls := "RecordBridgeModel", name := "saysCell", desc := "(IJ)V" } : Jvm.MethodName) ∈ gTbl := tb6 169 rfl rfl
theorem c_6_171 : Jvm.Cond.instanceMethod ({ cls := "RecordBridgeModel", name := "saysCell", desc := "(IJ)V" } : Jvm.MethodName) ∈ gTbl := tb6 171 rfl rfl
theorem c_6_172 : Jvm.Cond.code ({ cls := "RecordBridgeModel", name := "saysCell", desc := "(IJ)V" } : Jvm.MethodName) prog_14_method_75_code (4 : Nat) (Option.none : Option Jvm.ClassFile.FieldType) ∈ gTbl := tb6 172 rfl rfl
theorem c_6_173 : Jvm.Cond.methodLink "RecordBridgeModel" (343 : Nat) ({ cls := "RecordBridgeModel", name := "saysRow", desc := "(I)V" } : Jvm.MethodName) ∈ gTbl := tb6 173 rfl rfl
theorem c_6_175 : Jvm.Cond.instanceMethod ({ cls := "RecordBridgeModel", name := "saysRow", desc := "(I)V" } : Jvm.MethodName) ∈ gTbl := tb6 175 rfl rfl
theorem c_6_176 : Jvm.Cond.code ({ cls := "RecordBridgeModel", name := "saysRow", desc := "(I)V" } : Jvm.MethodName) prog_14_method_77_code (3 : Nat) (Option.none : Option Jvm.ClassFile.FieldType) ∈ gTbl := tb6 176 rfl rfl
theorem c_6_177 : Jvm.Cond.methodLink "RecordBridgeLaw" (142 : Nat) ({ cls := "RecordBridgeModel", name := "byteAt", desc := "(I)I" } : Jvm.MethodName) ∈ gTbl := tb6 177 rfl rfl
theorem c_6_178 : Jvm.Cond.instanceMethod ({ cls := "RecordBridgeModel", name := "byteAt", desc := "(I)I" } : Jvm.MethodName) ∈ gTbl := tb6 178 rfl rfl
theorem c_6_179 : Jvm.Cond.selects "RecordBridgeModel" ({ cls := "RecordBridgeModel", name := "byteAt", desc := "(I)I" } : Jvm.MethodName) ({ cls := "RecordBridgeModel", name := "byteAt", desc := "(I)I" } : Jvm.MethodName) ∈ gTbl := tb6 179 rfl rfl
theorem c_6_180 : Jvm.Cond.code ({ cls := "RecordBridgeModel", name := "byteAt", desc := "(I)I" } : Jvm.MethodName) prog_14_method_80_code (2 : Nat) (Option.some Jvm.ClassFile.FieldType.int) ∈ gTbl := tb6 180 rfl rfl
theorem c_6_181 : Jvm.Cond.methodLink "RecordBridgeLaw" (146 : Nat) ({ cls := "RecordBridgeModel", name := "carry", desc := "(I)I" } : Jvm.MethodName) ∈ gTbl := tb6 181 rfl rfl
theorem c_6_182 : Jvm.Cond.instanceMethod ({ cls := "RecordBridgeModel", name := "carry", desc := "(I)I" } : Jvm.MethodName) ∈ gTbl := tb6 182 rfl rfl
theorem c_6_183 : Jvm.Cond.selects "RecordBridgeModel" ({ cls := "RecordBridgeModel", name := "carry", desc := "(I)I" } : Jvm.MethodName) ({ cls := "RecordBridgeModel", name := "carry", desc := "(I)I" } : Jvm.MethodName) ∈ gTbl := tb6 183 rfl rfl
theorem c_6_184 : Jvm.Cond.code ({ cls := "RecordBridgeModel", name := "carry", desc := "(I)I" } : Jvm.MethodName) prog_14_method_81_code (8 : Nat) (Option.some Jvm.ClassFile.FieldType.int) ∈ gTbl := tb6 184 rfl rfl
theorem c_6_185 : Jvm.Cond.methodLink "RecordBridgeLaw" (151 : Nat) ({ cls := "RecordBridgeModel", name := "trace", desc := "()I" } : Jvm.MethodName) ∈ gTbl := tb6 185 rfl rfl
theorem c_6_186 : Jvm.Cond.instanceMethod ({ cls := "RecordBridgeModel", name := "trace", desc := "()I" } : Jvm.MethodName) ∈ gTbl := tb6 186 rfl rfl
theorem c_6_187 : Jvm.Cond.selects "RecordBridgeModel" ({ cls := "RecordBridgeModel", name := "trace", desc := "()I" } : Jvm.MethodName) ({ cls := "RecordBridgeModel", name := "trace", desc := "()I" } : Jvm.MethodName) ∈ gTbl := tb6 187 rfl rfl
theorem c_6_188 : Jvm.Cond.code ({ cls := "RecordBridgeModel", name := "trace", desc := "()I" } : Jvm.MethodName) prog_14_method_82_code (1 : Nat) (Option.some Jvm.ClassFile.FieldType.int) ∈ gTbl := tb6 188 rfl rfl
theorem c_6_189 : Jvm.Cond.methodLink "RecordBridgeLaw" (155 : Nat) ({ cls := "RecordBridgeModel", name := "fault", desc := "()I" } : Jvm.MethodName) ∈ gTbl := tb6 189 rfl rfl
theorem c_6_190 : Jvm.Cond.instanceMethod ({ cls := "RecordBridgeModel", name := "fault", desc := "()I" } : Jvm.MethodName) ∈ gTbl := tb6 190 rfl rfl
theorem c_6_191 : Jvm.Cond.selects "RecordBridgeModel" ({ cls := "RecordBridgeModel", name := "fault", desc := "()I" } : Jvm.MethodName) ({ cls := "RecordBridgeModel", name := "fault", desc := "()I" } : Jvm.MethodName) ∈ gTbl := tb6 191 rfl rfl
theorem c_6_192 : Jvm.Cond.code ({ cls := "RecordBridgeModel", name := "fault", desc := "()I" } : Jvm.MethodName) prog_14_method_83_code (1 : Nat) (Option.some Jvm.ClassFile.FieldType.int) ∈ gTbl := tb6 192 rfl rfl
theorem c_6_193 : Jvm.Cond.methodLink "RecordBridgeLaw" (159 : Nat) ({ cls := "RecordBridgeModel", name := "told", desc := "(I)I" } : Jvm.MethodName) ∈ gTbl := tb6 193 rfl rfl
theorem c_6_194 : Jvm.Cond.instanceMethod ({ cls := "RecordBridgeModel", name := "told", desc := "(I)I" } : Jvm.MethodName) ∈ gTbl := tb6 194 rfl rfl
theorem c_6_195 : Jvm.Cond.selects "RecordBridgeModel" ({ cls := "RecordBridgeModel", name := "told", desc := "(I)I" } : Jvm.MethodName) ({ cls := "RecordBridgeModel", name := "told", desc := "(I)I" } : Jvm.MethodName) ∈ gTbl := tb6 195 rfl rfl
theorem c_6_196 : Jvm.Cond.code ({ cls := "RecordBridgeModel", name := "told", desc := "(I)I" } : Jvm.MethodName) prog_14_method_84_code (4 : Nat) (Option.some Jvm.ClassFile.FieldType.int) ∈ gTbl := tb6 196 rfl rfl
theorem c_6_197 : Jvm.Cond.constantLong "RecordBridgeLaw" (18 : Nat) (4294967295 : Int64) ∈ gTbl := tb6 197 rfl rfl
theorem fa_X11_12 : FA RX11 12 10 0 (.object "RecordBridge$Store") true RX11 := ⟨RX11, TX11, 14, tyX11, rfl, in_X11, tyX11_ok, nmX11, by decide, c_1_141, rfl, rfl, rfl⟩
theorem fa_X11_21 : FA RX11 21 10 1 (.object "RecordBridge$Tray") true RX11 := ⟨RX11, TX11, 14, tyX11, rfl, in_X11, tyX11_ok, nmX11, by decide, c_1_142, rfl, rfl, rfl⟩
theorem fa_X11_30 : FA RX11 30 10 2 (.object "RecordBridge$Draft") true RX11 := ⟨RX11, TX11, 14, tyX11, rfl, in_X11, tyX11_ok, nmX11, by decide, c_1_143, rfl, rfl, rfl⟩
theorem fa_X11_37 : FA RX11 37 10 3 (.object "RecordBridge$Comparer") true RX11 := ⟨RX11, TX11, 14, tyX11, rfl, in_X11, tyX11_ok, nmX11, by decide, c_1_144, rfl, rfl, rfl⟩
theorem fa_X11_44 : FA RX11 44 10 4 (.object "RecordBridge$Scribe") true RX11 := ⟨RX11, TX11, 14, tyX11, rfl, in_X11, tyX11_ok, nmX11, by decide, c_1_145, rfl, rfl, rfl⟩
theorem fa_X11_50 : FA RX11 50 10 5 (.array (.object "RecordBridge$Kind")) true RX11 := ⟨RX11, TX11, 14, tyX11, rfl, in_X11, tyX11_ok, nmX11, by decide, c_1_146, rfl, rfl, rfl⟩
theorem fa_X11_54 : FA RX11 54 10 6 (.array .int) true RX11 := ⟨RX11, TX11, 14, tyX11, rfl, in_X11, tyX11_ok, nmX11, by decide, c_1_147, rfl, rfl, rfl⟩
theorem fa_X11_58 : FA RX11 58 10 7 (.array .boolean) true RX11 := ⟨RX11, TX11, 14, tyX11, rfl, in_X11, tyX11_ok, nmX11, by decide, c_1_148, rfl, rfl, rfl⟩
theorem fa_X11_80 : FA RX11 80 4 0 .int true RX5 := ⟨RX5, TX5, 4, tyX5, rfl, in_X5, tyX5_ok, nmX5, by decide, c_1_210, rfl, rfl, rfl⟩
theorem fa_X11_93 : FA RX11 93 4 1 .int true RX5 := ⟨RX5, TX5, 4, tyX5, rfl, in_X5, tyX5_ok, nmX5, by decide, c_1_213, rfl, rfl, rfl⟩
theorem fa_X11_100 : FA RX11 100 4 2 (.array .long) true RX5 := ⟨RX5, TX5, 4, tyX5, rfl, in_X5, tyX5_ok, nmX5, by decide, c_1_219, rfl, rfl, rfl⟩
theorem fa_X11_122 : FA RX11 122 4 3 .boolean true RX5 := ⟨RX5, TX5, 4, tyX5, rfl, in_X5, tyX5_ok, nmX5, by decide, c_1_225, rfl, rfl, rfl⟩
theorem fa_X11_169 : FA RX11 169 3 5 .boolean false RX3 := ⟨RX3, TX3, 7, tyX3, rfl, in_X3, tyX3_ok, nmX3, by decide, c_2_172, rfl, rfl, rfl⟩
theorem fa_X11_185 : FA RX11 185 2 4 .int false RX2 := ⟨RX2, TX2, 5, tyX2, rfl, in_X2, tyX2_ok, nmX2, by decide, c_2_148, rfl, rfl, rfl⟩
theorem fa_X11_192 : FA RX11 192 3 1 .boolean true RX3 := ⟨RX3, TX3, 7, tyX3, rfl, in_X3, tyX3_ok, nmX3, by decide, c_2_167, rfl, rfl, rfl⟩
theorem fa_X11_210 : FA RX11 210 2 0 .int true RX2 := ⟨RX2, TX2, 5, tyX2, rfl, in_X2, tyX2_ok, nmX2, by decide, c_2_133, rfl, rfl, rfl⟩
theorem fa_X11_211 : FA RX11 211 10 8 .int false RX11 := ⟨RX11, TX11, 14, tyX11, rfl, in_X11, tyX11_ok, nmX11, by decide, c_1_149, rfl, rfl, rfl⟩
theorem fa_X11_214 : FA RX11 214 10 9 .int false RX11 := ⟨RX11, TX11, 14, tyX11, rfl, in_X11, tyX11_ok, nmX11, by decide, c_1_150, rfl, rfl, rfl⟩
theorem fa_X11_217 : FA RX11 217 3 6 .int false RX3 := ⟨RX3, TX3, 7, tyX3, rfl, in_X3, tyX3_ok, nmX3, by decide, c_2_175, rfl, rfl, rfl⟩
theorem fa_X11_249 : FA RX11 249 2 3 (.array .int) true RX2 := ⟨RX2, TX2, 5, tyX2, rfl, in_X2, tyX2_ok, nmX2, by decide, c_2_145, rfl, rfl, rfl⟩
theorem fa_X11_252 : FA RX11 252 9 1 (.object "RecordBridge$Kind") true RX10 := ⟨RX10, TX10, 8, tyX10, rfl, in_X10, tyX10_ok, nmX10, by decide, c_3_62, rfl, rfl, rfl⟩
theorem fa_X11_264 : FA RX11 264 9 2 (.object "RecordBridge$Edition") true RX10 := ⟨RX10, TX10, 8, tyX10, rfl, in_X10, tyX10_ok, nmX10, by decide, c_3_67, rfl, rfl, rfl⟩
theorem fa_X11_268 : FA RX11 268 3 0 .int true RX3 := ⟨RX3, TX3, 7, tyX3, rfl, in_X3, tyX3_ok, nmX3, by decide, c_2_163, rfl, rfl, rfl⟩
theorem fa_X11_269 : FA RX11 269 9 6 .int true RX10 := ⟨RX10, TX10, 8, tyX10, rfl, in_X10, tyX10_ok, nmX10, by decide, c_3_81, rfl, rfl, rfl⟩
theorem fa_X11_272 : FA RX11 272 9 3 .int true RX10 := ⟨RX10, TX10, 8, tyX10, rfl, in_X10, tyX10_ok, nmX10, by decide, c_3_70, rfl, rfl, rfl⟩
theorem fa_X11_275 : FA RX11 275 9 4 .int true RX10 := ⟨RX10, TX10, 8, tyX10, rfl, in_X10, tyX10_ok, nmX10, by decide, c_3_73, rfl, rfl, rfl⟩
theorem fa_X11_278 : FA RX11 278 9 7 .int true RX10 := ⟨RX10, TX10, 8, tyX10, rfl, in_X10, tyX10_ok, nmX10, by decide, c_3_84, rfl, rfl, rfl⟩
theorem fa_X11_281 : FA RX11 281 2 2 (.array .int) true RX2 := ⟨RX2, TX2, 5, tyX2, rfl, in_X2, tyX2_ok, nmX2, by decide, c_2_143, rfl, rfl, rfl⟩
theorem fa_X11_284 : FA RX11 284 9 5 (.array .long) true RX10 := ⟨RX10, TX10, 8, tyX10, rfl, in_X10, tyX10_ok, nmX10, by decide, c_3_78, rfl, rfl, rfl⟩
theorem fa_X11_307 : FA RX11 307 5 1 (.object "RecordBridge$Text") false RX6 := ⟨RX6, TX6, 3, tyX6, rfl, in_X6, tyX6_ok, nmX6, by decide, c_1_130, rfl, rfl, rfl⟩
theorem fa_X11_311 : FA RX11 311 7 2 .int false RX8 := ⟨RX8, TX8, 4, tyX8, rfl, in_X8, tyX8_ok, nmX8, by decide, c_1_114, rfl, rfl, rfl⟩
theorem fa_X11_314 : FA RX11 314 7 0 (.array .byte) true RX8 := ⟨RX8, TX8, 4, tyX8, rfl, in_X8, tyX8_ok, nmX8, by decide, c_1_111, rfl, rfl, rfl⟩
theorem fa_X11_318 : FA RX11 318 9 0 .int true RX10 := ⟨RX10, TX10, 8, tyX10, rfl, in_X10, tyX10_ok, nmX10, by decide, c_3_57, rfl, rfl, rfl⟩
theorem fa_X11_323 : FA RX11 323 10 11 .int false RX11 := ⟨RX11, TX11, 14, tyX11, rfl, in_X11, tyX11_ok, nmX11, by decide, c_1_152, rfl, rfl, rfl⟩
theorem fa_X11_326 : FA RX11 326 10 12 .int false RX11 := ⟨RX11, TX11, 14, tyX11, rfl, in_X11, tyX11_ok, nmX11, by decide, c_1_153, rfl, rfl, rfl⟩
theorem fa_X11_329 : FA RX11 329 6 2 .int false RX7 := ⟨RX7, TX7, 4, tyX7, rfl, in_X7, tyX7_ok, nmX7, by decide, c_1_40, rfl, rfl, rfl⟩
theorem fa_X11_332 : FA RX11 332 6 3 .int false RX7 := ⟨RX7, TX7, 4, tyX7, rfl, in_X7, tyX7_ok, nmX7, by decide, c_1_42, rfl, rfl, rfl⟩
theorem fa_X11_335 : FA RX11 335 10 10 .int false RX11 := ⟨RX11, TX11, 14, tyX11, rfl, in_X11, tyX11_ok, nmX11, by decide, c_1_151, rfl, rfl, rfl⟩
theorem fa_X11_338 : FA RX11 338 10 13 .int false RX11 := ⟨RX11, TX11, 14, tyX11, rfl, in_X11, tyX11_ok, nmX11, by decide, c_1_154, rfl, rfl, rfl⟩
theorem fa_X11_369 : FA RX11 369 2 1 (.array .int) true RX2 := ⟨RX2, TX2, 5, tyX2, rfl, in_X2, tyX2_ok, nmX2, by decide, c_2_137, rfl, rfl, rfl⟩
theorem fa_X11_378 : FA RX11 378 3 2 .int true RX3 := ⟨RX3, TX3, 7, tyX3, rfl, in_X3, tyX3_ok, nmX3, by decide, c_2_169, rfl, rfl, rfl⟩
theorem fa_X11_393 : FA RX11 393 1 2 .int false RX1 := ⟨RX1, TX1, 4, tyX1, rfl, in_X1, tyX1_ok, nmX1, by decide, c_1_76, rfl, rfl, rfl⟩
theorem fa_X11_394 : FA RX11 394 1 3 .int false RX1 := ⟨RX1, TX1, 4, tyX1, rfl, in_X1, tyX1_ok, nmX1, by decide, c_1_78, rfl, rfl, rfl⟩
theorem fa_X0_7 : FA RX0 7 0 0 (.object "RecordBridge$Store") true RX0 := ⟨RX0, TX0, 1, tyX0, rfl, in_X0, tyX0_ok, nmX0, by decide, c_1_94, rfl, rfl, rfl⟩
theorem fa_X0_17 : FA RX0 17 9 1 (.object "RecordBridge$Kind") true RX10 := ⟨RX10, TX10, 8, tyX10, rfl, in_X10, tyX10_ok, nmX10, by decide, c_3_59, rfl, rfl, rfl⟩
theorem fa_X0_23 : FA RX0 23 3 0 .int true RX3 := ⟨RX3, TX3, 7, tyX3, rfl, in_X3, tyX3_ok, nmX3, by decide, c_2_161, rfl, rfl, rfl⟩
theorem fa_X0_33 : FA RX0 33 9 2 (.object "RecordBridge$Edition") true RX10 := ⟨RX10, TX10, 8, tyX10, rfl, in_X10, tyX10_ok, nmX10, by decide, c_3_64, rfl, rfl, rfl⟩
theorem fa_X0_37 : FA RX0 37 2 0 .int true RX2 := ⟨RX2, TX2, 5, tyX2, rfl, in_X2, tyX2_ok, nmX2, by decide, c_2_132, rfl, rfl, rfl⟩
theorem fa_X0_40 : FA RX0 40 3 1 .boolean true RX3 := ⟨RX3, TX3, 7, tyX3, rfl, in_X3, tyX3_ok, nmX3, by decide, c_2_165, rfl, rfl, rfl⟩
theorem fa_X0_44 : FA RX0 44 9 3 .int true RX10 := ⟨RX10, TX10, 8, tyX10, rfl, in_X10, tyX10_ok, nmX10, by decide, c_3_69, rfl, rfl, rfl⟩
theorem fa_X0_51 : FA RX0 51 9 5 (.array .long) true RX10 := ⟨RX10, TX10, 8, tyX10, rfl, in_X10, tyX10_ok, nmX10, by decide, c_3_75, rfl, rfl, rfl⟩
theorem fa_X0_55 : FA RX0 55 2 2 (.array .int) true RX2 := ⟨RX2, TX2, 5, tyX2, rfl, in_X2, tyX2_ok, nmX2, by decide, c_2_141, rfl, rfl, rfl⟩
theorem fa_X0_90 : FA RX0 90 4 1 .int true RX5 := ⟨RX5, TX5, 4, tyX5, rfl, in_X5, tyX5_ok, nmX5, by decide, c_1_214, rfl, rfl, rfl⟩
theorem fa_X0_95 : FA RX0 95 4 2 (.array .long) true RX5 := ⟨RX5, TX5, 4, tyX5, rfl, in_X5, tyX5_ok, nmX5, by decide, c_1_222, rfl, rfl, rfl⟩
theorem fa_X1_9 : FA RX1 9 1 0 (.object "RecordBridge$Store") true RX1 := ⟨RX1, TX1, 4, tyX1, rfl, in_X1, tyX1_ok, nmX1, by decide, c_1_73, rfl, rfl, rfl⟩
theorem fa_X1_15 : FA RX1 15 1 1 (.array .long) true RX1 := ⟨RX1, TX1, 4, tyX1, rfl, in_X1, tyX1_ok, nmX1, by decide, c_1_74, rfl, rfl, rfl⟩
theorem fa_X1_19 : FA RX1 19 2 4 .int false RX2 := ⟨RX2, TX2, 5, tyX2, rfl, in_X2, tyX2_ok, nmX2, by decide, c_2_146, rfl, rfl, rfl⟩
theorem fa_X1_25 : FA RX1 25 2 2 (.array .int) true RX2 := ⟨RX2, TX2, 5, tyX2, rfl, in_X2, tyX2_ok, nmX2, by decide, c_2_139, rfl, rfl, rfl⟩
theorem fa_X1_39 : FA RX1 39 9 2 (.object "RecordBridge$Edition") true RX10 := ⟨RX10, TX10, 8, tyX10, rfl, in_X10, tyX10_ok, nmX10, by decide, c_3_65, rfl, rfl, rfl⟩
theorem fa_X1_45 : FA RX1 45 2 1 (.array .int) true RX2 := ⟨RX2, TX2, 5, tyX2, rfl, in_X2, tyX2_ok, nmX2, by decide, c_2_135, rfl, rfl, rfl⟩
theorem fa_X1_64 : FA RX1 64 9 5 (.array .long) true RX10 := ⟨RX10, TX10, 8, tyX10, rfl, in_X10, tyX10_ok, nmX10, by decide, c_3_76, rfl, rfl, rfl⟩
theorem fa_X1_88 : FA RX1 88 1 2 .int false RX1 := ⟨RX1, TX1, 4, tyX1, rfl, in_X1, tyX1_ok, nmX1, by decide, c_1_75, rfl, rfl, rfl⟩
theorem fa_X1_91 : FA RX1 91 1 3 .int false RX1 := ⟨RX1, TX1, 4, tyX1, rfl, in_X1, tyX1_ok, nmX1, by decide, c_1_77, rfl, rfl, rfl⟩
theorem fa_X1_98 : FA RX1 98 4 1 .int true RX5 := ⟨RX5, TX5, 4, tyX5, rfl, in_X5, tyX5_ok, nmX5, by decide, c_1_215, rfl, rfl, rfl⟩
theorem fa_X1_103 : FA RX1 103 4 2 (.array .long) true RX5 := ⟨RX5, TX5, 4, tyX5, rfl, in_X5, tyX5_ok, nmX5, by decide, c_1_223, rfl, rfl, rfl⟩
theorem fa_X1_112 : FA RX1 112 4 0 .int true RX5 := ⟨RX5, TX5, 4, tyX5, rfl, in_X5, tyX5_ok, nmX5, by decide, c_1_211, rfl, rfl, rfl⟩
theorem fa_X1_119 : FA RX1 119 4 3 .boolean true RX5 := ⟨RX5, TX5, 4, tyX5, rfl, in_X5, tyX5_ok, nmX5, by decide, c_1_226, rfl, rfl, rfl⟩
theorem fa_X1_134 : FA RX1 134 9 6 .int true RX10 := ⟨RX10, TX10, 8, tyX10, rfl, in_X10, tyX10_ok, nmX10, by decide, c_3_80, rfl, rfl, rfl⟩
theorem fa_X1_135 : FA RX1 135 9 7 .int true RX10 := ⟨RX10, TX10, 8, tyX10, rfl, in_X10, tyX10_ok, nmX10, by decide, c_3_83, rfl, rfl, rfl⟩
theorem fa_X2_9 : FA RX2 9 2 0 .int true RX2 := ⟨RX2, TX2, 5, tyX2, rfl, in_X2, tyX2_ok, nmX2, by decide, c_2_131, rfl, rfl, rfl⟩
theorem fa_X2_15 : FA RX2 15 2 1 (.array .int) true RX2 := ⟨RX2, TX2, 5, tyX2, rfl, in_X2, tyX2_ok, nmX2, by decide, c_2_134, rfl, rfl, rfl⟩
theorem fa_X2_19 : FA RX2 19 2 2 (.array .int) true RX2 := ⟨RX2, TX2, 5, tyX2, rfl, in_X2, tyX2_ok, nmX2, by decide, c_2_138, rfl, rfl, rfl⟩
theorem fa_X2_22 : FA RX2 22 2 3 (.array .int) true RX2 := ⟨RX2, TX2, 5, tyX2, rfl, in_X2, tyX2_ok, nmX2, by decide, c_2_144, rfl, rfl, rfl⟩
theorem fa_X2_30 : FA RX2 30 2 4 .int false RX2 := ⟨RX2, TX2, 5, tyX2, rfl, in_X2, tyX2_ok, nmX2, by decide, c_2_147, rfl, rfl, rfl⟩
theorem fa_X3_9 : FA RX3 9 3 0 .int true RX3 := ⟨RX3, TX3, 7, tyX3, rfl, in_X3, tyX3_ok, nmX3, by decide, c_2_160, rfl, rfl, rfl⟩
theorem fa_X3_15 : FA RX3 15 3 1 .boolean true RX3 := ⟨RX3, TX3, 7, tyX3, rfl, in_X3, tyX3_ok, nmX3, by decide, c_2_164, rfl, rfl, rfl⟩
theorem fa_X3_19 : FA RX3 19 3 2 .int true RX3 := ⟨RX3, TX3, 7, tyX3, rfl, in_X3, tyX3_ok, nmX3, by decide, c_2_168, rfl, rfl, rfl⟩
theorem fa_X3_24 : FA RX3 24 3 3 (.array (.object "RecordBridge$Edition")) true RX3 := ⟨RX3, TX3, 7, tyX3, rfl, in_X3, tyX3_ok, nmX3, by decide, c_2_170, rfl, rfl, rfl⟩
theorem fa_X3_31 : FA RX3 31 3 4 .int false RX3 := ⟨RX3, TX3, 7, tyX3, rfl, in_X3, tyX3_ok, nmX3, by decide, c_2_171, rfl, rfl, rfl⟩
theorem fa_X5_7 : FA RX5 7 4 0 .int true RX5 := ⟨RX5, TX5, 4, tyX5, rfl, in_X5, tyX5_ok, nmX5, by decide, c_1_209, rfl, rfl, rfl⟩
theorem fa_X5_13 : FA RX5 13 4 1 .int true RX5 := ⟨RX5, TX5, 4, tyX5, rfl, in_X5, tyX5_ok, nmX5, by decide, c_1_212, rfl, rfl, rfl⟩
theorem fa_X5_16 : FA RX5 16 4 2 (.array .long) true RX5 := ⟨RX5, TX5, 4, tyX5, rfl, in_X5, tyX5_ok, nmX5, by decide, c_1_218, rfl, rfl, rfl⟩
theorem fa_X5_20 : FA RX5 20 4 3 .boolean true RX5 := ⟨RX5, TX5, 4, tyX5, rfl, in_X5, tyX5_ok, nmX5, by decide, c_1_224, rfl, rfl, rfl⟩
theorem fa_X6_7 : FA RX6 7 5 0 (.object "RecordBridge$Store") true RX6 := ⟨RX6, TX6, 3, tyX6, rfl, in_X6, tyX6_ok, nmX6, by decide, c_1_128, rfl, rfl, rfl⟩
theorem fa_X6_16 : FA RX6 16 5 1 (.object "RecordBridge$Text") false RX6 := ⟨RX6, TX6, 3, tyX6, rfl, in_X6, tyX6_ok, nmX6, by decide, c_1_129, rfl, rfl, rfl⟩
theorem fa_X6_20 : FA RX6 20 5 2 (.object "RecordBridge$Text") false RX6 := ⟨RX6, TX6, 3, tyX6, rfl, in_X6, tyX6_ok, nmX6, by decide, c_1_131, rfl, rfl, rfl⟩
theorem fa_X6_30 : FA RX6 30 7 3 .boolean false RX8 := ⟨RX8, TX8, 4, tyX8, rfl, in_X8, tyX8_ok, nmX8, by decide, c_1_116, rfl, rfl, rfl⟩
theorem fa_X6_38 : FA RX6 38 9 1 (.object "RecordBridge$Kind") true RX10 := ⟨RX10, TX10, 8, tyX10, rfl, in_X10, tyX10_ok, nmX10, by decide, c_3_60, rfl, rfl, rfl⟩
theorem fa_X6_44 : FA RX6 44 3 1 .boolean true RX3 := ⟨RX3, TX3, 7, tyX3, rfl, in_X3, tyX3_ok, nmX3, by decide, c_2_166, rfl, rfl, rfl⟩
theorem fa_X6_49 : FA RX6 49 9 4 .int true RX10 := ⟨RX10, TX10, 8, tyX10, rfl, in_X10, tyX10_ok, nmX10, by decide, c_3_72, rfl, rfl, rfl⟩
theorem fa_X6_60 : FA RX6 60 3 0 .int true RX3 := ⟨RX3, TX3, 7, tyX3, rfl, in_X3, tyX3_ok, nmX3, by decide, c_2_162, rfl, rfl, rfl⟩
theorem fa_X6_63 : FA RX6 63 9 5 (.array .long) true RX10 := ⟨RX10, TX10, 8, tyX10, rfl, in_X10, tyX10_ok, nmX10, by decide, c_3_77, rfl, rfl, rfl⟩
theorem fa_X6_67 : FA RX6 67 9 2 (.object "RecordBridge$Edition") true RX10 := ⟨RX10, TX10, 8, tyX10, rfl, in_X10, tyX10_ok, nmX10, by decide, c_3_66, rfl, rfl, rfl⟩
theorem fa_X6_71 : FA RX6 71 2 1 (.array .int) true RX2 := ⟨RX2, TX2, 5, tyX2, rfl, in_X2, tyX2_ok, nmX2, by decide, c_2_136, rfl, rfl, rfl⟩
theorem fa_X6_77 : FA RX6 77 2 2 (.array .int) true RX2 := ⟨RX2, TX2, 5, tyX2, rfl, in_X2, tyX2_ok, nmX2, by decide, c_2_142, rfl, rfl, rfl⟩
theorem fa_X6_98 : FA RX6 98 4 2 (.array .long) true RX5 := ⟨RX5, TX5, 4, tyX5, rfl, in_X5, tyX5_ok, nmX5, by decide, c_1_220, rfl, rfl, rfl⟩
theorem fa_X6_103 : FA RX6 103 4 1 .int true RX5 := ⟨RX5, TX5, 4, tyX5, rfl, in_X5, tyX5_ok, nmX5, by decide, c_1_216, rfl, rfl, rfl⟩
theorem fa_X7_11 : FA RX7 11 6 0 (.array (.object "RecordBridge$Row")) true RX7 := ⟨RX7, TX7, 4, tyX7, rfl, in_X7, tyX7_ok, nmX7, by decide, c_1_37, rfl, rfl, rfl⟩
theorem fa_X7_19 : FA RX7 19 6 1 (.array (.object "RecordBridge$Value")) true RX7 := ⟨RX7, TX7, 4, tyX7, rfl, in_X7, tyX7_ok, nmX7, by decide, c_1_38, rfl, rfl, rfl⟩
theorem fa_X7_23 : FA RX7 23 6 2 .int false RX7 := ⟨RX7, TX7, 4, tyX7, rfl, in_X7, tyX7_ok, nmX7, by decide, c_1_39, rfl, rfl, rfl⟩
theorem fa_X7_27 : FA RX7 27 6 3 .int false RX7 := ⟨RX7, TX7, 4, tyX7, rfl, in_X7, tyX7_ok, nmX7, by decide, c_1_41, rfl, rfl, rfl⟩
theorem fa_X7_35 : FA RX7 35 4 2 (.array .long) true RX5 := ⟨RX5, TX5, 4, tyX5, rfl, in_X5, tyX5_ok, nmX5, by decide, c_1_221, rfl, rfl, rfl⟩
theorem fa_X7_41 : FA RX7 41 4 1 .int true RX5 := ⟨RX5, TX5, 4, tyX5, rfl, in_X5, tyX5_ok, nmX5, by decide, c_1_217, rfl, rfl, rfl⟩
theorem fa_X7_54 : FA RX7 54 9 1 (.object "RecordBridge$Kind") true RX10 := ⟨RX10, TX10, 8, tyX10, rfl, in_X10, tyX10_ok, nmX10, by decide, c_3_61, rfl, rfl, rfl⟩
theorem fa_X7_58 : FA RX7 58 3 6 .int false RX3 := ⟨RX3, TX3, 7, tyX3, rfl, in_X3, tyX3_ok, nmX3, by decide, c_2_174, rfl, rfl, rfl⟩
theorem fa_X7_63 : FA RX7 63 9 0 .int true RX10 := ⟨RX10, TX10, 8, tyX10, rfl, in_X10, tyX10_ok, nmX10, by decide, c_3_56, rfl, rfl, rfl⟩
theorem fa_X8_9 : FA RX8 9 7 0 (.array .byte) true RX8 := ⟨RX8, TX8, 4, tyX8, rfl, in_X8, tyX8_ok, nmX8, by decide, c_1_110, rfl, rfl, rfl⟩
theorem fa_X8_15 : FA RX8 15 7 1 (.array .char) true RX8 := ⟨RX8, TX8, 4, tyX8, rfl, in_X8, tyX8_ok, nmX8, by decide, c_1_112, rfl, rfl, rfl⟩
theorem fa_X8_19 : FA RX8 19 7 2 .int false RX8 := ⟨RX8, TX8, 4, tyX8, rfl, in_X8, tyX8_ok, nmX8, by decide, c_1_113, rfl, rfl, rfl⟩
theorem fa_X8_23 : FA RX8 23 7 3 .boolean false RX8 := ⟨RX8, TX8, 4, tyX8, rfl, in_X8, tyX8_ok, nmX8, by decide, c_1_115, rfl, rfl, rfl⟩
theorem fa_X9_9 : FA RX9 9 8 0 (.array .int) true RX9 := ⟨RX9, TX9, 2, tyX9, rfl, in_X9, tyX9_ok, nmX9, by decide, c_1_58, rfl, rfl, rfl⟩
theorem fa_X9_15 : FA RX9 15 8 1 (.array .long) true RX9 := ⟨RX9, TX9, 2, tyX9, rfl, in_X9, tyX9_ok, nmX9, by decide, c_1_59, rfl, rfl, rfl⟩
theorem fa_X10_7 : FA RX10 7 9 0 .int true RX10 := ⟨RX10, TX10, 8, tyX10, rfl, in_X10, tyX10_ok, nmX10, by decide, c_3_55, rfl, rfl, rfl⟩
theorem fa_X10_13 : FA RX10 13 9 1 (.object "RecordBridge$Kind") true RX10 := ⟨RX10, TX10, 8, tyX10, rfl, in_X10, tyX10_ok, nmX10, by decide, c_3_58, rfl, rfl, rfl⟩
theorem fa_X10_23 : FA RX10 23 9 2 (.object "RecordBridge$Edition") true RX10 := ⟨RX10, TX10, 8, tyX10, rfl, in_X10, tyX10_ok, nmX10, by decide, c_3_63, rfl, rfl, rfl⟩
theorem fa_X10_27 : FA RX10 27 3 6 .int false RX3 := ⟨RX3, TX3, 7, tyX3, rfl, in_X3, tyX3_ok, nmX3, by decide, c_2_173, rfl, rfl, rfl⟩
theorem fa_X10_30 : FA RX10 30 9 3 .int true RX10 := ⟨RX10, TX10, 8, tyX10, rfl, in_X10, tyX10_ok, nmX10, by decide, c_3_68, rfl, rfl, rfl⟩
theorem fa_X10_33 : FA RX10 33 9 4 .int true RX10 := ⟨RX10, TX10, 8, tyX10, rfl, in_X10, tyX10_ok, nmX10, by decide, c_3_71, rfl, rfl, rfl⟩
theorem fa_X10_36 : FA RX10 36 9 5 (.array .long) true RX10 := ⟨RX10, TX10, 8, tyX10, rfl, in_X10, tyX10_ok, nmX10, by decide, c_3_74, rfl, rfl, rfl⟩
theorem fa_X10_40 : FA RX10 40 9 6 .int true RX10 := ⟨RX10, TX10, 8, tyX10, rfl, in_X10, tyX10_ok, nmX10, by decide, c_3_79, rfl, rfl, rfl⟩
theorem fa_X10_43 : FA RX10 43 9 7 .int true RX10 := ⟨RX10, TX10, 8, tyX10, rfl, in_X10, tyX10_ok, nmX10, by decide, c_3_82, rfl, rfl, rfl⟩
theorem fa_X10_46 : FA RX10 46 2 2 (.array .int) true RX2 := ⟨RX2, TX2, 5, tyX2, rfl, in_X2, tyX2_ok, nmX2, by decide, c_2_140, rfl, rfl, rfl⟩
theorem fa_X12_7 : FA RX12 7 11 4 (.array .int) true RX12 := ⟨RX12, TX12, 46, tyX12, rfl, in_X12, tyX12_ok, nmX12, by decide, c_4_187, rfl, rfl, rfl⟩
theorem fa_X12_13 : FA RX12 13 11 5 (.array .int) true RX12 := ⟨RX12, TX12, 46, tyX12, rfl, in_X12, tyX12_ok, nmX12, by decide, c_4_188, rfl, rfl, rfl⟩
theorem fa_X12_16 : FA RX12 16 11 6 (.array .boolean) true RX12 := ⟨RX12, TX12, 46, tyX12, rfl, in_X12, tyX12_ok, nmX12, by decide, c_4_189, rfl, rfl, rfl⟩
theorem fa_X12_20 : FA RX12 20 11 7 (.array .long) true RX12 := ⟨RX12, TX12, 46, tyX12, rfl, in_X12, tyX12_ok, nmX12, by decide, c_4_190, rfl, rfl, rfl⟩
theorem fa_X12_24 : FA RX12 24 11 8 (.array .long) true RX12 := ⟨RX12, TX12, 46, tyX12, rfl, in_X12, tyX12_ok, nmX12, by decide, c_4_191, rfl, rfl, rfl⟩
theorem fa_X12_27 : FA RX12 27 11 10 (.array .boolean) true RX12 := ⟨RX12, TX12, 46, tyX12, rfl, in_X12, tyX12_ok, nmX12, by decide, c_4_193, rfl, rfl, rfl⟩
theorem fa_X12_30 : FA RX12 30 11 11 (.array .int) true RX12 := ⟨RX12, TX12, 46, tyX12, rfl, in_X12, tyX12_ok, nmX12, by decide, c_4_194, rfl, rfl, rfl⟩
theorem fa_X12_33 : FA RX12 33 11 12 (.array .boolean) true RX12 := ⟨RX12, TX12, 46, tyX12, rfl, in_X12, tyX12_ok, nmX12, by decide, c_4_195, rfl, rfl, rfl⟩
theorem fa_X12_36 : FA RX12 36 11 13 (.array .int) true RX12 := ⟨RX12, TX12, 46, tyX12, rfl, in_X12, tyX12_ok, nmX12, by decide, c_4_196, rfl, rfl, rfl⟩
theorem fa_X12_39 : FA RX12 39 11 14 (.array .int) true RX12 := ⟨RX12, TX12, 46, tyX12, rfl, in_X12, tyX12_ok, nmX12, by decide, c_4_197, rfl, rfl, rfl⟩
theorem fa_X12_42 : FA RX12 42 11 15 (.array .int) true RX12 := ⟨RX12, TX12, 46, tyX12, rfl, in_X12, tyX12_ok, nmX12, by decide, c_4_198, rfl, rfl, rfl⟩
theorem fa_X12_45 : FA RX12 45 11 16 (.array .int) true RX12 := ⟨RX12, TX12, 46, tyX12, rfl, in_X12, tyX12_ok, nmX12, by decide, c_4_199, rfl, rfl, rfl⟩
theorem fa_X12_48 : FA RX12 48 11 17 (.array .int) true RX12 := ⟨RX12, TX12, 46, tyX12, rfl, in_X12, tyX12_ok, nmX12, by decide, c_4_200, rfl, rfl, rfl⟩
theorem fa_X12_51 : FA RX12 51 11 18 (.array .int) true RX12 := ⟨RX12, TX12, 46, tyX12, rfl, in_X12, tyX12_ok, nmX12, by decide, c_4_201, rfl, rfl, rfl⟩
theorem fa_X12_54 : FA RX12 54 11 20 (.array .int) true RX12 := ⟨RX12, TX12, 46, tyX12, rfl, in_X12, tyX12_ok, nmX12, by decide, c_4_203, rfl, rfl, rfl⟩
theorem fa_X12_57 : FA RX12 57 11 21 (.array .boolean) true RX12 := ⟨RX12, TX12, 46, tyX12, rfl, in_X12, tyX12_ok, nmX12, by decide, c_4_204, rfl, rfl, rfl⟩
theorem fa_X12_60 : FA RX12 60 11 22 (.array .int) true RX12 := ⟨RX12, TX12, 46, tyX12, rfl, in_X12, tyX12_ok, nmX12, by decide, c_4_205, rfl, rfl, rfl⟩
theorem fa_X12_63 : FA RX12 63 11 23 (.array .long) true RX12 := ⟨RX12, TX12, 46, tyX12, rfl, in_X12, tyX12_ok, nmX12, by decide, c_4_206, rfl, rfl, rfl⟩
theorem fa_X12_66 : FA RX12 66 11 25 (.array .int) true RX12 := ⟨RX12, TX12, 46, tyX12, rfl, in_X12, tyX12_ok, nmX12, by decide, c_4_208, rfl, rfl, rfl⟩
theorem fa_X12_69 : FA RX12 69 11 26 (.array .int) true RX12 := ⟨RX12, TX12, 46, tyX12, rfl, in_X12, tyX12_ok, nmX12, by decide, c_4_209, rfl, rfl, rfl⟩
theorem fa_X12_72 : FA RX12 72 11 27 (.array .int) true RX12 := ⟨RX12, TX12, 46, tyX12, rfl, in_X12, tyX12_ok, nmX12, by decide, c_4_210, rfl, rfl, rfl⟩
theorem fa_X12_75 : FA RX12 75 11 28 (.array .int) true RX12 := ⟨RX12, TX12, 46, tyX12, rfl, in_X12, tyX12_ok, nmX12, by decide, c_4_211, rfl, rfl, rfl⟩
theorem fa_X12_78 : FA RX12 78 11 29 (.array .int) true RX12 := ⟨RX12, TX12, 46, tyX12, rfl, in_X12, tyX12_ok, nmX12, by decide, c_4_212, rfl, rfl, rfl⟩
theorem fa_X12_81 : FA RX12 81 11 30 (.array .int) true RX12 := ⟨RX12, TX12, 46, tyX12, rfl, in_X12, tyX12_ok, nmX12, by decide, c_4_213, rfl, rfl, rfl⟩
theorem fa_X12_84 : FA RX12 84 11 31 (.array .long) true RX12 := ⟨RX12, TX12, 46, tyX12, rfl, in_X12, tyX12_ok, nmX12, by decide, c_4_214, rfl, rfl, rfl⟩
theorem fa_X12_87 : FA RX12 87 11 32 (.array .long) true RX12 := ⟨RX12, TX12, 46, tyX12, rfl, in_X12, tyX12_ok, nmX12, by decide, c_4_215, rfl, rfl, rfl⟩
theorem fa_X12_90 : FA RX12 90 11 36 (.array .int) true RX12 := ⟨RX12, TX12, 46, tyX12, rfl, in_X12, tyX12_ok, nmX12, by decide, c_4_219, rfl, rfl, rfl⟩
theorem fa_X12_93 : FA RX12 93 11 37 (.array .int) true RX12 := ⟨RX12, TX12, 46, tyX12, rfl, in_X12, tyX12_ok, nmX12, by decide, c_4_220, rfl, rfl, rfl⟩
theorem fa_X12_96 : FA RX12 96 11 38 (.array .int) true RX12 := ⟨RX12, TX12, 46, tyX12, rfl, in_X12, tyX12_ok, nmX12, by decide, c_4_221, rfl, rfl, rfl⟩
theorem fa_X12_99 : FA RX12 99 11 39 (.array .int) true RX12 := ⟨RX12, TX12, 46, tyX12, rfl, in_X12, tyX12_ok, nmX12, by decide, c_4_222, rfl, rfl, rfl⟩
theorem fa_X12_102 : FA RX12 102 11 40 (.array .int) true RX12 := ⟨RX12, TX12, 46, tyX12, rfl, in_X12, tyX12_ok, nmX12, by decide, c_4_223, rfl, rfl, rfl⟩
theorem fa_X12_105 : FA RX12 105 11 41 (.array .int) true RX12 := ⟨RX12, TX12, 46, tyX12, rfl, in_X12, tyX12_ok, nmX12, by decide, c_4_224, rfl, rfl, rfl⟩
theorem fa_X12_108 : FA RX12 108 11 42 (.array .byte) true RX12 := ⟨RX12, TX12, 46, tyX12, rfl, in_X12, tyX12_ok, nmX12, by decide, c_4_225, rfl, rfl, rfl⟩
theorem fa_X12_112 : FA RX12 112 11 44 (.array .byte) true RX12 := ⟨RX12, TX12, 46, tyX12, rfl, in_X12, tyX12_ok, nmX12, by decide, c_4_227, rfl, rfl, rfl⟩
theorem fa_X12_117 : FA RX12 117 11 0 .int false RX12 := ⟨RX12, TX12, 46, tyX12, rfl, in_X12, tyX12_ok, nmX12, by decide, c_4_183, rfl, rfl, rfl⟩
theorem fa_X12_121 : FA RX12 121 11 1 .int false RX12 := ⟨RX12, TX12, 46, tyX12, rfl, in_X12, tyX12_ok, nmX12, by decide, c_4_184, rfl, rfl, rfl⟩
theorem fa_X12_128 : FA RX12 128 11 2 .int false RX12 := ⟨RX12, TX12, 46, tyX12, rfl, in_X12, tyX12_ok, nmX12, by decide, c_4_185, rfl, rfl, rfl⟩
theorem fa_X12_153 : FA RX12 153 11 3 .int false RX12 := ⟨RX12, TX12, 46, tyX12, rfl, in_X12, tyX12_ok, nmX12, by decide, c_4_186, rfl, rfl, rfl⟩
theorem fa_X12_199 : FA RX12 199 11 9 .int false RX12 := ⟨RX12, TX12, 46, tyX12, rfl, in_X12, tyX12_ok, nmX12, by decide, c_4_192, rfl, rfl, rfl⟩
theorem fa_X12_215 : FA RX12 215 11 24 .int false RX12 := ⟨RX12, TX12, 46, tyX12, rfl, in_X12, tyX12_ok, nmX12, by decide, c_4_207, rfl, rfl, rfl⟩
theorem fa_X12_228 : FA RX12 228 11 19 .int false RX12 := ⟨RX12, TX12, 46, tyX12, rfl, in_X12, tyX12_ok, nmX12, by decide, c_4_202, rfl, rfl, rfl⟩
theorem fa_X12_234 : FA RX12 234 11 33 .int false RX12 := ⟨RX12, TX12, 46, tyX12, rfl, in_X12, tyX12_ok, nmX12, by decide, c_4_216, rfl, rfl, rfl⟩
theorem fa_X12_237 : FA RX12 237 11 34 .int false RX12 := ⟨RX12, TX12, 46, tyX12, rfl, in_X12, tyX12_ok, nmX12, by decide, c_4_217, rfl, rfl, rfl⟩
theorem fa_X12_271 : FA RX12 271 11 35 .int false RX12 := ⟨RX12, TX12, 46, tyX12, rfl, in_X12, tyX12_ok, nmX12, by decide, c_4_218, rfl, rfl, rfl⟩
theorem fa_X12_323 : FA RX12 323 11 43 .int false RX12 := ⟨RX12, TX12, 46, tyX12, rfl, in_X12, tyX12_ok, nmX12, by decide, c_4_226, rfl, rfl, rfl⟩
theorem fa_X12_349 : FA RX12 349 11 45 .int false RX12 := ⟨RX12, TX12, 46, tyX12, rfl, in_X12, tyX12_ok, nmX12, by decide, c_4_228, rfl, rfl, rfl⟩
theorem nf_X11_9 : NF RX11 9 6 [jR none, jR none, jI 0, jI 0] := ⟨RX7, TX7, 4, tyX7, rfl, in_X7, tyX7_ok, c_1_27, c_1_28, c_1_2, rfl⟩
theorem nf_X11_18 : NF RX11 18 8 [jR none, jR none] := ⟨RX9, TX9, 2, tyX9, rfl, in_X9, tyX9_ok, c_1_52, c_1_53, c_1_3, rfl⟩
theorem nf_X11_25 : NF RX11 25 1 [jR none, jR none, jI 0, jI 0] := ⟨RX1, TX1, 4, tyX1, rfl, in_X1, tyX1_ok, c_1_67, c_1_68, c_1_4, rfl⟩
theorem nf_X11_34 : NF RX11 34 0 [jR none] := ⟨RX0, TX0, 1, tyX0, rfl, in_X0, tyX0_ok, c_1_88, c_1_89, c_1_5, rfl⟩
theorem nf_X11_41 : NF RX11 41 5 [jR none, jR none, jR none] := ⟨RX6, TX6, 3, tyX6, rfl, in_X6, tyX6_ok, c_1_98, c_1_99, c_1_6, rfl⟩
theorem nf_X11_48 : NF RX11 48 3 [jI 0, jI 0, jI 0, jR none, jI 0, jI 0, jI 0] := ⟨RX3, TX3, 7, tyX3, rfl, in_X3, tyX3_ok, c_1_139, c_2_119, c_1_14, rfl⟩
theorem nf_X11_253 : NF RX11 253 9 [jI 0, jR none, jR none, jI 0, jI 0, jR none, jI 0, jI 0] := ⟨RX10, TX10, 8, tyX10, rfl, in_X10, tyX10_ok, c_3_48, c_3_49, c_1_16, rfl⟩
theorem nf_X3_22 : NF RX3 22 2 [jI 0, jR none, jR none, jR none, jI 0] := ⟨RX2, TX2, 5, tyX2, rfl, in_X2, tyX2_ok, c_2_124, c_2_126, c_1_15, rfl⟩
theorem nf_X6_13 : NF RX6 13 7 [jR none, jR none, jI 0, jI 0] := ⟨RX8, TX8, 4, tyX8, rfl, in_X8, tyX8_ok, c_1_104, c_1_105, c_1_7, rfl⟩
theorem nf_X7_9 : NF RX7 9 4 [jI 0, jI 0, jR none, jI 0] := ⟨RX5, TX5, 4, tyX5, rfl, in_X5, tyX5_ok, c_1_33, c_1_204, c_1_9, rfl⟩
theorem nf_L_7 : NF RL 7 10 [jR none, jR none, jR none, jR none, jR none, jR none, jR none, jR none, jI 0, jI 0, jI 0, jI 0, jI 0, jI 0] := ⟨RX11, TX11, 14, tyX11, rfl, in_X11, tyX11_ok, c_1_19, c_1_20, c_1_1, rfl⟩
theorem nf_L_10 : NF RL 10 11 [jI 0, jI 0, jI 0, jI 0, jR none, jR none, jR none, jR none, jR none, jI 0, jR none, jR none, jR none, jR none, jR none, jR none, jR none, jR none, jR none, jI 0, jR none, jR none, jR none, jR none, jI 0, jR none, jR none, jR none, jR none, jR none, jR none, jR none, jR none, jI 0, jI 0, jI 0, jR none, jR none, jR none, jR none, jR none, jR none, jR none, jI 0, jR none, jI 0] := ⟨RX12, TX12, 46, tyX12, rfl, in_X12, tyX12_ok, c_4_177, c_4_178, c_1_8, rfl⟩
theorem pr_X11_addConstant : Cond.selects yX11_addConstant.cls yX11_addConstant yX11_addConstant ∈ gTbl := tbp (n := 14) 7 rfl
theorem pr_X11_failed : Cond.selects yX11_failed.cls yX11_failed yX11_failed ∈ gTbl := tbp (n := 14) 0 rfl
theorem pr_X11_findKind : Cond.selects yX11_findKind.cls yX11_findKind yX11_findKind ∈ gTbl := tbp (n := 14) 4 rfl
theorem pr_X11_finish : Cond.selects yX11_finish.cls yX11_finish yX11_finish ∈ gTbl := tbp (n := 14) 10 rfl
theorem pr_X11_freeTwin : Cond.selects yX11_freeTwin.cls yX11_freeTwin yX11_freeTwin ∈ gTbl := tbp (n := 14) 2 rfl
theorem pr_X11_hasRoomForChange : Cond.selects yX11_hasRoomForChange.cls yX11_hasRoomForChange yX11_hasRoomForChange ∈ gTbl := tbp (n := 14) 5 rfl
theorem pr_X11_leaveTrace : Cond.selects yX11_leaveTrace.cls yX11_leaveTrace yX11_leaveTrace ∈ gTbl := tbp (n := 14) 9 rfl
theorem pr_X11_lost : Cond.selects yX11_lost.cls yX11_lost yX11_lost ∈ gTbl := tbp (n := 14) 1 rfl
theorem pr_X11_newKind : Cond.selects yX11_newKind.cls yX11_newKind yX11_newKind ∈ gTbl := tbp (n := 14) 3 rfl
theorem pr_X11_start : Cond.selects yX11_start.cls yX11_start yX11_start ∈ gTbl := tbp (n := 14) 8 rfl
theorem pr_X11_weigh : Cond.selects yX11_weigh.cls yX11_weigh yX11_weigh ∈ gTbl := tbp (n := 14) 21 rfl
theorem pr_X11_weighConstant : Cond.selects yX11_weighConstant.cls yX11_weighConstant yX11_weighConstant ∈ gTbl := tbp (n := 14) 22 rfl
theorem pr_X11_weighFirstBody : Cond.selects yX11_weighFirstBody.cls yX11_weighFirstBody yX11_weighFirstBody ∈ gTbl := tbp (n := 14) 23 rfl
theorem pr_X11_weighLastBody : Cond.selects yX11_weighLastBody.cls yX11_weighLastBody yX11_weighLastBody ∈ gTbl := tbp (n := 14) 25 rfl
theorem pr_X11_weighLent : Cond.selects yX11_weighLent.cls yX11_weighLent yX11_weighLent ∈ gTbl := tbp (n := 14) 27 rfl
theorem pr_X11_weighRecord : Cond.selects yX11_weighRecord.cls yX11_weighRecord yX11_weighRecord ∈ gTbl := tbp (n := 14) 26 rfl
theorem pr_X11_weighSecondBody : Cond.selects yX11_weighSecondBody.cls yX11_weighSecondBody yX11_weighSecondBody ∈ gTbl := tbp (n := 14) 24 rfl
theorem pr_X0_compareAny : Cond.selects yX0_compareAny.cls yX0_compareAny yX0_compareAny ∈ gTbl := tbp (n := 1) 17 rfl
theorem pr_X0_compareParts : Cond.selects yX0_compareParts.cls yX0_compareParts yX0_compareParts ∈ gTbl := tbp (n := 1) 16 rfl
theorem pr_X0_compareRows : Cond.selects yX0_compareRows.cls yX0_compareRows yX0_compareRows ∈ gTbl := tbp (n := 1) 18 rfl
theorem pr_X0_hashAny : Cond.selects yX0_hashAny.cls yX0_hashAny yX0_hashAny ∈ gTbl := tbp (n := 1) 19 rfl
theorem pr_X0_hashRow : Cond.selects yX0_hashRow.cls yX0_hashRow yX0_hashRow ∈ gTbl := tbp (n := 1) 20 rfl
theorem pr_X1_exchange : Cond.selects yX1_exchange.cls yX1_exchange yX1_exchange ∈ gTbl := tbp (n := 4) 13 rfl
theorem pr_X1_hasEveryPart : Cond.selects yX1_hasEveryPart.cls yX1_hasEveryPart yX1_hasEveryPart ∈ gTbl := tbp (n := 4) 14 rfl
theorem pr_X1_isFalling : Cond.selects yX1_isFalling.cls yX1_isFalling yX1_isFalling ∈ gTbl := tbp (n := 4) 12 rfl
theorem pr_X1_measureThing : Cond.selects yX1_measureThing.cls yX1_measureThing yX1_measureThing ∈ gTbl := tbp (n := 4) 15 rfl
theorem pr_X1_rowOf : Cond.selects yX1_rowOf.cls yX1_rowOf yX1_rowOf ∈ gTbl := tbp (n := 4) 11 rfl
theorem pr_X2_exchange : Cond.selects yX2_exchange.cls yX2_exchange yX2_exchange ∈ gTbl := tbp (n := 5) 6 rfl
theorem pr_X6_writeAny : Cond.selects yX6_writeAny.cls yX6_writeAny yX6_writeAny ∈ gTbl := tbp (n := 3) 30 rfl
theorem pr_X6_writeRecord : Cond.selects yX6_writeRecord.cls yX6_writeRecord yX6_writeRecord ∈ gTbl := tbp (n := 3) 29 rfl
theorem pr_X6_writeRow : Cond.selects yX6_writeRow.cls yX6_writeRow yX6_writeRow ∈ gTbl := tbp (n := 3) 31 rfl
theorem pr_X6_writeValue : Cond.selects yX6_writeValue.cls yX6_writeValue yX6_writeValue ∈ gTbl := tbp (n := 3) 28 rfl
theorem pr_X12_adds : Cond.selects yX12_adds.cls yX12_adds yX12_adds ∈ gTbl := tbp (n := 46) 62 rfl
theorem pr_X12_addsThing : Cond.selects yX12_addsThing.cls yX12_addsThing yX12_addsThing ∈ gTbl := tbp (n := 46) 63 rfl
theorem pr_X12_breaks : Cond.selects yX12_breaks.cls yX12_breaks yX12_breaks ∈ gTbl := tbp (n := 46) 48 rfl
theorem pr_X12_constantHash : Cond.selects yX12_constantHash.cls yX12_constantHash yX12_constantHash ∈ gTbl := tbp (n := 46) 60 rfl
theorem pr_X12_constantWeight : Cond.selects yX12_constantWeight.cls yX12_constantWeight yX12_constantWeight ∈ gTbl := tbp (n := 46) 65 rfl
theorem pr_X12_counts : Cond.selects yX12_counts.cls yX12_counts yX12_counts ∈ gTbl := tbp (n := 46) 49 rfl
theorem pr_X12_editionOf : Cond.selects yX12_editionOf.cls yX12_editionOf yX12_editionOf ∈ gTbl := tbp (n := 46) 52 rfl
theorem pr_X12_fails : Cond.selects yX12_fails.cls yX12_fails yX12_fails ∈ gTbl := tbp (n := 46) 32 rfl
theorem pr_X12_failsLong : Cond.selects yX12_failsLong.cls yX12_failsLong yX12_failsLong ∈ gTbl := tbp (n := 46) 35 rfl
theorem pr_X12_finish : Cond.selects yX12_finish.cls yX12_finish yX12_finish ∈ gTbl := tbp (n := 46) 46 rfl
theorem pr_X12_hashPart : Cond.selects yX12_hashPart.cls yX12_hashPart yX12_hashPart ∈ gTbl := tbp (n := 46) 61 rfl
theorem pr_X12_isConstant : Cond.selects yX12_isConstant.cls yX12_isConstant yX12_isConstant ∈ gTbl := tbp (n := 46) 50 rfl
theorem pr_X12_isKind : Cond.selects yX12_isKind.cls yX12_isKind yX12_isKind ∈ gTbl := tbp (n := 46) 39 rfl
theorem pr_X12_isRow : Cond.selects yX12_isRow.cls yX12_isRow yX12_isRow ∈ gTbl := tbp (n := 46) 34 rfl
theorem pr_X12_isTwinned : Cond.selects yX12_isTwinned.cls yX12_isTwinned yX12_isTwinned ∈ gTbl := tbp (n := 46) 47 rfl
theorem pr_X12_isValue : Cond.selects yX12_isValue.cls yX12_isValue yX12_isValue ∈ gTbl := tbp (n := 46) 36 rfl
theorem pr_X12_laneOf : Cond.selects yX12_laneOf.cls yX12_laneOf yX12_laneOf ∈ gTbl := tbp (n := 46) 54 rfl
theorem pr_X12_meet : Cond.selects yX12_meet.cls yX12_meet yX12_meet ∈ gTbl := tbp (n := 46) 56 rfl
theorem pr_X12_newConstant : Cond.selects yX12_newConstant.cls yX12_newConstant yX12_newConstant ∈ gTbl := tbp (n := 46) 42 rfl
theorem pr_X12_newKind : Cond.selects yX12_newKind.cls yX12_newKind yX12_newKind ∈ gTbl := tbp (n := 46) 38 rfl
theorem pr_X12_newRow : Cond.selects yX12_newRow.cls yX12_newRow yX12_newRow ∈ gTbl := tbp (n := 46) 33 rfl
theorem pr_X12_newValue : Cond.selects yX12_newValue.cls yX12_newValue yX12_newValue ∈ gTbl := tbp (n := 46) 43 rfl
theorem pr_X12_newestOf : Cond.selects yX12_newestOf.cls yX12_newestOf yX12_newestOf ∈ gTbl := tbp (n := 46) 41 rfl
theorem pr_X12_numbers : Cond.selects yX12_numbers.cls yX12_numbers yX12_numbers ∈ gTbl := tbp (n := 46) 59 rfl
theorem pr_X12_ordered : Cond.selects yX12_ordered.cls yX12_ordered yX12_ordered ∈ gTbl := tbp (n := 46) 55 rfl
theorem pr_X12_partsOf : Cond.selects yX12_partsOf.cls yX12_partsOf yX12_partsOf ∈ gTbl := tbp (n := 46) 51 rfl
theorem pr_X12_placeOf : Cond.selects yX12_placeOf.cls yX12_placeOf yX12_placeOf ∈ gTbl := tbp (n := 46) 40 rfl
theorem pr_X12_push : Cond.selects yX12_push.cls yX12_push yX12_push ∈ gTbl := tbp (n := 46) 57 rfl
theorem pr_X12_recordWeight : Cond.selects yX12_recordWeight.cls yX12_recordWeight yX12_recordWeight ∈ gTbl := tbp (n := 46) 66 rfl
theorem pr_X12_rowHash : Cond.selects yX12_rowHash.cls yX12_rowHash yX12_rowHash ∈ gTbl := tbp (n := 46) 64 rfl
theorem pr_X12_says : Cond.selects yX12_says.cls yX12_says yX12_says ∈ gTbl := tbp (n := 46) 68 rfl
theorem pr_X12_saysCell : Cond.selects yX12_saysCell.cls yX12_saysCell yX12_saysCell ∈ gTbl := tbp (n := 46) 71 rfl
theorem pr_X12_saysNext : Cond.selects yX12_saysNext.cls yX12_saysNext yX12_saysNext ∈ gTbl := tbp (n := 46) 70 rfl
theorem pr_X12_saysNumber : Cond.selects yX12_saysNumber.cls yX12_saysNumber yX12_saysNumber ∈ gTbl := tbp (n := 46) 69 rfl
theorem pr_X12_saysRow : Cond.selects yX12_saysRow.cls yX12_saysRow yX12_saysRow ∈ gTbl := tbp (n := 46) 72 rfl
theorem pr_X12_saysThing : Cond.selects yX12_saysThing.cls yX12_saysThing yX12_saysThing ∈ gTbl := tbp (n := 46) 67 rfl
theorem pr_X12_starts : Cond.selects yX12_starts.cls yX12_starts yX12_starts ∈ gTbl := tbp (n := 46) 44 rfl
theorem pr_X12_step : Cond.selects yX12_step.cls yX12_step yX12_step ∈ gTbl := tbp (n := 46) 58 rfl
theorem pr_X12_toldPart : Cond.selects yX12_toldPart.cls yX12_toldPart yX12_toldPart ∈ gTbl := tbp (n := 46) 53 rfl
theorem pr_X12_traced : Cond.selects yX12_traced.cls yX12_traced yX12_traced ∈ gTbl := tbp (n := 46) 45 rfl
theorem pr_X12_twinOf : Cond.selects yX12_twinOf.cls yX12_twinOf yX12_twinOf ∈ gTbl := tbp (n := 46) 37 rfl
theorem mf_X11_init : MF u_X11_init 0 := ⟨c_1_23, c_1_1, ⟨by decide, by decide, by decide +kernel⟩, by decide⟩
theorem mf_X11_accessor : MF u_X11_accessor 2 := ⟨c_4_0, c_1_1, ⟨by decide, by decide, by decide +kernel⟩, by decide⟩
theorem mf_X11_addConstant : MF u_X11_addConstant 2 := ⟨c_3_47, c_1_1, ⟨by decide, by decide, by decide +kernel⟩, by decide⟩
theorem mf_X11_array : MF u_X11_array 3 := ⟨c_4_8, c_1_1, ⟨by decide, by decide, by decide +kernel⟩, by decide⟩
theorem mf_X11_at : MF u_X11_at 2 := ⟨c_2_73, c_1_1, ⟨by decide, by decide, by decide +kernel⟩, by decide⟩
theorem mf_X11_byteAt : MF u_X11_byteAt 1 := ⟨c_4_153, c_1_1, ⟨by decide, by decide, by decide +kernel⟩, by decide⟩
theorem mf_X11_carry : MF u_X11_carry 1 := ⟨c_4_157, c_1_1, ⟨by decide, by decide, by decide +kernel⟩, by decide⟩
theorem mf_X11_change : MF u_X11_change 4 := ⟨c_3_27, c_1_1, ⟨by decide, by decide, by decide +kernel⟩, by decide⟩
theorem mf_X11_constants : MF u_X11_constants 1 := ⟨c_2_194, c_1_1, ⟨by decide, by decide, by decide +kernel⟩, by decide⟩
theorem mf_X11_copy : MF u_X11_copy 5 := ⟨c_2_89, c_1_1, ⟨by decide, by decide, by decide +kernel⟩, by decide⟩
theorem mf_X11_edition : MF u_X11_edition 4 := ⟨c_2_233, c_1_1, ⟨by decide, by decide, by decide +kernel⟩, by decide⟩
theorem mf_X11_equal : MF u_X11_equal 2 := ⟨c_4_22, c_1_1, ⟨by decide, by decide, by decide +kernel⟩, by decide⟩
theorem mf_X11_failed : MF u_X11_failed 1 := ⟨c_1_199, c_1_1, ⟨by decide, by decide, by decide +kernel⟩, by decide⟩
theorem mf_X11_family : MF u_X11_family 2 := ⟨c_3_109, c_1_1, ⟨by decide, by decide, by decide +kernel⟩, by decide⟩
theorem mf_X11_fault : MF u_X11_fault 0 := ⟨c_4_172, c_1_1, ⟨by decide, by decide, by decide +kernel⟩, by decide⟩
theorem mf_X11_findKind : MF u_X11_findKind 1 := ⟨c_2_202, c_1_1, ⟨by decide, by decide, by decide +kernel⟩, by decide⟩
theorem mf_X11_finish : MF u_X11_finish 1 := ⟨c_3_164, c_1_1, ⟨by decide, by decide, by decide +kernel⟩, by decide⟩
theorem mf_X11_freeTwin : MF u_X11_freeTwin 1 := ⟨c_2_104, c_1_1, ⟨by decide, by decide, by decide +kernel⟩, by decide⟩
theorem mf_X11_get : MF u_X11_get 3 := ⟨c_2_53, c_1_1, ⟨by decide, by decide, by decide +kernel⟩, by decide⟩
theorem mf_X11_give : MF u_X11_give 3 := ⟨c_3_117, c_1_1, ⟨by decide, by decide, by decide +kernel⟩, by decide⟩
theorem mf_X11_hand : MF u_X11_hand 3 := ⟨c_3_128, c_1_1, ⟨by decide, by decide, by decide +kernel⟩, by decide⟩
theorem mf_X11_hasRoomForChange : MF u_X11_hasRoomForChange 2 := ⟨c_3_0, c_1_1, ⟨by decide, by decide, by decide +kernel⟩, by decide⟩
theorem mf_X11_hash : MF u_X11_hash 1 := ⟨c_4_60, c_1_1, ⟨by decide, by decide, by decide +kernel⟩, by decide⟩
theorem mf_X11_info : MF u_X11_info 2 := ⟨c_3_113, c_1_1, ⟨by decide, by decide, by decide +kernel⟩, by decide⟩
theorem mf_X11_isChange : MF u_X11_isChange 4 := ⟨c_2_236, c_1_1, ⟨by decide, by decide, by decide +kernel⟩, by decide⟩
theorem mf_X11_isLabel : MF u_X11_isLabel 1 := ⟨c_2_205, c_1_1, ⟨by decide, by decide, by decide +kernel⟩, by decide⟩
theorem mf_X11_isPlace : MF u_X11_isPlace 1 := ⟨c_3_120, c_1_1, ⟨by decide, by decide, by decide +kernel⟩, by decide⟩
theorem mf_X11_isWithin : MF u_X11_isWithin 3 := ⟨c_1_191, c_1_1, ⟨by decide, by decide, by decide +kernel⟩, by decide⟩
theorem mf_X11_lay : MF u_X11_lay 3 := ⟨c_2_62, c_1_1, ⟨by decide, by decide, by decide +kernel⟩, by decide⟩
theorem mf_X11_leaveTrace : MF u_X11_leaveTrace 1 := ⟨c_3_144, c_1_1, ⟨by decide, by decide, by decide +kernel⟩, by decide⟩
theorem mf_X11_length : MF u_X11_length 2 := ⟨c_2_82, c_1_1, ⟨by decide, by decide, by decide +kernel⟩, by decide⟩
theorem mf_X11_lost : MF u_X11_lost 1 := ⟨c_2_58, c_1_1, ⟨by decide, by decide, by decide +kernel⟩, by decide⟩
theorem mf_X11_make : MF u_X11_make 1 := ⟨c_3_136, c_1_1, ⟨by decide, by decide, by decide +kernel⟩, by decide⟩
theorem mf_X11_match : MF u_X11_match 2 := ⟨c_4_12, c_1_1, ⟨by decide, by decide, by decide +kernel⟩, by decide⟩
theorem mf_X11_more : MF u_X11_more 3 := ⟨c_2_198, c_1_1, ⟨by decide, by decide, by decide +kernel⟩, by decide⟩
theorem mf_X11_named : MF u_X11_named 2 := ⟨c_3_223, c_1_1, ⟨by decide, by decide, by decide +kernel⟩, by decide⟩
theorem mf_X11_newKind : MF u_X11_newKind 2 := ⟨c_2_118, c_1_1, ⟨by decide, by decide, by decide +kernel⟩, by decide⟩
theorem mf_X11_numberFault : MF u_X11_numberFault 4 := ⟨c_2_10, c_1_1, ⟨by decide, by decide, by decide +kernel⟩, by decide⟩
theorem mf_X11_of : MF u_X11_of 2 := ⟨c_4_4, c_1_1, ⟨by decide, by decide, by decide +kernel⟩, by decide⟩
theorem mf_X11_oneIf : MF u_X11_oneIf 1 := ⟨c_2_85, c_1_1, ⟨by decide, by decide, by decide +kernel⟩, by decide⟩
theorem mf_X11_order : MF u_X11_order 2 := ⟨c_4_56, c_1_1, ⟨by decide, by decide, by decide +kernel⟩, by decide⟩
theorem mf_X11_part : MF u_X11_part 2 := ⟨c_3_227, c_1_1, ⟨by decide, by decide, by decide +kernel⟩, by decide⟩
theorem mf_X11_put : MF u_X11_put 4 := ⟨c_2_0, c_1_1, ⟨by decide, by decide, by decide +kernel⟩, by decide⟩
theorem mf_X11_record : MF u_X11_record 1 := ⟨c_2_114, c_1_1, ⟨by decide, by decide, by decide +kernel⟩, by decide⟩
theorem mf_X11_row : MF u_X11_row 2 := ⟨c_1_188, c_1_1, ⟨by decide, by decide, by decide +kernel⟩, by decide⟩
theorem mf_X11_show : MF u_X11_show 1 := ⟨c_4_112, c_1_1, ⟨by decide, by decide, by decide +kernel⟩, by decide⟩
theorem mf_X11_start : MF u_X11_start 1 := ⟨c_3_140, c_1_1, ⟨by decide, by decide, by decide +kernel⟩, by decide⟩
theorem mf_X11_thingFault : MF u_X11_thingFault 2 := ⟨c_2_69, c_1_1, ⟨by decide, by decide, by decide +kernel⟩, by decide⟩
theorem mf_X11_told : MF u_X11_told 1 := ⟨c_4_176, c_1_1, ⟨by decide, by decide, by decide +kernel⟩, by decide⟩
theorem mf_X11_trace : MF u_X11_trace 0 := ⟨c_4_168, c_1_1, ⟨by decide, by decide, by decide +kernel⟩, by decide⟩
theorem mf_X11_twin : MF u_X11_twin 1 := ⟨c_2_100, c_1_1, ⟨by decide, by decide, by decide +kernel⟩, by decide⟩
theorem mf_X11_weigh : MF u_X11_weigh 1 := ⟨c_4_84, c_1_1, ⟨by decide, by decide, by decide +kernel⟩, by decide⟩
theorem mf_X11_weighConstant : MF u_X11_weighConstant 1 := ⟨c_4_88, c_1_1, ⟨by decide, by decide, by decide +kernel⟩, by decide⟩
theorem mf_X11_weighFirstBody : MF u_X11_weighFirstBody 1 := ⟨c_4_92, c_1_1, ⟨by decide, by decide, by decide +kernel⟩, by decide⟩
theorem mf_X11_weighLastBody : MF u_X11_weighLastBody 1 := ⟨c_4_100, c_1_1, ⟨by decide, by decide, by decide +kernel⟩, by decide⟩
theorem mf_X11_weighLent : MF u_X11_weighLent 0 := ⟨c_4_108, c_1_1, ⟨by decide, by decide, by decide +kernel⟩, by decide⟩
theorem mf_X11_weighRecord : MF u_X11_weighRecord 1 := ⟨c_4_104, c_1_1, ⟨by decide, by decide, by decide +kernel⟩, by decide⟩
theorem mf_X11_weighSecondBody : MF u_X11_weighSecondBody 1 := ⟨c_4_96, c_1_1, ⟨by decide, by decide, by decide +kernel⟩, by decide⟩
theorem mf_X11_weight : MF u_X11_weight 1 := ⟨c_4_80, c_1_1, ⟨by decide, by decide, by decide +kernel⟩, by decide⟩
theorem mf_X0_init : MF u_X0_init 1 := ⟨c_1_92, c_1_5, ⟨by decide, by decide, by decide +kernel⟩, by decide⟩
theorem mf_X0_compareAny : MF u_X0_compareAny 3 := ⟨c_4_41, c_1_5, ⟨by decide, by decide, by decide +kernel⟩, by decide⟩
theorem mf_X0_compareParts : MF u_X0_compareParts 2 := ⟨c_4_37, c_1_5, ⟨by decide, by decide, by decide +kernel⟩, by decide⟩
theorem mf_X0_compareRows : MF u_X0_compareRows 2 := ⟨c_4_48, c_1_5, ⟨by decide, by decide, by decide +kernel⟩, by decide⟩
theorem mf_X0_compareValues : MF u_X0_compareValues 2 := ⟨c_4_26, c_1_5, ⟨by decide, by decide, by decide +kernel⟩, by decide⟩
theorem mf_X0_hashAny : MF u_X0_hashAny 2 := ⟨c_4_68, c_1_5, ⟨by decide, by decide, by decide +kernel⟩, by decide⟩
theorem mf_X0_hashRow : MF u_X0_hashRow 1 := ⟨c_4_73, c_1_5, ⟨by decide, by decide, by decide +kernel⟩, by decide⟩
theorem mf_X0_hashValue : MF u_X0_hashValue 1 := ⟨c_4_64, c_1_5, ⟨by decide, by decide, by decide +kernel⟩, by decide⟩
theorem mf_X0_lesserFirst : MF u_X0_lesserFirst 2 := ⟨c_4_33, c_1_5, ⟨by decide, by decide, by decide +kernel⟩, by decide⟩
theorem mf_X0_nothingFirst : MF u_X0_nothingFirst 2 := ⟨c_4_29, c_1_5, ⟨by decide, by decide, by decide +kernel⟩, by decide⟩
theorem mf_X1_init : MF u_X1_init 1 := ⟨c_1_71, c_1_4, ⟨by decide, by decide, by decide +kernel⟩, by decide⟩
theorem mf_X1_countTwins : MF u_X1_countTwins 2 := ⟨c_3_168, c_1_4, ⟨by decide, by decide, by decide +kernel⟩, by decide⟩
theorem mf_X1_exchange : MF u_X1_exchange 1 := ⟨c_3_191, c_1_4, ⟨by decide, by decide, by decide +kernel⟩, by decide⟩
theorem mf_X1_hasEveryPart : MF u_X1_hasEveryPart 1 := ⟨c_3_196, c_1_4, ⟨by decide, by decide, by decide +kernel⟩, by decide⟩
theorem mf_X1_isFalling : MF u_X1_isFalling 1 := ⟨c_3_184, c_1_4, ⟨by decide, by decide, by decide +kernel⟩, by decide⟩
theorem mf_X1_measure : MF u_X1_measure 1 := ⟨c_3_202, c_1_4, ⟨by decide, by decide, by decide +kernel⟩, by decide⟩
theorem mf_X1_measureThing : MF u_X1_measureThing 1 := ⟨c_3_206, c_1_4, ⟨by decide, by decide, by decide +kernel⟩, by decide⟩
theorem mf_X1_needsTwin : MF u_X1_needsTwin 2 := ⟨c_3_176, c_1_4, ⟨by decide, by decide, by decide +kernel⟩, by decide⟩
theorem mf_X1_obeys : MF u_X1_obeys 2 := ⟨c_3_180, c_1_4, ⟨by decide, by decide, by decide +kernel⟩, by decide⟩
theorem mf_X1_rowOf : MF u_X1_rowOf 2 := ⟨c_3_172, c_1_4, ⟨by decide, by decide, by decide +kernel⟩, by decide⟩
theorem mf_X1_settle : MF u_X1_settle 2 := ⟨c_3_214, c_1_4, ⟨by decide, by decide, by decide +kernel⟩, by decide⟩
theorem mf_X1_takeTray : MF u_X1_takeTray 2 := ⟨c_3_148, c_1_4, ⟨by decide, by decide, by decide +kernel⟩, by decide⟩
theorem mf_X1_takeValue : MF u_X1_takeValue 2 := ⟨c_4_161, c_1_4, ⟨by decide, by decide, by decide +kernel⟩, by decide⟩
theorem mf_X2_init : MF u_X2_init 2 := ⟨c_2_129, c_1_15, ⟨by decide, by decide, by decide +kernel⟩, by decide⟩
theorem mf_X2_init_ : MF u_X2_init_ 2 := ⟨c_3_17, c_1_15, ⟨by decide, by decide, by decide +kernel⟩, by decide⟩
theorem mf_X2_add : MF u_X2_add 2 := ⟨c_2_228, c_1_15, ⟨by decide, by decide, by decide +kernel⟩, by decide⟩
theorem mf_X2_changeLane : MF u_X2_changeLane 2 := ⟨c_3_39, c_1_15, ⟨by decide, by decide, by decide +kernel⟩, by decide⟩
theorem mf_X2_drop : MF u_X2_drop 1 := ⟨c_3_31, c_1_15, ⟨by decide, by decide, by decide +kernel⟩, by decide⟩
theorem mf_X2_exchange : MF u_X2_exchange 2 := ⟨c_3_35, c_1_15, ⟨by decide, by decide, by decide +kernel⟩, by decide⟩
theorem mf_X2_find : MF u_X2_find 1 := ⟨c_2_220, c_1_15, ⟨by decide, by decide, by decide +kernel⟩, by decide⟩
theorem mf_X2_isFull : MF u_X2_isFull 0 := ⟨c_2_224, c_1_15, ⟨by decide, by decide, by decide +kernel⟩, by decide⟩
theorem mf_X2_reverse : MF u_X2_reverse 0 := ⟨c_3_43, c_1_15, ⟨by decide, by decide, by decide +kernel⟩, by decide⟩
theorem mf_X3_init : MF u_X3_init 3 := ⟨c_2_122, c_1_14, ⟨by decide, by decide, by decide +kernel⟩, by decide⟩
theorem mf_X3_addEdition : MF u_X3_addEdition 0 := ⟨c_3_12, c_1_14, ⟨by decide, by decide, by decide +kernel⟩, by decide⟩
theorem mf_X3_hasRoomForEdition : MF u_X3_hasRoomForEdition 0 := ⟨c_3_4, c_1_14, ⟨by decide, by decide, by decide +kernel⟩, by decide⟩
theorem mf_X3_newest : MF u_X3_newest 0 := ⟨c_2_216, c_1_14, ⟨by decide, by decide, by decide +kernel⟩, by decide⟩
theorem mf_X3_takesLane : MF u_X3_takesLane 1 := ⟨c_2_209, c_1_14, ⟨by decide, by decide, by decide +kernel⟩, by decide⟩
theorem mf_X4_come : MF u_X4_come 2 := ⟨c_2_20, c_1_10, ⟨by decide, by decide, by decide +kernel⟩, by decide⟩
theorem mf_X4_doubleBits : MF u_X4_doubleBits 1 := ⟨c_2_37, c_1_10, ⟨by decide, by decide, by decide +kernel⟩, by decide⟩
theorem mf_X4_doubleOfFloat : MF u_X4_doubleOfFloat 1 := ⟨c_2_44, c_1_10, ⟨by decide, by decide, by decide +kernel⟩, by decide⟩
theorem mf_X4_floatBits : MF u_X4_floatBits 1 := ⟨c_2_24, c_1_10, ⟨by decide, by decide, by decide +kernel⟩, by decide⟩
theorem mf_X4_hashNumber : MF u_X4_hashNumber 2 := ⟨c_4_76, c_1_10, ⟨by decide, by decide, by decide +kernel⟩, by decide⟩
theorem mf_X4_isLane : MF u_X4_isLane 1 := ⟨c_2_212, c_1_10, ⟨by decide, by decide, by decide +kernel⟩, by decide⟩
theorem mf_X4_isNumber : MF u_X4_isNumber 1 := ⟨c_2_7, c_1_10, ⟨by decide, by decide, by decide +kernel⟩, by decide⟩
theorem mf_X4_isWhole : MF u_X4_isWhole 1 := ⟨c_3_187, c_1_10, ⟨by decide, by decide, by decide +kernel⟩, by decide⟩
theorem mf_X4_isWidened : MF u_X4_isWidened 2 := ⟨c_2_17, c_1_10, ⟨by decide, by decide, by decide +kernel⟩, by decide⟩
theorem mf_X4_rank : MF u_X4_rank 2 := ⟨c_4_51, c_1_10, ⟨by decide, by decide, by decide +kernel⟩, by decide⟩
theorem mf_X4_roundedBits : MF u_X4_roundedBits 3 := ⟨c_2_27, c_1_10, ⟨by decide, by decide, by decide +kernel⟩, by decide⟩
theorem mf_X4_roundedOff : MF u_X4_roundedOff 2 := ⟨c_2_33, c_1_10, ⟨by decide, by decide, by decide +kernel⟩, by decide⟩
theorem mf_X4_tell : MF u_X4_tell 2 := ⟨c_2_76, c_1_10, ⟨by decide, by decide, by decide +kernel⟩, by decide⟩
theorem mf_X4_topBit : MF u_X4_topBit 1 := ⟨c_2_30, c_1_10, ⟨by decide, by decide, by decide +kernel⟩, by decide⟩
theorem mf_X4_widen : MF u_X4_widen 3 := ⟨c_2_41, c_1_10, ⟨by decide, by decide, by decide +kernel⟩, by decide⟩
theorem mf_X5_init : MF u_X5_init 4 := ⟨c_1_207, c_1_9, ⟨by decide, by decide, by decide +kernel⟩, by decide⟩
theorem mf_X5_hasCell : MF u_X5_hasCell 1 := ⟨c_2_14, c_1_9, ⟨by decide, by decide, by decide +kernel⟩, by decide⟩
theorem mf_X5_hasRun : MF u_X5_hasRun 2 := ⟨c_2_93, c_1_9, ⟨by decide, by decide, by decide +kernel⟩, by decide⟩
theorem mf_X6_init : MF u_X6_init 1 := ⟨c_1_102, c_1_6, ⟨by decide, by decide, by decide +kernel⟩, by decide⟩
theorem mf_X6_writeAny : MF u_X6_writeAny 2 := ⟨c_4_143, c_1_6, ⟨by decide, by decide, by decide +kernel⟩, by decide⟩
theorem mf_X6_writeRecord : MF u_X6_writeRecord 1 := ⟨c_4_139, c_1_6, ⟨by decide, by decide, by decide +kernel⟩, by decide⟩
theorem mf_X6_writeRow : MF u_X6_writeRow 1 := ⟨c_4_149, c_1_6, ⟨by decide, by decide, by decide +kernel⟩, by decide⟩
theorem mf_X6_writeValue : MF u_X6_writeValue 1 := ⟨c_4_124, c_1_6, ⟨by decide, by decide, by decide +kernel⟩, by decide⟩
theorem mf_X6_writes : MF u_X6_writes 1 := ⟨c_4_116, c_1_6, ⟨by decide, by decide, by decide +kernel⟩, by decide⟩
theorem mf_X7_init : MF u_X7_init 0 := ⟨c_1_31, c_1_2, ⟨by decide, by decide, by decide +kernel⟩, by decide⟩
theorem mf_X7_addRow : MF u_X7_addRow 3 := ⟨c_1_203, c_1_2, ⟨by decide, by decide, by decide +kernel⟩, by decide⟩
theorem mf_X7_addTwin : MF u_X7_addTwin 2 := ⟨c_2_108, c_1_2, ⟨by decide, by decide, by decide +kernel⟩, by decide⟩
theorem mf_X7_addValue : MF u_X7_addValue 1 := ⟨c_3_105, c_1_2, ⟨by decide, by decide, by decide +kernel⟩, by decide⟩
theorem mf_X7_findRow : MF u_X7_findRow 1 := ⟨c_2_4, c_1_2, ⟨by decide, by decide, by decide +kernel⟩, by decide⟩
theorem mf_X7_findValue : MF u_X7_findValue 1 := ⟨c_2_66, c_1_2, ⟨by decide, by decide, by decide +kernel⟩, by decide⟩
theorem mf_X7_hasRoomForRows : MF u_X7_hasRoomForRows 1 := ⟨c_1_195, c_1_2, ⟨by decide, by decide, by decide +kernel⟩, by decide⟩
theorem mf_X7_hasRoomForValues : MF u_X7_hasRoomForValues 1 := ⟨c_3_8, c_1_2, ⟨by decide, by decide, by decide +kernel⟩, by decide⟩
theorem mf_X8_init : MF u_X8_init 0 := ⟨c_1_108, c_1_7, ⟨by decide, by decide, by decide +kernel⟩, by decide⟩
theorem mf_X8_addNumber : MF u_X8_addNumber 1 := ⟨c_4_132, c_1_7, ⟨by decide, by decide, by decide +kernel⟩, by decide⟩
theorem mf_X8_addSign : MF u_X8_addSign 1 := ⟨c_4_128, c_1_7, ⟨by decide, by decide, by decide +kernel⟩, by decide⟩
theorem mf_X8_clear : MF u_X8_clear 0 := ⟨c_4_120, c_1_7, ⟨by decide, by decide, by decide +kernel⟩, by decide⟩
theorem mf_X9_init : MF u_X9_init 0 := ⟨c_1_56, c_1_3, ⟨by decide, by decide, by decide +kernel⟩, by decide⟩
theorem mf_X9_empty : MF u_X9_empty 1 := ⟨c_3_132, c_1_3, ⟨by decide, by decide, by decide +kernel⟩, by decide⟩
theorem mf_X9_emptyAll : MF u_X9_emptyAll 0 := ⟨c_3_219, c_1_3, ⟨by decide, by decide, by decide +kernel⟩, by decide⟩
theorem mf_X9_faultFor : MF u_X9_faultFor 2 := ⟨c_3_152, c_1_3, ⟨by decide, by decide, by decide +kernel⟩, by decide⟩
theorem mf_X9_place : MF u_X9_place 3 := ⟨c_3_124, c_1_3, ⟨by decide, by decide, by decide +kernel⟩, by decide⟩
theorem mf_X9_widenedTo : MF u_X9_widenedTo 2 := ⟨c_3_158, c_1_3, ⟨by decide, by decide, by decide +kernel⟩, by decide⟩
theorem mf_X10_init : MF u_X10_init 6 := ⟨c_3_52, c_1_16, ⟨by decide, by decide, by decide +kernel⟩, by decide⟩
theorem mf_X10_hasPart : MF u_X10_hasPart 1 := ⟨c_3_231, c_1_16, ⟨by decide, by decide, by decide +kernel⟩, by decide⟩
theorem mf_X10_tellPart : MF u_X10_tellPart 1 := ⟨c_3_235, c_1_16, ⟨by decide, by decide, by decide +kernel⟩, by decide⟩
theorem mf_X12_init : MF u_X12_init 0 := ⟨c_4_181, c_1_8, ⟨by decide, by decide, by decide +kernel⟩, by decide⟩
theorem mf_X12_accessor : MF u_X12_accessor 2 := ⟨c_6_58, c_1_8, ⟨by decide, by decide, by decide +kernel⟩, by decide⟩
theorem mf_X12_adds : MF u_X12_adds 1 := ⟨c_6_126, c_1_8, ⟨by decide, by decide, by decide +kernel⟩, by decide⟩
theorem mf_X12_addsThing : MF u_X12_addsThing 1 := ⟨c_6_130, c_1_8, ⟨by decide, by decide, by decide +kernel⟩, by decide⟩
theorem mf_X12_array : MF u_X12_array 3 := ⟨c_6_66, c_1_8, ⟨by decide, by decide, by decide +kernel⟩, by decide⟩
theorem mf_X12_at : MF u_X12_at 2 := ⟨c_5_162, c_1_8, ⟨by decide, by decide, by decide +kernel⟩, by decide⟩
theorem mf_X12_breaks : MF u_X12_breaks 2 := ⟨c_6_21, c_1_8, ⟨by decide, by decide, by decide +kernel⟩, by decide⟩
theorem mf_X12_byteAt : MF u_X12_byteAt 1 := ⟨c_6_180, c_1_8, ⟨by decide, by decide, by decide +kernel⟩, by decide⟩
theorem mf_X12_carry : MF u_X12_carry 1 := ⟨c_6_184, c_1_8, ⟨by decide, by decide, by decide +kernel⟩, by decide⟩
theorem mf_X12_comes : MF u_X12_comes 2 := ⟨c_5_111, c_1_8, ⟨by decide, by decide, by decide +kernel⟩, by decide⟩
theorem mf_X12_compared : MF u_X12_compared 3 := ⟨c_6_96, c_1_8, ⟨by decide, by decide, by decide +kernel⟩, by decide⟩
theorem mf_X12_constantHash : MF u_X12_constantHash 1 := ⟨c_6_115, c_1_8, ⟨by decide, by decide, by decide +kernel⟩, by decide⟩
theorem mf_X12_constantWeight : MF u_X12_constantWeight 1 := ⟨c_6_142, c_1_8, ⟨by decide, by decide, by decide +kernel⟩, by decide⟩
theorem mf_X12_constants : MF u_X12_constants 1 := ⟨c_5_193, c_1_8, ⟨by decide, by decide, by decide +kernel⟩, by decide⟩
theorem mf_X12_copy : MF u_X12_copy 5 := ⟨c_5_170, c_1_8, ⟨by decide, by decide, by decide +kernel⟩, by decide⟩
theorem mf_X12_counts : MF u_X12_counts 1 := ⟨c_6_25, c_1_8, ⟨by decide, by decide, by decide +kernel⟩, by decide⟩
theorem mf_X12_edition : MF u_X12_edition 4 := ⟨c_5_209, c_1_8, ⟨by decide, by decide, by decide +kernel⟩, by decide⟩
theorem mf_X12_editionOf : MF u_X12_editionOf 1 := ⟨c_6_45, c_1_8, ⟨by decide, by decide, by decide +kernel⟩, by decide⟩
theorem mf_X12_equal : MF u_X12_equal 2 := ⟨c_6_74, c_1_8, ⟨by decide, by decide, by decide +kernel⟩, by decide⟩
theorem mf_X12_fails : MF u_X12_fails 1 := ⟨c_5_92, c_1_8, ⟨by decide, by decide, by decide +kernel⟩, by decide⟩
theorem mf_X12_failsLong : MF u_X12_failsLong 1 := ⟨c_5_150, c_1_8, ⟨by decide, by decide, by decide +kernel⟩, by decide⟩
theorem mf_X12_family : MF u_X12_family 2 := ⟨c_5_225, c_1_8, ⟨by decide, by decide, by decide +kernel⟩, by decide⟩
theorem mf_X12_fault : MF u_X12_fault 0 := ⟨c_6_192, c_1_8, ⟨by decide, by decide, by decide +kernel⟩, by decide⟩
theorem mf_X12_finish : MF u_X12_finish 1 := ⟨c_6_13, c_1_8, ⟨by decide, by decide, by decide +kernel⟩, by decide⟩
theorem mf_X12_get : MF u_X12_get 3 := ⟨c_5_142, c_1_8, ⟨by decide, by decide, by decide +kernel⟩, by decide⟩
theorem mf_X12_give : MF u_X12_give 3 := ⟨c_5_233, c_1_8, ⟨by decide, by decide, by decide +kernel⟩, by decide⟩
theorem mf_X12_hand : MF u_X12_hand 3 := ⟨c_5_237, c_1_8, ⟨by decide, by decide, by decide +kernel⟩, by decide⟩
theorem mf_X12_hash : MF u_X12_hash 1 := ⟨c_6_111, c_1_8, ⟨by decide, by decide, by decide +kernel⟩, by decide⟩
theorem mf_X12_hashPart : MF u_X12_hashPart 1 := ⟨c_6_119, c_1_8, ⟨by decide, by decide, by decide +kernel⟩, by decide⟩
theorem mf_X12_in : MF u_X12_in 3 := ⟨c_5_88, c_1_8, ⟨by decide, by decide, by decide +kernel⟩, by decide⟩
theorem mf_X12_info : MF u_X12_info 2 := ⟨c_5_229, c_1_8, ⟨by decide, by decide, by decide +kernel⟩, by decide⟩
theorem mf_X12_isBeyond : MF u_X12_isBeyond 3 := ⟨c_5_173, c_1_8, ⟨by decide, by decide, by decide +kernel⟩, by decide⟩
theorem mf_X12_isConstant : MF u_X12_isConstant 1 := ⟨c_6_37, c_1_8, ⟨by decide, by decide, by decide +kernel⟩, by decide⟩
theorem mf_X12_isKind : MF u_X12_isKind 1 := ⟨c_5_201, c_1_8, ⟨by decide, by decide, by decide +kernel⟩, by decide⟩
theorem mf_X12_isRow : MF u_X12_isRow 1 := ⟨c_5_105, c_1_8, ⟨by decide, by decide, by decide +kernel⟩, by decide⟩
theorem mf_X12_isTwinned : MF u_X12_isTwinned 2 := ⟨c_6_17, c_1_8, ⟨by decide, by decide, by decide +kernel⟩, by decide⟩
theorem mf_X12_isValue : MF u_X12_isValue 1 := ⟨c_5_158, c_1_8, ⟨by decide, by decide, by decide +kernel⟩, by decide⟩
theorem mf_X12_isWidened : MF u_X12_isWidened 2 := ⟨c_5_108, c_1_8, ⟨by decide, by decide, by decide +kernel⟩, by decide⟩
theorem mf_X12_laneOf : MF u_X12_laneOf 2 := ⟨c_6_53, c_1_8, ⟨by decide, by decide, by decide +kernel⟩, by decide⟩
theorem mf_X12_lay : MF u_X12_lay 3 := ⟨c_5_154, c_1_8, ⟨by decide, by decide, by decide +kernel⟩, by decide⟩
theorem mf_X12_length : MF u_X12_length 2 := ⟨c_5_166, c_1_8, ⟨by decide, by decide, by decide +kernel⟩, by decide⟩
theorem mf_X12_lost : MF u_X12_lost 0 := ⟨c_5_145, c_1_8, ⟨by decide, by decide, by decide +kernel⟩, by decide⟩
theorem mf_X12_make : MF u_X12_make 1 := ⟨c_6_1, c_1_8, ⟨by decide, by decide, by decide +kernel⟩, by decide⟩
theorem mf_X12_match : MF u_X12_match 2 := ⟨c_6_70, c_1_8, ⟨by decide, by decide, by decide +kernel⟩, by decide⟩
theorem mf_X12_meet : MF u_X12_meet 2 := ⟨c_6_82, c_1_8, ⟨by decide, by decide, by decide +kernel⟩, by decide⟩
theorem mf_X12_more : MF u_X12_more 3 := ⟨c_5_197, c_1_8, ⟨by decide, by decide, by decide +kernel⟩, by decide⟩
theorem mf_X12_named : MF u_X12_named 2 := ⟨c_6_29, c_1_8, ⟨by decide, by decide, by decide +kernel⟩, by decide⟩
theorem mf_X12_newConstant : MF u_X12_newConstant 2 := ⟨c_5_217, c_1_8, ⟨by decide, by decide, by decide +kernel⟩, by decide⟩
theorem mf_X12_newKind : MF u_X12_newKind 2 := ⟨c_5_189, c_1_8, ⟨by decide, by decide, by decide +kernel⟩, by decide⟩
theorem mf_X12_newRow : MF u_X12_newRow 2 := ⟨c_5_96, c_1_8, ⟨by decide, by decide, by decide +kernel⟩, by decide⟩
theorem mf_X12_newValue : MF u_X12_newValue 1 := ⟨c_5_221, c_1_8, ⟨by decide, by decide, by decide +kernel⟩, by decide⟩
theorem mf_X12_newestOf : MF u_X12_newestOf 1 := ⟨c_5_213, c_1_8, ⟨by decide, by decide, by decide +kernel⟩, by decide⟩
theorem mf_X12_numberHash : MF u_X12_numberHash 2 := ⟨c_6_122, c_1_8, ⟨by decide, by decide, by decide +kernel⟩, by decide⟩
theorem mf_X12_numbers : MF u_X12_numbers 2 := ⟨c_6_103, c_1_8, ⟨by decide, by decide, by decide +kernel⟩, by decide⟩
theorem mf_X12_of : MF u_X12_of 2 := ⟨c_6_62, c_1_8, ⟨by decide, by decide, by decide +kernel⟩, by decide⟩
theorem mf_X12_order : MF u_X12_order 2 := ⟨c_6_107, c_1_8, ⟨by decide, by decide, by decide +kernel⟩, by decide⟩
theorem mf_X12_ordered : MF u_X12_ordered 2 := ⟨c_6_78, c_1_8, ⟨by decide, by decide, by decide +kernel⟩, by decide⟩
theorem mf_X12_part : MF u_X12_part 2 := ⟨c_6_33, c_1_8, ⟨by decide, by decide, by decide +kernel⟩, by decide⟩
theorem mf_X12_partsOf : MF u_X12_partsOf 1 := ⟨c_6_41, c_1_8, ⟨by decide, by decide, by decide +kernel⟩, by decide⟩
theorem mf_X12_placeOf : MF u_X12_placeOf 2 := ⟨c_5_205, c_1_8, ⟨by decide, by decide, by decide +kernel⟩, by decide⟩
theorem mf_X12_push : MF u_X12_push 2 := ⟨c_6_89, c_1_8, ⟨by decide, by decide, by decide +kernel⟩, by decide⟩
theorem mf_X12_put : MF u_X12_put 4 := ⟨c_5_101, c_1_8, ⟨by decide, by decide, by decide +kernel⟩, by decide⟩
theorem mf_X12_record : MF u_X12_record 1 := ⟨c_5_185, c_1_8, ⟨by decide, by decide, by decide +kernel⟩, by decide⟩
theorem mf_X12_recordWeight : MF u_X12_recordWeight 1 := ⟨c_6_146, c_1_8, ⟨by decide, by decide, by decide +kernel⟩, by decide⟩
theorem mf_X12_row : MF u_X12_row 2 := ⟨c_5_85, c_1_8, ⟨by decide, by decide, by decide +kernel⟩, by decide⟩
theorem mf_X12_rowHash : MF u_X12_rowHash 1 := ⟨c_6_134, c_1_8, ⟨by decide, by decide, by decide +kernel⟩, by decide⟩
theorem mf_X12_says : MF u_X12_says 1 := ⟨c_6_158, c_1_8, ⟨by decide, by decide, by decide +kernel⟩, by decide⟩
theorem mf_X12_saysCell : MF u_X12_saysCell 2 := ⟨c_6_172, c_1_8, ⟨by decide, by decide, by decide +kernel⟩, by decide⟩
theorem mf_X12_saysNext : MF u_X12_saysNext 1 := ⟨c_6_168, c_1_8, ⟨by decide, by decide, by decide +kernel⟩, by decide⟩
theorem mf_X12_saysNumber : MF u_X12_saysNumber 1 := ⟨c_6_162, c_1_8, ⟨by decide, by decide, by decide +kernel⟩, by decide⟩
theorem mf_X12_saysRow : MF u_X12_saysRow 1 := ⟨c_6_176, c_1_8, ⟨by decide, by decide, by decide +kernel⟩, by decide⟩
theorem mf_X12_saysThing : MF u_X12_saysThing 1 := ⟨c_6_154, c_1_8, ⟨by decide, by decide, by decide +kernel⟩, by decide⟩
theorem mf_X12_show : MF u_X12_show 1 := ⟨c_6_150, c_1_8, ⟨by decide, by decide, by decide +kernel⟩, by decide⟩
theorem mf_X12_sign : MF u_X12_sign 2 := ⟨c_6_85, c_1_8, ⟨by decide, by decide, by decide +kernel⟩, by decide⟩
theorem mf_X12_starts : MF u_X12_starts 1 := ⟨c_6_5, c_1_8, ⟨by decide, by decide, by decide +kernel⟩, by decide⟩
theorem mf_X12_step : MF u_X12_step 0 := ⟨c_6_93, c_1_8, ⟨by decide, by decide, by decide +kernel⟩, by decide⟩
theorem mf_X12_told : MF u_X12_told 1 := ⟨c_6_196, c_1_8, ⟨by decide, by decide, by decide +kernel⟩, by decide⟩
theorem mf_X12_toldPart : MF u_X12_toldPart 2 := ⟨c_6_49, c_1_8, ⟨by decide, by decide, by decide +kernel⟩, by decide⟩
theorem mf_X12_trace : MF u_X12_trace 0 := ⟨c_6_188, c_1_8, ⟨by decide, by decide, by decide +kernel⟩, by decide⟩
theorem mf_X12_traced : MF u_X12_traced 1 := ⟨c_6_9, c_1_8, ⟨by decide, by decide, by decide +kernel⟩, by decide⟩
theorem mf_X12_twin : MF u_X12_twin 1 := ⟨c_5_177, c_1_8, ⟨by decide, by decide, by decide +kernel⟩, by decide⟩
theorem mf_X12_twinOf : MF u_X12_twinOf 1 := ⟨c_5_181, c_1_8, ⟨by decide, by decide, by decide +kernel⟩, by decide⟩
theorem mf_X12_weight : MF u_X12_weight 1 := ⟨c_6_138, c_1_8, ⟨by decide, by decide, by decide +kernel⟩, by decide⟩
theorem mf_X12_widened : MF u_X12_widened 3 := ⟨c_5_135, c_1_8, ⟨by decide, by decide, by decide +kernel⟩, by decide⟩
theorem mf_Jxe99ae_doubleToLongBits_ccdee : MF u_Jxe99ae_doubleToLongBits_ccdee 1 := ⟨c_5_125, c_1_12, ⟨by decide, by decide, by decide +kernel⟩, by decide⟩
theorem mf_Jxe99ae_isNaN_b9ae7 : MF u_Jxe99ae_isNaN_b9ae7 1 := ⟨c_5_128, c_1_12, ⟨by decide, by decide, by decide +kernel⟩, by decide⟩
theorem mf_Jxf58ca_floatToIntBits_5c35a : MF u_Jxf58ca_floatToIntBits_5c35a 1 := ⟨c_5_115, c_1_11, ⟨by decide, by decide, by decide +kernel⟩, by decide⟩
theorem mf_Jxf58ca_isNaN_12338 : MF u_Jxf58ca_isNaN_12338 1 := ⟨c_5_118, c_1_11, ⟨by decide, by decide, by decide +kernel⟩, by decide⟩
theorem mf_J6_bitCount_0f7a4 : MF u_J6_bitCount_0f7a4 1 := ⟨c_4_15, c_1_18, ⟨by decide, by decide, by decide +kernel⟩, by decide⟩
theorem mf_J9_max_7cf53 : MF u_J9_max_7cf53 2 := ⟨c_3_210, c_1_17, ⟨by decide, by decide, by decide +kernel⟩, by decide⟩
